/-! ===== a grid is copied ===== -/
def cpH (h : LH) (s t n : Nat) : LH := (tf_cp h.1 s t 0 0 n, h.2)
theorem cpH_ne {h : LH} {s t n e : Nat} (he : e ≠ t) : (cpH h s t n).1 e = h.1 e := by simp [cpH, tf_cp, he]
theorem cpH_in {h : LH} {s t n j : Nat} (hj : j < n) : (cpH h s t n).1 t j = h.1 s j := by
  simp only [cpH, tf_cp, if_true]
  rw [pk_cpy_in (Nat.zero_le _) (by omega)]
  simp
theorem cpH_out {h : LH} {s t n j : Nat} (hj : n ≤ j) : (cpH h s t n).1 t j = h.1 t j := by
  simp only [cpH, tf_cp, if_true]
  rw [pk_cpy_out (by omega)]
theorem sx_cp {h : LH} {d s t n : Nat} {Q : tf_Q} (Ks : tf_K s = 8) (Kt : tf_K t = 8) (hs : s < 298) (ht : t < 298) (ns : n ≤ tf_N s) (nt : n ≤ tf_N t) (hn : n < 10000) (q : Q tf_z (cpH h s t n)) : tf_Cd 298 d 1003 [.ref s, .int 0, .ref t, .int 0, .int (nI n)] h Q := by
  have hc : (nI n).toNatClampNeg = n := nI_clamp (by omega)
  have h0 : (0 : Int32).toNatClampNeg = 0 := rfl
  rw [tf_Cd_ext (by decide)]
  refine ⟨rfl, ⟨Ks, Kt, hs, ht, by decide, by decide, nI_pos (by omega), by rw [hc, h0]; omega, by rw [hc, h0]; omega⟩, ?_⟩
  rw [hc, h0]
  exact q
def cps : List (Nat × Nat × Nat) → LH → LH
  | [], h => h
  | q :: r, h => cps r (cpH h q.1 q.2.1 q.2.2)
theorem cps_ne : ∀ (l : List (Nat × Nat × Nat)) (h : LH) (e : Nat), (∀ q ∈ l, q.2.1 ≠ e) → (cps l h).1 e = h.1 e
  | [], _, _, _ => rfl
  | q :: r, h, e, hl => by rw [cps, cps_ne r _ e (fun z hz => hl z (List.mem_cons_of_mem _ hz)), cpH_ne (Ne.symm (hl q List.mem_cons_self))]
theorem cps_in {s t n j : Nat} (hj : j < n) : ∀ (l : List (Nat × Nat × Nat)) (h : LH), (s, t, n) ∈ l → (∀ q ∈ l, q.2.1 = t → q = (s, t, n)) → (∀ q ∈ l, q.2.1 ≠ s) → (cps l h).1 t j = h.1 s j
  | [], _, hm, _, _ => by cases hm
  | q :: r, h, hm, hu, hs => by
    rw [cps]
    by_cases hr : (s, t, n) ∈ r
    · rw [cps_in hj r _ hr (fun z hz => hu z (List.mem_cons_of_mem _ hz)) (fun z hz => hs z (List.mem_cons_of_mem _ hz)), cpH_ne (Ne.symm (hs q List.mem_cons_self))]
    · have e : q = (s, t, n) := by
        rcases List.mem_cons.mp hm with z | z
        · exact z.symm
        · exact absurd z hr
      subst e
      rw [cps_ne r _ t (fun z hz e => hr ((hu z (List.mem_cons_of_mem _ hz) e) ▸ hz)), cpH_in hj]
def nt_cl (b c : Nat) : List (Nat × Nat × Nat) := [(c + 1, b + 1, 7), (c + 2, b + 2, 21), (c + 3, b + 3, 21), (c + 4, b + 4, 21), (c + 5, b + 5, 21), (c + 6, b + 6, 21), (c + 7, b + 7, 21), (c + 8, b + 8, 7), (c + 9, b + 9, 7), (c + 10, b + 10, 8)]
def nt_tl (t u : Nat) : List (Nat × Nat × Nat) := [(u + 1, t + 1, 12), (u + 2, t + 2, 12), (u + 3, t + 3, 12)]
def nt_c3 (h : LH) (b c : Nat) : LH := w1 (w1 (w1 h b 0 (h.1 c 0)) b 1 (h.1 c 1)) b 2 (h.1 c 2)
def nt_c4 (h : LH) (t u : Nat) : LH := w1 (w1 (w1 (w1 h t 0 (h.1 u 0)) t 1 (h.1 u 1)) t 2 (h.1 u 2)) t 3 (h.1 u 3)
def nt_cp (h : LH) (b c : Nat) : LH := cps (nt_tl (b + 11) (c + 11)) (nt_c4 (cps (nt_cl b c) (nt_c3 h b c)) (b + 11) (c + 11))
def nt_kb (b : Nat) : Bool := !decide (tf_K b = 0) || ((List.range 10).all (fun o => decide (tf_K (b + (o + 1)) = 8)) && (List.range 3).all (fun o => decide (tf_K (b + (o + 12)) = 8) && decide (tf_N (b + (o + 12)) = 12)) && decide (tf_N (b + 1) = 7) && (List.range 6).all (fun o => decide (tf_N (b + (o + 2)) = 21)) && decide (tf_N (b + 8) = 7) && decide (tf_N (b + 9) = 7) && decide (tf_N (b + 10) = 8) && decide (b % 15 = 0))
theorem nt_kb_ok : (List.range 226).all nt_kb = true := by decide +kernel
theorem nt_KA {b : Nat} (K : tf_K b = 0) : (∀ o, 1 ≤ o → o ≤ 10 → tf_K (b + o) = 8) ∧ (∀ o, 12 ≤ o → o ≤ 14 → tf_K (b + o) = 8 ∧ tf_N (b + o) = 12) ∧ tf_N (b + 1) = 7 ∧ (∀ o, 2 ≤ o → o ≤ 7 → tf_N (b + o) = 21) ∧ tf_N (b + 8) = 7 ∧ tf_N (b + 9) = 7 ∧ tf_N (b + 10) = 8 ∧ b % 15 = 0 := by
  have hb := nt_b225 K
  have h1 := tf_rng nt_kb_ok (k := b) (by omega)
  unfold nt_kb at h1
  rw [decide_eq_true K] at h1
  simp only [Bool.not_true, Bool.false_or, Bool.and_eq_true, decide_eq_true_eq] at h1
  obtain ⟨⟨⟨⟨⟨⟨⟨a1, a2⟩, a3⟩, a4⟩, a5⟩, a6⟩, a7⟩, a8⟩ := h1
  refine ⟨fun o h1 h2 => ?_, fun o h1 h2 => ?_, a3, fun o h1 h2 => ?_, a5, a6, a7, a8⟩
  · have := of_decide_eq_true (tf_rng a1 (k := o - 1) (by omega))
    rwa [Nat.sub_add_cancel h1] at this
  · have := tf_rng a2 (k := o - 12) (by omega)
    simp only [Bool.and_eq_true, decide_eq_true_eq] at this
    rwa [Nat.sub_add_cancel h1] at this
  · have := of_decide_eq_true (tf_rng a4 (k := o - 2) (by omega))
    rwa [Nat.sub_add_cancel h1] at this
section CP
variable {h : LH} {b c d : Nat}
theorem sx_tcp {t u : Nat} (Kt : tf_K t = 4) (Ku : tf_K u = 4) (hne : t ≠ u) (h1 : ∀ o, 1 ≤ o → o ≤ 3 → (tf_K (t + o) = 8 ∧ tf_N (t + o) = 12) ∧ (tf_K (u + o) = 8 ∧ tf_N (u + o) = 12)) (ht : t < 290) (hu : u < 290) : tf_Rt (d + 1) 171 [.ref t, .ref u] h tf_z (cps (nt_tl t u) (nt_c4 h t u)) := by
  intro Q q
  obtain ⟨⟨a1, b1⟩, a2, b2⟩ := h1 1 (by omega) (by omega)
  obtain ⟨⟨a3, b3⟩, a4, b4⟩ := h1 2 (by omega) (by omega)
  obtain ⟨⟨a5, b5⟩, a6, b6⟩ := h1 3 (by omega) (by omega)
  refine en_X5_copyFrom (by decide) Kt Ku (go_X5_copyFrom_0 (by decide) Kt Ku ?_)
  have e : ∀ (g : LH) (i : Nat) (v : Int32), (tf_up g.1 t i v) u = g.1 u := fun g i v => w1_ne (h := g) (Ne.symm hne)
  have e1 : ∀ v : Int32, (tf_up h.1 t 0 v) u 1 = h.1 u 1 := fun v => congrFun (e h 0 v) 1
  simp only [e1]
  have e2 : ∀ v w : Int32, (tf_up (tf_up h.1 t 0 v) t 1 w) u 2 = h.1 u 2 := fun v w => by rw [e (w1 h t 0 v) 1 w]; exact congrFun (e h 0 v) 2
  simp only [e2]
  have e3 : ∀ v w x : Int32, (tf_up (tf_up (tf_up h.1 t 0 v) t 1 w) t 2 x) u 3 = h.1 u 3 := fun v w x => by rw [e (w1 (w1 h t 0 v) t 1 w) 2 x, show (w1 (w1 h t 0 v) t 1 w).1 u = h.1 u from (e (w1 h t 0 v) 1 w).trans (e h 0 v)]
  simp only [e3]
  exact sx_cp (n := 12) a2 a1 (by omega) (by omega) (by omega) (by omega) (by omega) (go_X5_copyFrom_47 (by decide) Kt Ku (sx_cp (n := 12) a4 a3 (by omega) (by omega) (by omega) (by omega) (by omega) (go_X5_copyFrom_62 (by decide) Kt Ku (sx_cp (n := 12) a6 a5 (by omega) (by omega) (by omega) (by omega) (by omega) (go_X5_copyFrom_77 (by decide) Kt Ku q)))))
theorem sx_ncp (K : tf_K b = 0) (Kc : tf_K c = 0) (hne : b ≠ c) : tf_Rt (d + 2) 116 [.ref b, .ref c] h tf_z (nt_cp h b c) := by
  intro Q q
  have hb := nt_b225 K
  have hc := nt_b225 Kc
  obtain ⟨k1, k2, n1, n2, n8, n9, n10, m1⟩ := nt_KA K
  obtain ⟨j1, j2, o1, o2, o8, o9, o10, m2⟩ := nt_KA Kc
  refine en_X1_copyFrom (by decide) K Kc (go_X1_copyFrom_0 (by decide) K Kc ?_)
  have e : ∀ (g : LH) (i : Nat) (v : Int32), (tf_up g.1 b i v) c = g.1 c := fun g i v => w1_ne (h := g) (Ne.symm hne)
  have e1 : ∀ v : Int32, (tf_up h.1 b 0 v) c 1 = h.1 c 1 := fun v => congrFun (e h 0 v) 1
  simp only [e1]
  have e2 : ∀ v w : Int32, (tf_up (tf_up h.1 b 0 v) b 1 w) c 2 = h.1 c 2 := fun v w => by rw [e (w1 h b 0 v) 1 w]; exact congrFun (e h 0 v) 2
  simp only [e2]
  have hT : ∀ o, 1 ≤ o → o ≤ 3 → (tf_K (b + 11 + o) = 8 ∧ tf_N (b + 11 + o) = 12) ∧ (tf_K (c + 11 + o) = 8 ∧ tf_N (c + 11 + o) = 12) := fun o h1 h2 => by
    rw [Nat.add_assoc, Nat.add_assoc]
    exact ⟨k2 (11 + o) (by omega) (by omega), j2 (11 + o) (by omega) (by omega)⟩
  have ht := fun g => sx_tcp (d := d) (h := g) (nt_K11 K) (nt_K11 Kc) (by omega) hT (by omega) (by omega)
  unfold nt_cp at q
  have p2 := n2 2 (by omega) (by omega)
  have p3 := n2 3 (by omega) (by omega)
  have p4 := n2 4 (by omega) (by omega)
  have p5 := n2 5 (by omega) (by omega)
  have p6 := n2 6 (by omega) (by omega)
  have p7 := n2 7 (by omega) (by omega)
  have r2 := o2 2 (by omega) (by omega)
  have r3 := o2 3 (by omega) (by omega)
  have r4 := o2 4 (by omega) (by omega)
  have r5 := o2 5 (by omega) (by omega)
  have r6 := o2 6 (by omega) (by omega)
  have r7 := o2 7 (by omega) (by omega)
  refine sx_cp (n := 7) (j1 1 (by omega) (by omega)) (k1 1 (by omega) (by omega)) (by omega) (by omega) (by omega) (by omega) (by omega) (go_X1_copyFrom_39 (by decide) K Kc ?_)
  refine sx_cp (n := 21) (j1 2 (by omega) (by omega)) (k1 2 (by omega) (by omega)) (by omega) (by omega) (by omega) (by omega) (by omega) (go_X1_copyFrom_54 (by decide) K Kc ?_)
  refine sx_cp (n := 21) (j1 3 (by omega) (by omega)) (k1 3 (by omega) (by omega)) (by omega) (by omega) (by omega) (by omega) (by omega) (go_X1_copyFrom_69 (by decide) K Kc ?_)
  refine sx_cp (n := 21) (j1 4 (by omega) (by omega)) (k1 4 (by omega) (by omega)) (by omega) (by omega) (by omega) (by omega) (by omega) (go_X1_copyFrom_84 (by decide) K Kc ?_)
  refine sx_cp (n := 21) (j1 5 (by omega) (by omega)) (k1 5 (by omega) (by omega)) (by omega) (by omega) (by omega) (by omega) (by omega) (go_X1_copyFrom_99 (by decide) K Kc ?_)
  refine sx_cp (n := 21) (j1 6 (by omega) (by omega)) (k1 6 (by omega) (by omega)) (by omega) (by omega) (by omega) (by omega) (by omega) (go_X1_copyFrom_114 (by decide) K Kc ?_)
  refine sx_cp (n := 21) (j1 7 (by omega) (by omega)) (k1 7 (by omega) (by omega)) (by omega) (by omega) (by omega) (by omega) (by omega) (go_X1_copyFrom_129 (by decide) K Kc ?_)
  refine sx_cp (n := 7) (j1 8 (by omega) (by omega)) (k1 8 (by omega) (by omega)) (by omega) (by omega) (by omega) (by omega) (by omega) (go_X1_copyFrom_144 (by decide) K Kc ?_)
  refine sx_cp (n := 7) (j1 9 (by omega) (by omega)) (k1 9 (by omega) (by omega)) (by omega) (by omega) (by omega) (by omega) (by omega) (go_X1_copyFrom_159 (by decide) K Kc ?_)
  refine sx_cp (n := 8) (j1 10 (by omega) (by omega)) (k1 10 (by omega) (by omega)) (by omega) (by omega) (by omega) (by omega) (by omega) (go_X1_copyFrom_174 (by decide) K Kc ?_)
  exact ht _ _ (go_X1_copyFrom_185 (by decide) K Kc q)
/-- a copy: what was there stands here, and nothing else has changed -/
def CPn (h g : LH) (b c : Nat) : Prop := (∀ e, ¬ (b ≤ e ∧ e < b + 15) → g.1 e = h.1 e) ∧ g.2 = h.2 ∧ (∀ j, j < 3 → g.1 b j = h.1 c j) ∧ (∀ o j, 1 ≤ o → o ≤ 10 → j < 7 → g.1 (b + o) j = h.1 (c + o) j) ∧ (∀ o j, 2 ≤ o → o ≤ 7 → j < 21 → g.1 (b + o) j = h.1 (c + o) j) ∧ g.1 (b + 10) 7 = h.1 (c + 10) 7 ∧ (∀ j, j < 4 → g.1 (b + 11) j = h.1 (c + 11) j) ∧ (∀ o j, 12 ≤ o → o ≤ 14 → j < 12 → g.1 (b + o) j = h.1 (c + o) j)
theorem cps_2 : ∀ (l : List (Nat × Nat × Nat)) (h : LH), (cps l h).2 = h.2
  | [], _ => rfl
  | q :: r, h => by rw [cps, cps_2 r]; rfl
theorem nt_cp_ok (K : tf_K b = 0) (Kc : tf_K c = 0) (hne : b ≠ c) : CPn h (nt_cp h b c) b c := by
  have m1 := (nt_KA K).2.2.2.2.2.2.2
  have m2 := (nt_KA Kc).2.2.2.2.2.2.2
  have far : b + 15 ≤ c ∨ c + 15 ≤ b := by omega
  have t1 : ∀ e, ¬ (b + 11 < e ∧ e < b + 15) → ∀ g : LH, (cps (nt_tl (b + 11) (c + 11)) g).1 e = g.1 e := fun e he g => cps_ne _ g e (fun q hq => by simp only [nt_tl, List.mem_cons, List.not_mem_nil, or_false] at hq; rcases hq with rfl | rfl | rfl <;> simp only <;> omega)
  have t2 : ∀ e, e ≠ b + 11 → ∀ g : LH, (nt_c4 g (b + 11) (c + 11)).1 e = g.1 e := fun e he g => by unfold nt_c4; rw [w1_ne he, w1_ne he, w1_ne he, w1_ne he]
  have t3 : ∀ e, ¬ (b < e ∧ e < b + 11) → ∀ g : LH, (cps (nt_cl b c) g).1 e = g.1 e := fun e he g => cps_ne _ g e (fun q hq => by simp only [nt_cl, List.mem_cons, List.not_mem_nil, or_false] at hq; rcases hq with rfl | rfl | rfl | rfl | rfl | rfl | rfl | rfl | rfl | rfl <;> simp only <;> omega)
  have t4 : ∀ e, e ≠ b → (nt_c3 h b c).1 e = h.1 e := fun e he => by unfold nt_c3; rw [w1_ne he, w1_ne he, w1_ne he]
  have tin : ∀ (o len j : Nat), (c + o, b + o, len) ∈ nt_cl b c → 1 ≤ o → o ≤ 10 → j < len → (nt_cp h b c).1 (b + o) j = h.1 (c + o) j := by
    intro o len j hm h1 h2 hj
    unfold nt_cp
    rw [t1 _ (by omega), t2 _ (by omega), cps_in hj (nt_cl b c) _ hm ?_ ?_, t4 _ (by omega)]
    · intro q hq e
      simp only [nt_cl, List.mem_cons, List.not_mem_nil, or_false] at hq hm
      rcases hq with rfl | rfl | rfl | rfl | rfl | rfl | rfl | rfl | rfl | rfl <;> rcases hm with hm | hm | hm | hm | hm | hm | hm | hm | hm | hm <;> (simp only [Prod.mk.injEq] at hm e ⊢ <;> omega)
    · intro q hq
      simp only [nt_cl, List.mem_cons, List.not_mem_nil, or_false] at hq
      rcases hq with rfl | rfl | rfl | rfl | rfl | rfl | rfl | rfl | rfl | rfl <;> simp only <;> omega
  refine ⟨fun e he => ?_, ?_, fun j hj => ?_, fun o j h1 h2 hj => ?_, fun o j h1 h2 hj => ?_, ?_, fun j hj => ?_, fun o j h1 h2 hj => ?_⟩
  · unfold nt_cp
    rw [t1 e (by omega), t2 e (by omega), t3 e (by omega), t4 e (by omega)]
  · unfold nt_cp
    rw [cps_2]
    show (cps (nt_cl b c) (nt_c3 h b c)).2 = h.2
    rw [cps_2]
    rfl
  · unfold nt_cp
    rw [t1 b (by omega), t2 b (by omega), t3 b (by omega)]
    unfold nt_c3
    match j, hj with
    | 0, _ => rw [w1_at (by decide), w1_at (by decide), w1_eq]
    | 1, _ => rw [w1_at (by decide), w1_eq]
    | 2, _ => rw [w1_eq]
  · match o, h1, h2 with
    | 1, _, _ => exact tin 1 7 j (by simp [nt_cl]) (by omega) (by omega) hj
    | 2, _, _ => exact tin 2 21 j (by simp [nt_cl]) (by omega) (by omega) (by omega)
    | 3, _, _ => exact tin 3 21 j (by simp [nt_cl]) (by omega) (by omega) (by omega)
    | 4, _, _ => exact tin 4 21 j (by simp [nt_cl]) (by omega) (by omega) (by omega)
    | 5, _, _ => exact tin 5 21 j (by simp [nt_cl]) (by omega) (by omega) (by omega)
    | 6, _, _ => exact tin 6 21 j (by simp [nt_cl]) (by omega) (by omega) (by omega)
    | 7, _, _ => exact tin 7 21 j (by simp [nt_cl]) (by omega) (by omega) (by omega)
    | 8, _, _ => exact tin 8 7 j (by simp [nt_cl]) (by omega) (by omega) hj
    | 9, _, _ => exact tin 9 7 j (by simp [nt_cl]) (by omega) (by omega) hj
    | 10, _, _ => exact tin 10 8 j (by simp [nt_cl]) (by omega) (by omega) (by omega)
    | o + 11, _, h2 => omega
  · match o, h1, h2 with
    | 2, _, _ => exact tin 2 21 j (by simp [nt_cl]) (by omega) (by omega) hj
    | 3, _, _ => exact tin 3 21 j (by simp [nt_cl]) (by omega) (by omega) hj
    | 4, _, _ => exact tin 4 21 j (by simp [nt_cl]) (by omega) (by omega) hj
    | 5, _, _ => exact tin 5 21 j (by simp [nt_cl]) (by omega) (by omega) hj
    | 6, _, _ => exact tin 6 21 j (by simp [nt_cl]) (by omega) (by omega) hj
    | 7, _, _ => exact tin 7 21 j (by simp [nt_cl]) (by omega) (by omega) hj
    | o + 8, _, h2 => omega
  · exact tin 10 8 7 (by simp [nt_cl]) (by omega) (by omega) (by omega)
  · unfold nt_cp
    rw [t1 (b + 11) (by omega)]
    have ec : (cps (nt_cl b c) (nt_c3 h b c)).1 (c + 11) = h.1 (c + 11) := by rw [t3 (c + 11) (by omega), t4 (c + 11) (by omega)]
    generalize cps (nt_cl b c) (nt_c3 h b c) = g at ec
    unfold nt_c4
    match j, hj with
    | 0, _ => rw [w1_at (by decide), w1_at (by decide), w1_at (by decide), w1_eq, ec]
    | 1, _ => rw [w1_at (by decide), w1_at (by decide), w1_eq, ec]
    | 2, _ => rw [w1_at (by decide), w1_eq, ec]
    | 3, _ => rw [w1_eq, ec]
  · unfold nt_cp
    have ec : ∀ e, c ≤ e → e < c + 15 → (nt_c4 (cps (nt_cl b c) (nt_c3 h b c)) (b + 11) (c + 11)).1 e = h.1 e := fun e h1 h2 => by rw [t2 e (by omega), t3 e (by omega), t4 e (by omega)]
    generalize nt_c4 (cps (nt_cl b c) (nt_c3 h b c)) (b + 11) (c + 11) = g at ec
    rw [cps_in (s := c + o) (t := b + o) (n := 12) hj (nt_tl (b + 11) (c + 11)) g ?_ ?_ ?_, ec (c + o) (by omega) (by omega)]
    · have : o = 12 ∨ o = 13 ∨ o = 14 := by omega
      rcases this with rfl | rfl | rfl <;> simp [nt_tl, Nat.add_assoc]
    · intro q hq e
      simp only [nt_tl, List.mem_cons, List.not_mem_nil, or_false] at hq
      rcases hq with rfl | rfl | rfl
      · have e2 : b + 11 + 1 = b + o := e
        have : o = 12 := by omega
        subst this
        rfl
      · have e2 : b + 11 + 2 = b + o := e
        have : o = 13 := by omega
        subst this
        rfl
      · have e2 : b + 11 + 3 = b + o := e
        have : o = 14 := by omega
        subst this
        rfl
    · intro q hq
      simp only [nt_tl, List.mem_cons, List.not_mem_nil, or_false] at hq
      rcases hq with rfl | rfl | rfl <;> simp only <;> omega
/-- a copy of a grid is a grid -/
theorem CPn.nt {g : LH} {n k m : Nat} (C : CPn h g b c) (K : tf_K b = 0) (H : NT h c n k m) : NT g b n k m := by
  obtain ⟨-, -, c0, c1, c2, -, c11, -⟩ := C
  obtain ⟨⟨-, hb, h0, h1, hu, hue, ht, hh⟩, hm, s, hs, he⟩ := H
  refine ⟨⟨K, hb, by rw [c0 0 (by omega)]; exact h0, by rw [c0 1 (by omega)]; exact h1, fun p hp => ?_, fun p hp => ?_, fun a ha => ?_, fun a ha => ?_⟩, by rw [c11 0 (by omega)]; exact hm, s, hs, by rw [c11 3 (by omega)]; exact he⟩
  · rw [c1 8 p (by omega) (by omega) hp]
    exact hu p hp
  · rw [c1 9 p (by omega) (by omega) hp]
    exact hue p hp
  · rw [c2 2 a (by omega) (by omega) (by omega)]
    exact ht a ha
  · rw [c2 3 a (by omega) (by omega) (by omega)]
    exact hh a ha
end CP
