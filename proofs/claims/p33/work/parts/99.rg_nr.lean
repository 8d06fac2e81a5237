/-! ===== the grid on both sides: what is alike ===== -/
section RGN
variable {h g r T T2 : LH} {b n k m : Nat}
/-- rows are the same -/
def RW (r T : LH) : Prop := ∀ i, i < 170 → T.1 271 i = r.1 271 i
theorem RW.rm (R : RW r T) {a w : Nat} (ha : a < 14) (hw : w < 7) : rm T a w = rm r a w := R _ (by omega)
theorem EG.rw {p q : Nat} {id : Int32} (R : RW r T) (hn : n ≤ 7) (hk : k ≤ 14) (hp : p < n) (E : EG r n k p q id) : EG T n k p q id := by
  rcases E with ⟨a1, a2, a3⟩ | ⟨a1, a, ha, a2, a3, a4⟩
  · exact Or.inl ⟨a1, a2, by rw [R _ (by omega)]; exact a3⟩
  · refine Or.inr ⟨a1, a, ha, a2, ?_, ?_⟩
    · unfold rf_hangs at a3 ⊢
      rw [R.rm (by omega) (by omega)]
      exact a3
    · rw [R.rm (by omega) (by omega), R.rm (by omega) (by omega)]
      exact a4
theorem RW.sy (R : RW r T) : RW T r := fun i hi => (R i hi).symm
theorem RW.tr {q : LH} (R : RW r T) (S : RW T q) : RW r q := fun i hi => (S i hi).trans (R i hi)
/-- the class's tree hangs by the row's edges -/
def NRt (h : LH) (b : Nat) (r : LH) (n k : Nat) : Prop := ∃ T, LT T n k ∧ PR T n k ∧ RW r T ∧ CT h b T n ∧ PRe h b T n ∧ TS T n k ∧ KSx T n k
theorem NRt.to (N : NRt h b r n k) (A : ∀ a, a < k → rm r a 0 ≠ rm r a 1) (L2 : LT T2 n k) (P2 : PR T2 n k) (R2 : RW r T2) : CT h b T2 n ∧ PRe h b T2 n ∧ TS T2 n k := by
  obtain ⟨T, L, P, R, C, Pe, S, -⟩ := N
  have n7 := L.1.1.2.1
  have k14 := L.1.1.2.2
  have A2 : ∀ a, a < k → rm T2 a 0 ≠ rm T2 a 1 := fun a ha => by rw [R2.rm (by omega) (by omega), R2.rm (by omega) (by omega)]; exact A a ha
  have R12 : RW T T2 := R.sy.tr R2
  have C2 : CT h b T2 n := ct_uni L2 A2 (fun p hp => ⟨uf T p, T.1 282 p, (L.up hp).1, (C p hp).1, (C p hp).2, EG.rw R12 n7 k14 hp (L.at hp).2.2.2.2.2⟩) (fun p q id hp E => by
    obtain ⟨s, hs, e⟩ := S p q id hp (EG.rw R12.sy n7 k14 hp E)
    exact ⟨s, hs, by rw [(C s hs).2, e]⟩)
  have same : ∀ p, p < n → uf T2 p = uf T p ∧ T2.1 282 p = T.1 282 p := fun p hp => ⟨(cI_inj n7 (L2.up hp).1 (L.up hp).1).mp ((C2 p hp).1.symm.trans (C p hp).1), eK_inj n7 k14 ((L2.at hp).2.2.2.2.2.ed hp) ((L.at hp).2.2.2.2.2.ed hp) ((C2 p hp).2.symm.trans (C p hp).2)⟩
  refine ⟨C2, ⟨Pe.1, fun p hp => ?_⟩, fun p q id hp E => ?_⟩
  · rw [Pe.2 p hp]
    have main : ∀ (d p : Nat), p ≤ n → df T p ≤ d → T.1 284 p = T2.1 284 p := by
      intro d
      induction d with
      | zero =>
        intro p hp hd
        have : p = n := (L.d0 hp).mp (by omega)
        rw [this, P.1, P2.1]
      | succ d ih =>
        intro p hp hd
        rcases Nat.lt_or_ge p n with z | z
        · have up := L.up z
          have i := ih (uf T p) up.1 (by omega)
          obtain ⟨s1, s2⟩ := same p z
          rcases P.at L z with ⟨-, e, pr⟩ | ⟨-, -, a, ha, e, en⟩
          · rcases P2.at L2 z with ⟨-, -, pr2⟩ | ⟨-, -, c, hc, e2, -⟩
            · rw [pr, pr2, R12 _ (by omega)]
            · rw [s2, e] at e2
              have := (nI_eq (by omega) (by omega)).mp e2
              omega
          · rcases P2.at L2 z with ⟨-, e2, -⟩ | ⟨-, -, c, hc, e2, en2⟩
            · rw [s2, e] at e2
              have := (nI_eq (by omega) (by omega)).mp e2
              omega
            · rw [s2, e] at e2
              have ac : a = c := (nI_eq (by omega) (by omega)).mp e2
              subst ac
              rw [s1, R12.rm (by omega) (by omega), R12.rm (by omega) (by omega), R12.rm (by omega) (by omega)] at en2
              have ne := A a ha
              rw [← R.rm (by omega) (by omega), ← R.rm (by omega) (by omega)] at ne
              rcases en with ⟨m1, m2, pr⟩ | ⟨m1, m2, pr⟩ <;> rcases en2 with ⟨m3, m4, pr2⟩ | ⟨m3, m4, pr2⟩
              · rw [pr, pr2, i]
              · exact absurd (m3.trans m1.symm) ne
              · exact absurd (m1.trans m3.symm) ne
              · rw [pr, pr2, i]
        · have : p = n := by omega
          rw [this, P.1, P2.1]
    exact main (df T p) p (Nat.le_of_lt hp) (Nat.le_refl _)
  · obtain ⟨s, hs, e⟩ := S p q id hp (EG.rw R12.sy n7 k14 hp E)
    exact ⟨s, hs, by rw [(same s hs).2, e]⟩
theorem NRt.ks (N : NRt h b r n k) (A : ∀ a, a < k → rm r a 0 ≠ rm r a 1) (L2 : LT T2 n k) (P2 : PR T2 n k) (R2 : RW r T2) : KSx T2 n k := by
  have to := NRt.to N A L2 P2 R2
  obtain ⟨T, L, P, R, C, Pe, S, K⟩ := N
  have n7 := L.1.1.2.1
  have k14 := L.1.1.2.2
  have R12 : RW T T2 := R.sy.tr R2
  exact K.to n7 k14 (fun i _ hi _ => R12 i hi) (fun p hp => eK_inj n7 k14 ((L2.at hp).2.2.2.2.2.ed hp) ((L.at hp).2.2.2.2.2.ed hp) ((to.1 p hp).2.symm.trans (C p hp).2))
theorem NRt.cg (N : NRt h b r n k) (R : RW r g) : NRt h b g n k := by
  obtain ⟨T, L, P, R1, C, Pe, S⟩ := N
  exact ⟨T, L, P, R.sy.tr R1, C, Pe, S⟩
theorem NRt.cl {h2 : LH} {b2 : Nat} (N : NRt h b r n k) (n7 : n ≤ 7) (e8 : ∀ p, p < 7 → h2.1 (b2 + 8) p = h.1 (b + 8) p) (e9 : ∀ p, p < 7 → h2.1 (b2 + 9) p = h.1 (b + 9) p) (e10 : ∀ p, p < 8 → h2.1 (b2 + 10) p = h.1 (b + 10) p) : NRt h2 b2 r n k := by
  obtain ⟨T, L, P, R1, C, Pe, S⟩ := N
  exact ⟨T, L, P, R1, fun p hp => by rw [e8 p (by omega), e9 p (by omega)]; exact C p hp, ⟨by rw [e10 7 (by omega)]; exact Pe.1, fun p hp => by rw [e10 p (by omega)]; exact Pe.2 p hp⟩, S⟩
/-- what stands in the grid itself -/
def NS (h : LH) (b : Nat) (r : LH) (n k : Nat) : Prop := (h.1 b 0 = nI n ∧ h.1 b 1 = nI k ∧ h.1 b 2 = r.1 271 2) ∧ (∀ p, p < n → h.1 (b + 1) p = r.1 271 (44 + p)) ∧ TLe h b r n k ∧ FLe h b r n k ∧ COe h b r n k ∧ SRe h b r k
/-- what was counted -/
def TA (h : LH) (b : Nat) (r : LH) (m : Nat) : Prop := (h.1 (b + 11) 0 = nI m ∧ r.1 271 3 = nI m) ∧ (h.1 (b + 11) 1 = r.1 271 4 ∧ h.1 (b + 11) 2 = r.1 271 5 ∧ h.1 (b + 11) 3 = r.1 271 6) ∧ r.1 271 7 = nI (if m < 12 then m else 12) ∧ ∀ j, j < 12 → j < m → h.1 (b + 12) ((m - 1 - j) % 12) = r.1 271 (8 + 3 * j) ∧ nt_told8 (h.1 (b + 13) ((m - 1 - j) % 12)) = r.1 271 (9 + 3 * j) ∧ h.1 (b + 14) ((m - 1 - j) % 12) = r.1 271 (10 + 3 * j)
def NR (h : LH) (b : Nat) (r : LH) (n k m : Nat) : Prop := NS h b r n k ∧ NRt h b r n k ∧ TA h b r m
theorem TLe.rw (R : RW r g) (hn : n ≤ 7) (hk : k ≤ 14) (E : TLe h b r n k) : TLe h b g n k := ⟨fun a ha => by rw [R.rm (by omega) (by omega), R.rm (by omega) (by omega)]; exact E.1 a ha, fun p hp => by rw [R _ (by omega)]; exact E.2 p hp⟩
theorem FLe.rw (R : RW r g) (hn : n ≤ 7) (hk : k ≤ 14) (E : FLe h b r n k) : FLe h b g n k := ⟨fun a ha => by rw [R.rm (by omega) (by omega), R.rm (by omega) (by omega)]; exact E.1 a ha, fun p hp => by rw [R _ (by omega)]; exact E.2 p hp⟩
theorem COe.rw (R : RW r g) (hk : k ≤ 14) (E : COe h b r n k) : COe h b g n k := ⟨fun a ha => by rw [R.rm (by omega) (by omega)]; exact E.1 a ha, E.2⟩
theorem SRe.rw (R : RW r g) (hk : k ≤ 14) (E : SRe h b r k) : SRe h b g k := fun a ha => by
  rw [R.rm (by omega) (by omega), R.rm (by omega) (by omega)]
  exact E a ha
theorem NR.rw (R : RW r g) (hn : n ≤ 7) (hk : k ≤ 14) (N : NR h b r n k m) : NR h b g n k m := by
  obtain ⟨⟨⟨a1, a2, a3⟩, a4, a5, a6, a7, a8⟩, t, ⟨b1, b2⟩, ⟨b3, b4, b5⟩, b6, b7⟩ := N
  refine ⟨⟨⟨a1, a2, by rw [R _ (by omega)]; exact a3⟩, fun p hp => by rw [R _ (by omega)]; exact a4 p hp, a5.rw R hn hk, a6.rw R hn hk, a7.rw R hk, a8.rw R hk⟩, t.cg R, ⟨b1, by rw [R _ (by omega)]; exact b2⟩, ⟨by rw [R _ (by omega)]; exact b3, by rw [R _ (by omega)]; exact b4, by rw [R _ (by omega)]; exact b5⟩, by rw [R _ (by omega)]; exact b6, fun j h1 h2 => by rw [R _ (by omega), R _ (by omega), R _ (by omega)]; exact b7 j h1 h2⟩
/-- the class's cells are the same -/
theorem NR.cl {h2 : LH} {b2 : Nat} (N : NR h b r n k m) (n7 : n ≤ 7) (k14 : k ≤ 14) (e0 : ∀ i, i < 3 → h2.1 b2 i = h.1 b i) (e1 : ∀ p, p < 7 → h2.1 (b2 + 1) p = h.1 (b + 1) p) (e : ∀ o, 2 ≤ o → o ≤ 7 → ∀ i, i < 21 → h2.1 (b2 + o) i = h.1 (b + o) i) (e8 : ∀ p, p < 7 → h2.1 (b2 + 8) p = h.1 (b + 8) p) (e9 : ∀ p, p < 7 → h2.1 (b2 + 9) p = h.1 (b + 9) p) (e10 : ∀ p, p < 8 → h2.1 (b2 + 10) p = h.1 (b + 10) p) (e11 : ∀ i, i < 4 → h2.1 (b2 + 11) i = h.1 (b + 11) i) (e12 : ∀ o, 12 ≤ o → o ≤ 14 → ∀ i, i < 12 → h2.1 (b2 + o) i = h.1 (b + o) i) : NR h2 b2 r n k m := by
  obtain ⟨⟨⟨a1, a2, a3⟩, a4, a5, a6, a7, a8⟩, t, ⟨b1, b2'⟩, ⟨b3, b4, b5⟩, b6, b7⟩ := N
  refine ⟨⟨⟨by rw [e0 0 (by omega)]; exact a1, by rw [e0 1 (by omega)]; exact a2, by rw [e0 2 (by omega)]; exact a3⟩, fun p hp => by rw [e1 p (by omega)]; exact a4 p hp, ⟨fun a ha => by rw [e 2 (by omega) (by omega) a (by omega), e 3 (by omega) (by omega) a (by omega)]; exact a5.1 a ha, fun p hp => by rw [e 2 (by omega) (by omega) (14 + p) (by omega), e 3 (by omega) (by omega) (14 + p) (by omega)]; exact a5.2 p hp⟩, ⟨fun a ha => by rw [e 4 (by omega) (by omega) a (by omega), e 6 (by omega) (by omega) a (by omega)]; exact a6.1 a ha, fun p hp => by rw [e 6 (by omega) (by omega) (14 + p) (by omega)]; exact a6.2 p hp⟩, ⟨fun a ha => by rw [e 5 (by omega) (by omega) a (by omega)]; exact a7.1 a ha, fun p hp => by rw [e 5 (by omega) (by omega) (14 + p) (by omega)]; exact a7.2 p hp⟩, fun a ha => by rw [e 7 (by omega) (by omega) a (by omega)]; exact a8 a ha⟩, t.cl n7 e8 e9 e10, ⟨by rw [e11 0 (by omega)]; exact b1, b2'⟩, ⟨by rw [e11 1 (by omega)]; exact b3, by rw [e11 2 (by omega)]; exact b4, by rw [e11 3 (by omega)]; exact b5⟩, b6, fun j h1 h2 => ?_⟩
  rw [e12 12 (by omega) (by omega) _ (by omega), e12 13 (by omega) (by omega) _ (by omega), e12 14 (by omega) (by omega) _ (by omega)]
  exact b7 j h1 h2
theorem NR.eq {h2 : LH} (N : NR h b r n k m) (n7 : n ≤ 7) (k14 : k ≤ 14) (e : ∀ o, o ≤ 14 → h2.1 (b + o) = h.1 (b + o)) : NR h2 b r n k m := N.cl n7 k14 (fun i _ => by rw [show h2.1 b = h.1 b from e 0 (by omega)]) (fun i _ => by rw [e 1 (by omega)]) (fun o h1 h2 i _ => by rw [e o (by omega)]) (fun i _ => by rw [e 8 (by omega)]) (fun i _ => by rw [e 9 (by omega)]) (fun i _ => by rw [e 10 (by omega)]) (fun i _ => by rw [e 11 (by omega)]) (fun o h1 h2 i _ => by rw [e o h2])
/-- a pivot is counted -/
theorem told_eK (hn : n ≤ 7) (hk : k ≤ 14) {id : Int32} (D : ED n k id) : nt_told8 (eK id) = id := by
  rcases D with ⟨a, ha, e⟩ | ⟨p, hp, e⟩
  · rw [e, eK_a (by omega)]
    unfold nt_told8
    rw [if_neg (show ¬ (14 : Int32) ≤ nI a from nI_ge (a := a) (b := 14) (by omega) (by omega))]
  · rw [e, eK_p (by omega)]
    have : ∀ p, p < 7 → nt_told8 (nI (14 + p)) = nI (100 + p) := by decide +kernel
    exact this p (by omega)
theorem ip_s_at : ∀ (f : Nat) (g : LH) (i : Nat), f ≤ 33 → (ip_s f g).1 271 (8 + i) = if 3 ≤ i ∧ i < f + 3 then g.1 271 (8 + (i - 3)) else g.1 271 (8 + i)
  | 0, g, i, hf => by
    rw [if_neg (by omega)]
    rfl
  | f + 1, g, i, hf => by
    rw [ip_s, ip_s_at f _ i (by omega)]
    by_cases z : 3 ≤ i ∧ i < f + 3
    · rw [if_pos z, if_pos (by omega), w1_at (by omega)]
    · rw [if_neg z]
      by_cases y : i = f + 3
      · rw [y, w1_eq, if_pos (by omega), show f + 3 - 3 = f by omega]
      · rw [w1_at (by omega), if_neg (by omega)]
theorem ip_s_lo : ∀ (f : Nat) (g : LH) (i : Nat), f ≤ 33 → i < 8 → (ip_s f g).1 271 i = g.1 271 i
  | 0, g, i, _, _ => rfl
  | f + 1, g, i, hf, hi => by
    rw [ip_s, ip_s_lo f _ i (by omega) hi, w1_at (by omega)]
theorem ip_at {x y z : Int32} (g : LH) : (ip g x y z).1 271 3 = g.1 271 3 + 1 ∧ (ip g x y z).1 271 4 = g.1 271 4 + (if z = 0 then 1 else 0) ∧ (ip g x y z).1 271 5 = g.1 271 5 ∧ (ip g x y z).1 271 6 = x ∧ (ip g x y z).1 271 7 = rf_le 12 (g.1 271 7 + 1) ∧ ((ip g x y z).1 271 8 = x ∧ (ip g x y z).1 271 9 = y ∧ (ip g x y z).1 271 10 = z) ∧ ∀ i, 3 ≤ i → i < 36 → (ip g x y z).1 271 (8 + i) = g.1 271 (8 + (i - 3)) := by
  unfold ip ip_6 ip_5 ip_4 ip_3
  refine ⟨?_, ?_, ?_, ?_, ?_, ⟨?_, ?_, ?_⟩, fun i h1 h2 => ?_⟩
  · rw [w1_at (by decide), w1_at (by decide), w1_eq, w1_at (by decide), w1_at (by decide), w1_at (by decide), w1_at (by decide), ip_s_lo 33 g 3 (by omega) (by omega)]
  · rw [w1_at (by decide), w1_eq, w1_at (by decide), w1_at (by decide), w1_at (by decide), w1_at (by decide), w1_at (by decide), ip_s_lo 33 g 4 (by omega) (by omega)]
  · rw [w1_at (by decide), w1_at (by decide), w1_at (by decide), w1_at (by decide), w1_at (by decide), w1_at (by decide), w1_at (by decide), ip_s_lo 33 g 5 (by omega) (by omega)]
  · rw [w1_eq]
  · rw [w1_at (by decide), w1_at (by decide), w1_at (by decide), w1_eq, w1_at (by decide), w1_at (by decide), w1_at (by decide), ip_s_lo 33 g 7 (by omega) (by omega)]
  · rw [w1_at (by decide), w1_at (by decide), w1_at (by decide), w1_at (by decide), w1_at (by decide), w1_at (by decide), w1_eq]
  · rw [w1_at (by decide), w1_at (by decide), w1_at (by decide), w1_at (by decide), w1_at (by decide), w1_eq]
  · rw [w1_at (by decide), w1_at (by decide), w1_at (by decide), w1_at (by decide), w1_eq]
  · rw [w1_at (by omega), w1_at (by omega), w1_at (by omega), w1_at (by omega), w1_at (by omega), w1_at (by omega), w1_at (by omega), ip_s_at 33 g i (by omega), if_pos (by omega)]
theorem nt_tc_at {u v w : Int32} (hh : LH) (t' : Nat) : (nt_tc hh t' m u v w).1 t' 0 = nI (m + 1) ∧ (nt_tc hh t' m u v w).1 t' 1 = hh.1 t' 1 + (if w = 0 then 1 else 0) ∧ (nt_tc hh t' m u v w).1 t' 2 = hh.1 t' 2 ∧ (nt_tc hh t' m u v w).1 t' 3 = u ∧ (∀ i, (nt_tc hh t' m u v w).1 (t' + 1) i = if i = m % 12 then u else hh.1 (t' + 1) i) ∧ (∀ i, (nt_tc hh t' m u v w).1 (t' + 2) i = if i = m % 12 then v else hh.1 (t' + 2) i) ∧ (∀ i, (nt_tc hh t' m u v w).1 (t' + 3) i = if i = m % 12 then w else hh.1 (t' + 3) i) := by
  have c0 : ∀ i, i ≠ 0 → (nt_tc0 hh t' m u v w).1 t' i = hh.1 t' i := fun i hi => by
    unfold nt_tc0
    rw [w1_at hi, w1_ne (by omega), w1_ne (by omega), w1_ne (by omega)]
  have c1 : (nt_tc0 hh t' m u v w).1 t' 0 = nI (m + 1) := by unfold nt_tc0; rw [w1_eq]
  have c2 : ∀ i, (nt_tc0 hh t' m u v w).1 (t' + 1) i = if i = m % 12 then u else hh.1 (t' + 1) i := fun i => by
    unfold nt_tc0
    rw [w1_ne (by omega), w1_ne (by omega), w1_ne (by omega)]
    by_cases z : i = m % 12
    · rw [if_pos z, z, w1_eq]
    · rw [if_neg z, w1_at z]
  have c3 : ∀ i, (nt_tc0 hh t' m u v w).1 (t' + 2) i = if i = m % 12 then v else hh.1 (t' + 2) i := fun i => by
    unfold nt_tc0
    rw [w1_ne (by omega), w1_ne (by omega)]
    by_cases z : i = m % 12
    · rw [if_pos z, z, w1_eq]
    · rw [if_neg z, w1_at z, w1_ne (by omega)]
  have c4 : ∀ i, (nt_tc0 hh t' m u v w).1 (t' + 3) i = if i = m % 12 then w else hh.1 (t' + 3) i := fun i => by
    unfold nt_tc0
    rw [w1_ne (by omega)]
    by_cases z : i = m % 12
    · rw [if_pos z, z, w1_eq]
    · rw [if_neg z, w1_at z, w1_ne (by omega), w1_ne (by omega)]
  unfold nt_tc
  by_cases wz : w = 0
  · rw [if_pos wz, if_pos wz]
    refine ⟨?_, ?_, ?_, w1_eq, fun i => ?_, fun i => ?_, fun i => ?_⟩
    · rw [w1_at (by decide), w1_at (by decide), c1]
    · rw [w1_at (by decide), w1_eq, c0 1 (by decide)]
    · rw [w1_at (by decide), w1_at (by decide), c0 2 (by decide)]
    · rw [w1_ne (by omega), w1_ne (by omega), c2]
    · rw [w1_ne (by omega), w1_ne (by omega), c3]
    · rw [w1_ne (by omega), w1_ne (by omega), c4]
  · rw [if_neg wz, if_neg wz]
    refine ⟨?_, ?_, ?_, w1_eq, fun i => ?_, fun i => ?_, fun i => ?_⟩
    · rw [w1_at (by decide), c1]
    · rw [w1_at (by decide), c0 1 (by decide), Int32.add_zero]
    · rw [w1_at (by decide), c0 2 (by decide)]
    · rw [w1_ne (by omega), c2]
    · rw [w1_ne (by omega), c3]
    · rw [w1_ne (by omega), c4]
theorem TA.piv (A : TA h b r m) {u v w id : Int32} (ev : nt_told8 v = id) : TA (nt_tc h (b + 11) m u v w) b (ip r u id w) (m + 1) := by
  obtain ⟨⟨a1, a2⟩, ⟨a3, a4, a5⟩, a6, a7⟩ := A
  obtain ⟨i3, i4, i5, i6, i7, ⟨i8, i9, i10⟩, ii⟩ := ip_at (x := u) (y := id) (z := w) r
  obtain ⟨t0, t1, t2, t3, t4, t5, t6⟩ := nt_tc_at (m := m) (u := u) (v := v) (w := w) h (b + 11)
  refine ⟨⟨t0, by rw [i3, a2, nI_1]⟩, ⟨by rw [t1, i4, a3], by rw [t2, i5, a4], by rw [t3, i6]⟩, ?_, fun j h1 h2 => ?_⟩
  · rw [i7, a6]
    unfold rf_le
    by_cases z : m < 12
    · rw [if_pos z, nI_1, if_pos (show nI (m + 1) ≤ 12 from nI_le (a := m + 1) (b := 12) (by omega) (by omega))]
      by_cases y : m + 1 < 12
      · rw [if_pos y]
      · rw [if_neg y, show m + 1 = 12 by omega]
    · rw [if_neg z, if_neg (show ¬ m + 1 < 12 by omega)]
      decide
  · rw [show b + 12 = b + 11 + 1 by omega, show b + 13 = b + 11 + 2 by omega, show b + 14 = b + 11 + 3 by omega, t4, t5, t6]
    cases j with
    | zero =>
      rw [show m + 1 - 1 - 0 = m by omega, if_pos rfl, if_pos rfl, if_pos rfl]
      exact ⟨i8.symm, ev.trans i9.symm, i10.symm⟩
    | succ j =>
      have ne : ¬ (m + 1 - 1 - (j + 1)) % 12 = m % 12 := by omega
      rw [if_neg ne, if_neg ne, if_neg ne]
      have e := a7 j (by omega) (by omega)
      have x0 := ii (3 * (j + 1)) (by omega) (by omega)
      have x1 := ii (3 * (j + 1) + 1) (by omega) (by omega)
      have x2 := ii (3 * (j + 1) + 2) (by omega) (by omega)
      rw [show 8 + (3 * (j + 1) - 3) = 8 + 3 * j by omega] at x0
      rw [show 8 + (3 * (j + 1) + 1) = 9 + 3 * (j + 1) by omega, show 8 + (3 * (j + 1) + 1 - 3) = 9 + 3 * j by omega] at x1
      rw [show 8 + (3 * (j + 1) + 2) = 10 + 3 * (j + 1) by omega, show 8 + (3 * (j + 1) + 2 - 3) = 10 + 3 * j by omega] at x2
      rw [x0, x1, x2, show m + 1 - 1 - (j + 1) = m - 1 - j by omega]
      exact e
end RGN
