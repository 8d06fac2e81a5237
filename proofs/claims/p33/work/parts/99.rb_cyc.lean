/-! ===== the cycle of a pivot: both sides alike ===== -/
section RBC
variable {h g T : LH} {b n k : Nat}
/-- ends of edges -/
def TLe (h : LH) (b : Nat) (r : LH) (n k : Nat) : Prop := (∀ a, a < k → h.1 (b + 2) a = rm r a 0 ∧ h.1 (b + 3) a = rm r a 1) ∧ ∀ p, p < n → (r.1 271 (58 + p) = 1 → h.1 (b + 2) (14 + p) = nI p ∧ h.1 (b + 3) (14 + p) = 7) ∧ (r.1 271 (58 + p) ≠ 1 → h.1 (b + 2) (14 + p) = 7 ∧ h.1 (b + 3) (14 + p) = nI p)
/-- bounds and flows -/
def FLe (h : LH) (b : Nat) (r : LH) (n k : Nat) : Prop := (∀ a, a < k → h.1 (b + 4) a = rm r a 2 ∧ h.1 (b + 6) a = rm r a 4) ∧ ∀ p, p < n → h.1 (b + 6) (14 + p) = r.1 271 (65 + p)
theorem gd_al : ∀ (i c x m : Nat) (g : LH), m < i → (gd c i x g).1 286 (c + m) = bI (rf_al g (g.1 282 (tw g (i - 1 - m) x)) (g.1 281 (tw g (i - 1 - m) x))) ∧ ∀ q, q < c → (gd c i x g).1 286 q = g.1 286 q
  | 0, c, x, m, g, hm => by omega
  | i + 1, c, x, m, g, hm => by
    have e1 : (as1 g c (g.1 282 (tw g i x)) (g.1 281 (tw g i x))).1 281 = g.1 281 := as_281
    have e2 : (as1 g c (g.1 282 (tw g i x)) (g.1 281 (tw g i x))).1 282 = g.1 282 := as_282
    have e3 : (as1 g c (g.1 282 (tw g i x)) (g.1 281 (tw g i x))).1 271 = g.1 271 := as1_lo.1 271 (by decide) (by decide) (by decide)
    have lo : ∀ q, q < c + 1 → (gd (c + 1) i x (as1 g c (g.1 282 (tw g i x)) (g.1 281 (tw g i x)))).1 286 q = (as1 g c (g.1 282 (tw g i x)) (g.1 281 (tw g i x))).1 286 q := by
      cases i with
      | zero => exact fun q _ => rfl
      | succ i => exact (gd_al (i + 1) (c + 1) x 0 _ (by omega)).2
    rw [gd]
    refine ⟨?_, fun q hq => ?_⟩
    · cases m with
      | zero =>
        rw [show c + 0 = c from rfl, lo c (by omega), as_286, if_pos rfl, show i + 1 - 1 - 0 = i by omega]
      | succ m =>
        have := (gd_al i (c + 1) x m (as1 g c (g.1 282 (tw g i x)) (g.1 281 (tw g i x))) (by omega)).1
        rw [show c + (m + 1) = c + 1 + m by omega, this, tw_same e1, e1, e2, show i - 1 - m = i + 1 - 1 - (m + 1) by omega]
        unfold rf_al rm
        rw [e3]
    · rw [lo q (by omega), as_286, if_neg (by omega)]
theorem gu_al : ∀ (j c y m : Nat) (g : LH), m < j → (gu c j y g).1 286 (c + m) = bI (rf_al g (g.1 282 (tw g m y)) (nI (tw g m y)))
  | 0, c, y, m, g, hm => by omega
  | j + 1, c, y, m, g, hm => by
    have e1 : (as1 g c (g.1 282 y) (nI y)).1 281 = g.1 281 := as_281
    have e2 : (as1 g c (g.1 282 y) (nI y)).1 282 = g.1 282 := as_282
    have e3 : (as1 g c (g.1 282 y) (nI y)).1 271 = g.1 271 := as1_lo.1 271 (by decide) (by decide) (by decide)
    rw [gu]
    cases m with
    | zero =>
      rw [show c + 0 = c from rfl, gu_286 j (c + 1) _ _ c (by omega), as_286, if_pos rfl]
      rfl
    | succ m =>
      rw [show c + (m + 1) = c + 1 + m by omega, gu_al j (c + 1) (uf g y) m _ (by omega), tw_same e1, e2]
      unfold rf_al rm
      rw [e3]
      rfl
/-- whether an edge of the tree is gone along, upward -/
theorem al_up (L : LT T n k) (E : TLe h b T n k) {p : Nat} (hp : p < n) : bI (rf_al T (T.1 282 p) (nI p)) = (if h.1 (b + 2) (eK (T.1 282 p)).toNatClampNeg = cI n p then 1 else 0) := by
  have n7 := L.1.1.2.1
  have k14 := L.1.1.2.2
  rw [cI_lt hp]
  rcases (L.at hp).2.2.2.2.2 with ⟨-, e, -⟩ | ⟨hq, a, ha, e, -, -⟩
  · rw [e, eK_p (by omega), nI_clamp (by omega)]
    unfold rf_al
    have s0 : (58 + nI (100 + p) - 100 : Int32).toNatClampNeg = 58 + p := by
      rw [show (58 : Int32) = nI 58 from rfl, loan_ix, nI_clamp (by omega)]
    rw [if_pos (loan_p (by omega)), s0, L.1.2.1]
    have nn : ¬ nI p = nI n := fun z => absurd ((nI_eq (by omega) (by omega)).mp z) (by omega)
    by_cases w : T.1 271 (58 + p) = 1
    · rw [((E.2 p hp).1 w).1, if_pos rfl]
      simp [w, nn, bI]
    · rw [((E.2 p hp).2 w).1, if_neg (show ¬ (7 : Int32) = nI p from fun z => absurd ((nI_eq (a := 7) (b := p) (by omega) (by omega)).mp z) (by omega))]
      simp [w, nn, bI]
  · rw [e, eK_a (by omega), nI_clamp (by omega), (E.1 a ha).1]
    unfold rf_al
    rw [if_neg (by rw [loan_a (by omega)]; decide), nI_clamp (by omega)]
    unfold bI
    by_cases z : rm T a 0 = nI p
    · simp [z]
    · simp [z]
/-- downward -/
theorem al_dn (L : LT T n k) (A : ∀ a, a < k → rm T a 0 ≠ rm T a 1) (E : TLe h b T n k) {p : Nat} (hp : p < n) : bI (rf_al T (T.1 282 p) (T.1 281 p)) = (if h.1 (b + 2) (eK (T.1 282 p)).toNatClampNeg = cI n p then 0 else 1) := by
  have n7 := L.1.1.2.1
  have k14 := L.1.1.2.2
  rw [cI_lt hp, (L.at hp).1]
  rcases (L.at hp).2.2.2.2.2 with ⟨qn, e, -⟩ | ⟨hq, a, ha, e, -, ends⟩
  · rw [e, eK_p (by omega), nI_clamp (by omega), qn]
    unfold rf_al
    have s0 : (58 + nI (100 + p) - 100 : Int32).toNatClampNeg = 58 + p := by
      rw [show (58 : Int32) = nI 58 from rfl, loan_ix, nI_clamp (by omega)]
    rw [if_pos (loan_p (by omega)), s0, L.1.2.1]
    by_cases w : T.1 271 (58 + p) = 1
    · rw [((E.2 p hp).1 w).1, if_pos rfl]
      simp [w, bI]
    · rw [((E.2 p hp).2 w).1, if_neg (show ¬ (7 : Int32) = nI p from fun z => absurd ((nI_eq (a := 7) (b := p) (by omega) (by omega)).mp z) (by omega))]
      simp [w, bI]
  · rw [e, eK_a (by omega), nI_clamp (by omega), (E.1 a ha).1]
    unfold rf_al
    rw [if_neg (by rw [loan_a (by omega)]; decide), nI_clamp (by omega)]
    have ne := A a ha
    unfold bI
    rcases ends with ⟨z1, z2⟩ | ⟨z1, z2⟩
    · rw [z1, if_pos rfl]
      rw [z1, z2] at ne
      simp [ne]
    · rw [z2]
      rw [z1, z2] at ne
      simp [ne]
/-- rooms are the same -/
theorem room_eq (hn : n ≤ 7) (hk : k ≤ 14) (F : FLe h b T n k) {i : Nat} {R : LH} (e271 : R.1 271 = T.1 271) (D : ED n k (R.1 285 i)) : nt_room h b (eK (R.1 285 i)) (R.1 286 i) = rr R i := by
  unfold nt_room rr
  rcases D with ⟨a, ha, e⟩ | ⟨p, hp, e⟩
  · rw [e, eK_a (by omega), nI_clamp (by omega), if_neg (show ¬ rf_loan (nI a) = true by rw [loan_a (by omega)]; decide), if_neg (show ¬ (14 : Int32) ≤ nI a from nI_ge (a := a) (b := 14) (by omega) (by omega)), (F.1 a ha).1, (F.1 a ha).2]
    unfold rm
    rw [e271]
  · rw [e, eK_p (by omega), nI_clamp (by omega), if_pos (loan_p (by omega)), if_pos (show (14 : Int32) ≤ nI (14 + p) from nI_le (a := 14) (by omega) (by omega)), F.2 p hp, ix65, nI_clamp (by omega), e271]
theorem lr_eq {R : LH} {c : Nat} (e : ∀ i, i < c → nt_room h b (h.1 242 i) (h.1 243 i) = rr R i) : ∀ (f i : Nat) (r : Int32), i + f ≤ c → rt_lr h b f i r = rlr R f i r
  | 0, i, r, hi => rfl
  | f + 1, i, r, hi => by
    rw [rt_lr, rlr, e i (by omega), lr_eq e f (i + 1) _ (by omega)]
    congr 1
    unfold rf_le
    by_cases z : rr R i < r
    · rw [if_pos z, if_pos (Int32.le_of_lt z)]
    · rw [if_neg z]
      split
      · rename_i y
        exact (Int32.le_antisymm y (Int32.not_lt.mp z)).symm
      · rfl
theorem lvx_st {R : LH} {dl : Int32} : ∀ (f i : Nat) (l1 l2 : Int32), (l1 = l2 ∨ ∃ j, i ≤ j ∧ j < i + f ∧ rr R j = dl) → lvx R dl f i l1 = lvx R dl f i l2
  | 0, i, l1, l2, hh => by
    rcases hh with rfl | ⟨j, h1, h2, -⟩
    · rfl
    · omega
  | f + 1, i, l1, l2, hh => by
    rw [lvx, lvx]
    by_cases z : rr R i = dl
    · rw [if_pos z, if_pos z]
    · rw [if_neg z, if_neg z]
      refine lvx_st f (i + 1) l1 l2 (hh.imp id (fun ⟨j, h1, h2, h3⟩ => ⟨j, ?_, by omega, h3⟩))
      rcases Nat.eq_or_lt_of_le h1 with y | y
      · subst y
        exact absurd h3 z
      · omega
theorem lv_eq {R : LH} {c : Nat} {dl : Int32} (hb : b ≤ 225) : ∀ (f i : Nat) (g : LH), i + f ≤ c → g.1 241 4 = dl → (∀ i, i < c → nt_room g b (g.1 242 i) (g.1 243 i) = rr R i) → (cy_lv b f i g).1 241 6 = lvx R dl f i (g.1 241 6) ∧ (∀ j, j ≠ 6 → (cy_lv b f i g).1 241 j = g.1 241 j) ∧ ∀ e, e ≠ 241 → (cy_lv b f i g).1 e = g.1 e
  | 0, i, g, hi, ed, er => ⟨rfl, fun _ _ => rfl, fun _ _ => rfl⟩
  | f + 1, i, g, hi, ed, er => by
    rw [cy_lv, lvx, er i (by omega), ed]
    by_cases z : rr R i = dl
    · rw [if_pos z, if_pos z]
      have o : ∀ e, e ≠ 241 → (w1 g 241 6 (nI i)).1 e = g.1 e := fun e he => w1_ne he
      obtain ⟨a1, a2, a3⟩ := lv_eq (R := R) (c := c) (dl := dl) hb f (i + 1) (w1 g 241 6 (nI i)) (by omega) (by rw [w1_at (by decide)]; exact ed) (fun j hj => by
        rw [o 242 (by decide), o 243 (by decide)]
        unfold nt_room
        rw [o (b + 6) (by omega), o (b + 4) (by omega)]
        exact er j hj)
      refine ⟨by rw [a1, w1_eq], fun j hj => by rw [a2 j hj, w1_at hj], fun e he => by rw [a3 e he, o e he]⟩
    · rw [if_neg z, if_neg z]
      exact lv_eq hb f (i + 1) g (by omega) ed er
end RBC
