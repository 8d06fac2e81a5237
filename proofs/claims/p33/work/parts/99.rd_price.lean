/-! ===== prices by the laid tree ===== -/
section RDP
variable {h g T : LH} {b n k : Nat}
/-- a point's price by its next one's -/
def PRc (g : LH) (n k p : Nat) : Prop := (uf g p = n ∧ g.1 282 p = nI (100 + p) ∧ g.1 284 p = (if g.1 271 (58 + p) = 1 then -10000 else 10000)) ∨ (uf g p < n ∧ ¬ g.1 281 (uf g p) = -1 ∧ ∃ a, a < k ∧ g.1 282 p = nI a ∧ ((rm g a 1 = nI p ∧ rm g a 0 = nI (uf g p) ∧ g.1 284 p = g.1 284 (uf g p) + rm g a 3) ∨ (rm g a 0 = nI p ∧ rm g a 1 = nI (uf g p) ∧ g.1 284 p = g.1 284 (uf g p) - rm g a 3)))
def PR (g : LH) (n k : Nat) : Prop := g.1 284 n = 0 ∧ ∀ p, p < n → ¬ g.1 281 p = -1 → PRc g n k p
theorem rs_284 {p q o : Nat} {id co : Int32} (hp : p < 100) : (rf_set g (nI p) (nI q) id co).1 284 o = if o = p then co else g.1 284 o := by
  unfold rf_set
  rw [nI_clamp (by omega)]
  by_cases z : o = p
  · rw [if_pos z, z, w1_eq]
  · rw [if_neg z, w1_at z, w1_ne (by decide), w1_ne (by decide), w1_ne (by decide)]
theorem PR.set (hn : n ≤ 7) (P : PR g n k) {p q : Nat} {id co : Int32} (hp : p < n) (hu : g.1 281 p = -1) (hq : q ≤ n) (new : (q = n ∧ id = nI (100 + p) ∧ co = (if g.1 271 (58 + p) = 1 then -10000 else 10000)) ∨ (q < n ∧ ¬ g.1 281 q = -1 ∧ ∃ a, a < k ∧ id = nI a ∧ ((rm g a 1 = nI p ∧ rm g a 0 = nI q ∧ co = g.1 284 q + rm g a 3) ∨ (rm g a 0 = nI p ∧ rm g a 1 = nI q ∧ co = g.1 284 q - rm g a 3)))) : PR (rf_set g (nI p) (nI q) id co) n k := by
  have e271 : (rf_set g (nI p) (nI q) id co).1 271 = g.1 271 := rf_set_lo.1 271 (by omega)
  have rmE : ∀ a w, rm (rf_set g (nI p) (nI q) id co) a w = rm g a w := fun a w => by unfold rm; rw [e271]
  obtain ⟨s1, s2, s3⟩ := rs_eq (g := g) (id := id) (co := co) (show p < 100 by omega) (show q < 100 by omega)
  refine ⟨by rw [rs_284 (by omega), if_neg (by omega)]; exact P.1, fun o ho hs => ?_⟩
  by_cases op : o = p
  · subst op
    have eu : uf (rf_set g (nI o) (nI q) id co) o = q := by
      unfold uf
      rw [s1, nI_clamp (by omega)]
    unfold PRc
    rw [eu, s2, rs_284 (by omega), if_pos rfl, e271]
    rcases new with ⟨n1, n2, n3⟩ | ⟨n1, n2, a, ha, n3, n4⟩
    · exact Or.inl ⟨n1, n2, n3⟩
    · have qo : q ≠ o := fun z => n2 (by rw [z]; exact hu)
      refine Or.inr ⟨n1, by rw [(rs_ne (by omega) qo).1]; exact n2, a, ha, n3, ?_⟩
      rw [rmE, rmE, rmE, rs_284 (by omega), if_neg qo]
      exact n4
  · obtain ⟨t1, t2, t3⟩ := rs_ne (g := g) (q := q) (id := id) (co := co) (show p < 100 by omega) op
    rw [t1] at hs
    have eu : uf (rf_set g (nI p) (nI q) id co) o = uf g o := by
      unfold uf
      rw [t1]
    have := P.2 o ho hs
    unfold PRc at this ⊢
    rw [eu, t2, rs_284 (by omega), if_neg op, e271]
    rcases this with n1 | ⟨n1, n2, a, ha, n3, n4⟩
    · exact Or.inl n1
    · have up : uf g o ≠ p := fun z => n2 (by rw [z]; exact hu)
      refine Or.inr ⟨n1, by rw [(rs_ne (by omega) up).1]; exact n2, a, ha, n3, ?_⟩
      rw [rmE, rmE, rmE, rs_284 (by omega), if_neg up]
      exact n4
theorem lt_a1_pr (H : RM g n k) (P : PR g n k) {a : Nat} (ha : a < k) : PR (lt_a1 g a) n k := by
  obtain ⟨p, q, hp, hq, ep, eq⟩ := H.ends ha
  have hn := H.1
  have cp : (nI p).toNatClampNeg = p := nI_clamp (by omega)
  have cq : (nI q).toNatClampNeg = q := nI_clamp (by omega)
  unfold lt_a1
  by_cases hh : rf_hangs g a = true
  · rw [if_pos hh, ep, eq, cp, cq]
    by_cases u1 : g.1 281 p = -1
    · rw [if_pos u1]
      by_cases u2 : g.1 281 q = -1
      · rw [if_pos u2]
        exact P
      · rw [if_neg u2]
        exact P.set hn.2.1 hp u1 (by omega) (Or.inr ⟨hq, u2, a, ha, rfl, Or.inr ⟨ep, eq, rfl⟩⟩)
    · rw [if_neg u1]
      by_cases u2 : g.1 281 q = -1
      · rw [if_pos u2]
        exact P.set hn.2.1 hq u2 (by omega) (Or.inr ⟨hp, u1, a, ha, rfl, Or.inl ⟨eq, ep, rfl⟩⟩)
      · rw [if_neg u2]
        exact P
  · rw [if_neg hh]
    exact P
theorem lt_a_pr : ∀ (f a : Nat) (g : LH), RM g n k → PR g n k → a + f = k → PR (lt_a f a g) n k
  | 0, a, g, H, P, hf => P
  | f + 1, a, g, H, P, hf => by
    rw [lt_a]
    exact lt_a_pr f (a + 1) _ (H.fl lt_a1_fl.r) (lt_a1_pr H P (by omega)) (by omega)
theorem lt_r_pr : ∀ (f : Nat) (g : LH), RM g n k → PR g n k → PR (lt_r k f g) n k
  | 0, g, H, P => P
  | f + 1, g, H, P => by
    rw [lt_r]
    exact lt_r_pr f _ (H.fl (lt_a_fl k 0 g).r) (lt_a_pr k 0 g H P (by omega))
theorem lt_l_pr : ∀ (f p : Nat) (g : LH), RM g n k → PR g n k → p + f = n → (∀ o, p ≤ o → o < n → g.1 281 o = -1) → PR (lt_l f p g) n k
  | 0, p, g, H, P, hp, U => P
  | f + 1, p, g, H, P, hp, U => by
    have hn := H.1
    rw [lt_l]
    have F := (lt_l1_fl (g := g) (p := p)).r
    have key : PR (lt_l1 g p) n k ∧ (∀ o, p + 1 ≤ o → o < n → (lt_l1 g p).1 281 o = -1) := by
      unfold lt_l1
      by_cases c : g.1 271 (51 + p) = 1
      · rw [if_pos c, H.2.1]
        exact ⟨P.set hn.2.1 (by omega) (U p (Nat.le_refl _) (by omega)) (Nat.le_refl n) (Or.inl ⟨rfl, i100 p, rfl⟩), fun o h1 h2 => by rw [(rs_ne (by omega) (by omega)).1]; exact U o (by omega) h2⟩
      · rw [if_neg c]
        exact ⟨P, fun o h1 h2 => U o (by omega) h2⟩
    exact lt_l_pr f (p + 1) _ (H.fl F) key.1 (by omega) key.2
theorem lt_z_284 : ∀ (f p : Nat) (g : LH), (∀ o, o < p → g.1 284 o = 0) → ∀ o, o < p + f → (lt_z f p g).1 284 o = 0
  | 0, p, g, hh, o, ho => hh o (by omega)
  | f + 1, p, g, hh, o, ho => by
    rw [lt_z]
    refine lt_z_284 f (p + 1) _ (fun o2 h2 => ?_) o (by omega)
    by_cases z : o2 = p
    · rw [z, w1_eq]
    · rw [w1_at z, w1_ne (by decide), w1_ne (by decide), w1_ne (by decide)]
      exact hh o2 (by omega)
theorem lt_pr (H : RM h n k) : PR (lt h n k) n k := by
  have hn := H.1
  have Z := lt_z_ok 8 0 h (fun o ho => absurd ho (by omega))
  have Fz := lt_z_fl 8 0 h
  have Hz : RM (lt_z 8 0 h) n k := H.fl Fz.r
  have Pz : PR (lt_z 8 0 h) n k := ⟨lt_z_284 8 0 h (fun o ho => absurd ho (by omega)) n (by omega), fun p hp hs => absurd (Z p (by omega)).1 hs⟩
  have Fl2 := lt_l_fl n 0 (lt_z 8 0 h)
  exact lt_r_pr n _ (Hz.fl Fl2.r) (lt_l_pr n 0 _ Hz Pz (by omega) (fun o _ ho => (Z o (by omega)).1))
/-- of a laid tree -/
theorem PR.at (P : PR T n k) (L : LT T n k) {p : Nat} (hp : p < n) : PRc T n k p := P.2 p hp (L.2.2 p hp)
/-- a price is not far from 0 -/
theorem pr_bd (P : PR T n k) (L : LT T n k) (A : ∀ a, a < k → ∃ c, c ≤ 198 ∧ rm T a 3 + 99 = nI c) : ∀ (d p : Nat), p ≤ n → df T p ≤ d → -(10000 + 99 * (d : Int)) ≤ (T.1 284 p).toInt ∧ (T.1 284 p).toInt ≤ 10000 + 99 * (d : Int)
  | 0, p, hp, hd => by
    have : p = n := (L.d0 hp).mp (by omega)
    rw [this, P.1]
    have : (0 : Int32).toInt = 0 := rfl
    omega
  | d + 1, p, hp, hd => by
    rcases Nat.lt_or_ge p n with z | z
    · have up := L.up z
      rcases P.at L z with ⟨-, -, e⟩ | ⟨u, -, a, ha, -, e⟩
      · rw [e]
        have e1 : (-10000 : Int32).toInt = -10000 := by decide
        have e2 : (10000 : Int32).toInt = 10000 := by decide
        split <;> omega
      · have ih := pr_bd P L A d (uf T p) up.1 (by omega)
        have n7 := L.1.1.2.1
        have d7 : (d : Int) ≤ 7 ∨ 8 ≤ d := by omega
        obtain ⟨c, hc, ec⟩ := A a ha
        have ci : (rm T a 3).toInt = (c : Int) - 99 := by
          have : rm T a 3 = nI c - nI 99 := by
            rw [← ec]
            show rm T a 3 = rm T a 3 + 99 - 99
            rw [Int32.add_sub_cancel]
          rw [this, pk_sub_toInt (by omega) (by omega)]
          rfl
        have dd := (L.at z).2.2.2.1
        have ihd := pr_bd P L A (df T (uf T p)) (uf T p) up.1 (Nat.le_refl _)
        have w : df T (uf T p) ≤ 6 := by omega
        have w2 : ((df T (uf T p) : Nat) : Int) ≤ 6 := by omega
        rcases e with ⟨-, -, e⟩ | ⟨-, -, e⟩
        · have : (T.1 284 p).toInt = (T.1 284 (uf T p)).toInt + (rm T a 3).toInt := by
            rw [e, Int32.toInt_add]
            apply Int.bmod_eq_of_le <;> omega
          omega
        · have : (T.1 284 p).toInt = (T.1 284 (uf T p)).toInt - (rm T a 3).toInt := by
            rw [e, Int32.toInt_sub]
            apply Int.bmod_eq_of_le <;> omega
          omega
    · have : p = n := by omega
      rw [this, P.1]
      have : (0 : Int32).toInt = 0 := rfl
      omega
end RDP
