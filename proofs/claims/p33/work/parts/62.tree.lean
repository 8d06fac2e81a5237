/-! ===== the laid tree: every point is settled, if the edges that hang leave no set ===== -/
section RT
variable {h g : LH} {n k : Nat}
/-- how many points are settled -/
def ct (g : LH) : Nat → Nat
  | 0 => 0
  | m + 1 => ct g m + (if g.1 281 m = -1 then 0 else 1)
theorem ct_le : ∀ m, ct g m ≤ m
  | 0 => Nat.le_refl _
  | m + 1 => by
    unfold ct
    have := ct_le m
    split <;> omega
theorem ct_same {g2 : LH} : ∀ m, (∀ p, p < m → g2.1 281 p = g.1 281 p) → ct g2 m = ct g m
  | 0, _ => rfl
  | m + 1, hs => by
    unfold ct
    rw [ct_same m (fun p hp => hs p (by omega)), hs m (by omega)]
theorem ct_up {g2 : LH} {p : Nat} : ∀ m, p < m → g.1 281 p = -1 → ¬ g2.1 281 p = -1 → (∀ o, o ≠ p → g2.1 281 o = g.1 281 o) → ct g2 m = ct g m + 1
  | 0, hp, _, _, _ => absurd hp (by omega)
  | m + 1, hp, h1, h2, ho => by
    unfold ct
    by_cases e : p = m
    · subst e
      rw [ct_same p (fun o hop => ho o (by omega)), if_pos h1, if_neg h2]
    · rw [ct_up m (by omega) h1 h2 ho, ho m (Ne.symm e)]
      omega
theorem ct_full : ∀ m, ct g m = m → ∀ p, p < m → ¬ g.1 281 p = -1
  | 0, _, p, hp => absurd hp (by omega)
  | m + 1, hc, p, hp => by
    unfold ct at hc
    have hl := ct_le (g := g) m
    by_cases e : g.1 281 m = -1
    · rw [if_pos e] at hc
      omega
    · rw [if_neg e] at hc
      by_cases e2 : p = m
      · rw [e2]
        exact e
      · exact ct_full m (by omega) p (by omega)
theorem ct_all : ∀ m, (∀ p, p < m → ¬ g.1 281 p = -1) → ct g m = m
  | 0, _ => rfl
  | m + 1, hs => by
    unfold ct
    rw [ct_all m (fun p hp => hs p (by omega)), if_neg (hs m (by omega))]
/-- an edge that hangs, from p to q above it -/
def EG (g : LH) (n k p q : Nat) (id : Int32) : Prop := (q = n ∧ id = nI (100 + p) ∧ g.1 271 (51 + p) = 1) ∨ (q < n ∧ ∃ a, a < k ∧ id = nI a ∧ rf_hangs g a = true ∧ ((rm g a 0 = nI p ∧ rm g a 1 = nI q) ∨ (rm g a 1 = nI p ∧ rm g a 0 = nI q)))
theorem EG.fl {p q : Nat} {id : Int32} (F : g.1 271 = h.1 271) (E : EG h n k p q id) : EG g n k p q id := by
  unfold EG rf_hangs rm at *
  rw [F]
  exact E
/-- point p is settled below q -/
def SE (g : LH) (n k p q e : Nat) : Prop := q ≤ n ∧ g.1 281 p = nI q ∧ (q = n ∨ ¬ g.1 281 q = -1) ∧ g.1 283 p = nI (e + 1) ∧ g.1 283 q = nI e ∧ EG g n k p q (g.1 282 p)
def TI (g : LH) (n k : Nat) : Prop := g.1 283 n = nI 0 ∧ ∀ p, p < n → g.1 281 p = -1 ∨ ∃ q e, e + 1 ≤ ct g n ∧ SE g n k p q e
theorem nI_neg1 {q : Nat} (hq : q < 100) : ¬ nI q = -1 := fun z => by
  have := congrArg Int32.toInt z
  rw [nI_toInt (by omega)] at this
  have h2 : (-1 : Int32).toInt = -1 := by decide
  omega
theorem rs_ne {p q o : Nat} {id co : Int32} (hp : p < 100) (ho : o ≠ p) : (rf_set g (nI p) (nI q) id co).1 281 o = g.1 281 o ∧ (rf_set g (nI p) (nI q) id co).1 282 o = g.1 282 o ∧ (rf_set g (nI p) (nI q) id co).1 283 o = g.1 283 o := by
  have hcl : (nI p).toNatClampNeg = p := nI_clamp (by omega)
  unfold rf_set
  rw [hcl]
  refine ⟨?_, ?_, ?_⟩
  · rw [w1_ne (by decide), w1_ne (by decide), w1_ne (by decide), w1_at ho]
  · rw [w1_ne (by decide), w1_ne (by decide), w1_at ho, w1_ne (by decide)]
  · rw [w1_ne (by decide), w1_at ho, w1_ne (by decide), w1_ne (by decide)]
theorem rs_eq {p q : Nat} {id co : Int32} (hp : p < 100) (hq : q < 100) : (rf_set g (nI p) (nI q) id co).1 281 p = nI q ∧ (rf_set g (nI p) (nI q) id co).1 282 p = id ∧ (rf_set g (nI p) (nI q) id co).1 283 p = g.1 283 q + 1 := by
  have hcl : (nI p).toNatClampNeg = p := nI_clamp (by omega)
  have hcq : (nI q).toNatClampNeg = q := nI_clamp (by omega)
  unfold rf_set
  rw [hcl, hcq]
  refine ⟨?_, ?_, ?_⟩
  · rw [w1_ne (by decide), w1_ne (by decide), w1_ne (by decide), w1_eq]
  · rw [w1_ne (by decide), w1_ne (by decide), w1_eq]
  · rw [w1_ne (by decide), w1_eq, w1_ne (by decide), w1_ne (by decide)]
theorem TI.dp (T : TI g n k) {q : Nat} (hq : q ≤ n) (hs : q = n ∨ ¬ g.1 281 q = -1) : ∃ e, e ≤ ct g n ∧ g.1 283 q = nI e := by
  by_cases e : q = n
  · exact ⟨0, Nat.zero_le _, by rw [e]; exact T.1⟩
  · rcases T.2 q (by omega) with z | ⟨q2, e2, h1, h2⟩
    · exact absurd z (hs.resolve_left e)
    · exact ⟨e2 + 1, h1, h2.2.2.2.1⟩
/-- one more is settled -/
theorem TI.set (hn : n ≤ 7) (T : TI g n k) {p q : Nat} {id co : Int32} (hp : p < n) (hu : g.1 281 p = -1) (hq : q ≤ n) (hs : q = n ∨ ¬ g.1 281 q = -1) (E : EG g n k p q id) : TI (rf_set g (nI p) (nI q) id co) n k ∧ ct (rf_set g (nI p) (nI q) id co) n = ct g n + 1 := by
  have hqp : q ≠ p := by
    intro z
    rcases hs with e | e
    · omega
    · rw [z] at e
      exact e hu
  have F : (rf_set g (nI p) (nI q) id co).1 271 = g.1 271 := rf_set_lo.1 271 (by decide)
  have NE : ∀ o, o ≠ p → _ := fun o ho => rs_ne (g := g) (q := q) (id := id) (co := co) (by omega : p < 100) ho
  obtain ⟨q1, q2, q3⟩ := rs_eq (g := g) (id := id) (co := co) (by omega : p < 100) (by omega : q < 100)
  generalize rf_set g (nI p) (nI q) id co = g2 at F NE q1 q2 q3 ⊢
  have hc : ct g2 n = ct g n + 1 := ct_up n hp hu (by rw [q1]; exact nI_neg1 (by omega)) (fun o ho => (NE o ho).1)
  refine ⟨⟨by rw [(NE n (by omega)).2.2]; exact T.1, fun o ho => ?_⟩, hc⟩
  by_cases e : o = p
  · subst e
    obtain ⟨e, he, hd⟩ := T.dp hq hs
    refine Or.inr ⟨q, e, by omega, hq, q1, ?_, by rw [q3, hd, nI_1], by rw [(NE q hqp).2.2]; exact hd, by rw [q2]; exact E.fl F⟩
    rcases hs with z | z
    · exact Or.inl z
    · exact Or.inr (by rw [(NE q hqp).1]; exact z)
  · rcases T.2 o ho with z | ⟨r, e2, h1, h2, h3, h4, h5, h6, h7⟩
    · exact Or.inl (by rw [(NE o e).1]; exact z)
    · have hr : r ≠ p := by
        intro z
        rcases h4 with y | y
        · omega
        · rw [z] at y
          exact y hu
      refine Or.inr ⟨r, e2, by omega, h2, by rw [(NE o e).1]; exact h3, ?_, by rw [(NE o e).2.2]; exact h5, by rw [(NE r hr).2.2]; exact h6, by rw [(NE o e).2.1]; exact h7.fl F⟩
      rcases h4 with y | y
      · exact Or.inl y
      · exact Or.inr (by rw [(NE r hr).1]; exact y)
/-- no set that holds the root is left by none of the edges that hang -/
def CP (h : LH) (n k : Nat) : Prop := ∀ S : Nat → Bool, S n = true → (∃ p, p < n ∧ S p = false) → (∃ p, p < n ∧ S p = false ∧ h.1 271 (51 + p) = 1) ∨ ∃ a p q : Nat, a < k ∧ rf_hangs h a = true ∧ p < n ∧ q < n ∧ S p = true ∧ S q = false ∧ ((rm h a 0 = nI p ∧ rm h a 1 = nI q) ∨ (rm h a 1 = nI p ∧ rm h a 0 = nI q))
theorem CP.fl (F : g.1 271 = h.1 271) (C : CP h n k) : CP g n k := by
  unfold CP rf_hangs rm at *
  rw [F]
  exact C
theorem RM.ends (H : RM h n k) {a : Nat} (ha : a < k) : ∃ p q, p < n ∧ q < n ∧ rm h a 0 = nI p ∧ rm h a 1 = nI q := by
  obtain ⟨p, hp, ep⟩ := vi_nI (H.2.2.2 a ha).1
  obtain ⟨q, hq, eq⟩ := vi_nI (H.2.2.2 a ha).2
  exact ⟨p, q, hp, hq, ep, eq⟩
/-- an arc looked at: either it settles one, or nothing changes -/
theorem lt_a1_or (H : RM g n k) (T : TI g n k) {a : Nat} (ha : a < k) : TI (lt_a1 g a) n k ∧ ((ct (lt_a1 g a) n = ct g n + 1) ∨ (lt_a1 g a = g ∧ ∀ p q, p < n → q < n → ((rm g a 0 = nI p ∧ rm g a 1 = nI q) ∨ (rm g a 1 = nI p ∧ rm g a 0 = nI q)) → rf_hangs g a = true → ¬ g.1 281 p = -1 → ¬ g.1 281 q = -1)) := by
  obtain ⟨p, q, hp, hq, ep, eq⟩ := H.ends ha
  have hn := H.1
  have cp : (nI p).toNatClampNeg = p := nI_clamp (by omega)
  have cq : (nI q).toNatClampNeg = q := nI_clamp (by omega)
  have inj : ∀ {x y : Nat}, x < n → y < n → nI x = nI y → x = y := fun hx hy e => (nI_eq (by omega) (by omega)).mp e
  unfold lt_a1
  by_cases hh : rf_hangs g a = true
  · rw [if_pos hh, ep, eq, cp, cq]
    by_cases u1 : g.1 281 p = -1
    · rw [if_pos u1]
      by_cases u2 : g.1 281 q = -1
      · rw [if_pos u2]
        refine ⟨T, Or.inr ⟨rfl, fun p2 q2 h1 h2 h3 _ h5 => ?_⟩⟩
        rcases h3 with ⟨z1, z2⟩ | ⟨z1, z2⟩
        · exact absurd u1 (by rw [inj hp h1 (by rw [← z1])]; exact h5)
        · exact absurd u2 (by rw [inj hq h1 (by rw [← z1])]; exact h5)
      · rw [if_neg u2]
        obtain ⟨T2, c2⟩ := T.set (co := g.1 284 q - rm g a 3) (by omega) hp u1 (show q ≤ n by omega) (Or.inr u2) (Or.inr ⟨hq, a, ha, rfl, hh, Or.inl ⟨ep, eq⟩⟩)
        exact ⟨T2, Or.inl c2⟩
    · rw [if_neg u1]
      by_cases u2 : g.1 281 q = -1
      · rw [if_pos u2]
        obtain ⟨T2, c2⟩ := T.set (co := g.1 284 p + rm g a 3) (by omega) hq u2 (show p ≤ n by omega) (Or.inr u1) (Or.inr ⟨hp, a, ha, rfl, hh, Or.inr ⟨eq, ep⟩⟩)
        exact ⟨T2, Or.inl c2⟩
      · rw [if_neg u2]
        refine ⟨T, Or.inr ⟨rfl, fun p2 q2 h1 h2 h3 _ h5 => ?_⟩⟩
        rcases h3 with ⟨z1, z2⟩ | ⟨z1, z2⟩
        · rw [inj h2 hq (by rw [← z2])]
          exact u2
        · rw [inj h2 hp (by rw [← z2])]
          exact u1
  · rw [if_neg hh]
    exact ⟨T, Or.inr ⟨rfl, fun _ _ _ _ _ h4 => absurd h4 hh⟩⟩
theorem lt_a_or : ∀ (f a : Nat) (g : LH), RM g n k → TI g n k → a + f = k → TI (lt_a f a g) n k ∧ ct g n ≤ ct (lt_a f a g) n ∧ (ct g n < ct (lt_a f a g) n ∨ (lt_a f a g = g ∧ ∀ b, a ≤ b → b < k → ∀ p q, p < n → q < n → ((rm g b 0 = nI p ∧ rm g b 1 = nI q) ∨ (rm g b 1 = nI p ∧ rm g b 0 = nI q)) → rf_hangs g b = true → ¬ g.1 281 p = -1 → ¬ g.1 281 q = -1))
  | 0, a, g, H, T, ha => ⟨T, Nat.le_refl _, Or.inr ⟨rfl, fun b h1 h2 => absurd h2 (by omega)⟩⟩
  | f + 1, a, g, H, T, ha => by
    obtain ⟨T1, o1⟩ := lt_a1_or H T (a := a) (by omega)
    have H1 : RM (lt_a1 g a) n k := H.fl lt_a1_fl.r
    obtain ⟨T2, l2, o2⟩ := lt_a_or f (a + 1) (lt_a1 g a) H1 T1 (by omega)
    rw [lt_a]
    rcases o1 with c1 | ⟨c1, d1⟩
    · exact ⟨T2, by omega, Or.inl (by omega)⟩
    · rw [c1] at T2 l2 o2 ⊢
      refine ⟨T2, l2, o2.imp id (fun ⟨x, y⟩ => ⟨x, fun b h1 h2 => ?_⟩)⟩
      by_cases e : b = a
      · subst e
        exact d1
      · exact y b (by omega) h2
theorem rs_mono {p q o : Nat} {id co : Int32} (hp : p < 100) (hq : q < 100) (hs : ¬ g.1 281 o = -1) : ¬ (rf_set g (nI p) (nI q) id co).1 281 o = -1 := by
  by_cases e : o = p
  · rw [e, (rs_eq hp hq).1]
    exact nI_neg1 hq
  · rw [(rs_ne hp e).1]
    exact hs
theorem lt_a1_mono (H : RM g n k) {a o : Nat} (ha : a < k) (hs : ¬ g.1 281 o = -1) : ¬ (lt_a1 g a).1 281 o = -1 := by
  obtain ⟨p, q, hp, hq, ep, eq⟩ := H.ends ha
  have hn := H.1
  unfold lt_a1
  rw [ep, eq]
  split
  · split
    · split
      · exact hs
      · exact rs_mono (by omega) (by omega) hs
    · split
      · exact rs_mono (by omega) (by omega) hs
      · exact hs
  · exact hs
theorem lt_a_mono {o : Nat} : ∀ (f a : Nat) (g : LH), RM g n k → a + f = k → ¬ g.1 281 o = -1 → ¬ (lt_a f a g).1 281 o = -1
  | 0, _, _, _, _, hs => hs
  | f + 1, a, g, H, ha, hs => lt_a_mono f (a + 1) (lt_a1 g a) (H.fl lt_a1_fl.r) (by omega) (lt_a1_mono H (by omega) hs)
/-- those with a loan are settled -/
def LO (g : LH) (n : Nat) : Prop := ∀ p, p < n → g.1 271 (51 + p) = 1 → ¬ g.1 281 p = -1
theorem lt_r_ok (C : CP h n k) : ∀ (f : Nat) (g : LH), g.1 271 = h.1 271 → RM g n k → TI g n k → LO g n → TI (lt_r k f g) n k ∧ (ct (lt_r k f g) n = n ∨ ct g n + f ≤ ct (lt_r k f g) n)
  | 0, g, F, H, T, L => ⟨T, Or.inr (Nat.le_refl _)⟩
  | f + 1, g, F, H, T, L => by
    obtain ⟨T1, l1, o1⟩ := lt_a_or k 0 g H T (by omega)
    have F1 := (lt_a_fl k 0 g).r
    have H1 : RM (lt_a k 0 g) n k := H.fl F1
    rw [lt_r]
    have mono : ∀ p, ¬ g.1 281 p = -1 → ¬ (lt_a k 0 g).1 281 p = -1 := fun p hs => lt_a_mono k 0 g H (by omega) hs
    have L1 : LO (lt_a k 0 g) n := fun p hp e => mono p (L p hp (by rw [F1] at e; exact e))
    obtain ⟨T2, o2⟩ := lt_r_ok C f (lt_a k 0 g) (F1.trans F) H1 T1 L1
    refine ⟨T2, ?_⟩
    rcases o2 with z | z
    · exact Or.inl z
    · rcases o1 with y | ⟨y, w⟩
      · exact Or.inr (by omega)
      · by_cases hf : ct g n = n
        · refine Or.inl ?_
          have := ct_le (g := lt_r k f (lt_a k 0 g)) n
          omega
        · exfalso
          have hx : ∃ p, p < n ∧ g.1 281 p = -1 := Classical.byContradiction fun z => hf (ct_all n (fun p hp e => z ⟨p, hp, e⟩))
          obtain ⟨p0, hp0, e0⟩ := hx
          have p0n : p0 ≠ n := by omega
          have S0 : (decide (p0 = n) || !decide (g.1 281 p0 = -1)) = false := by simp [p0n, e0]
          rcases (C.fl F) (fun p => decide (p = n) || !decide (g.1 281 p = -1)) (by simp) ⟨p0, hp0, S0⟩ with ⟨p, hp, hS, hL⟩ | ⟨a, p, q, ha, hh, hp, hq, hSp, hSq, ed⟩
          · have hs := L p hp hL
            simp [hs] at hS
          · have pn : p ≠ n := by omega
            have qn : q ≠ n := by omega
            have sp : ¬ g.1 281 p = -1 := by
              intro z2
              simp [pn, z2] at hSp
            have sq := w a (Nat.zero_le _) ha p q hp hq ed hh sp
            simp [sq] at hSq
theorem lt_z_ok : ∀ (f p : Nat) (g : LH), (∀ o, o < p → g.1 281 o = -1 ∧ g.1 283 o = 0) → ∀ o, o < p + f → (lt_z f p g).1 281 o = -1 ∧ (lt_z f p g).1 283 o = 0
  | 0, p, g, hs, o, ho => hs o ho
  | f + 1, p, g, hs, o, ho => by
    rw [lt_z]
    refine lt_z_ok f (p + 1) _ (fun o2 ho2 => ?_) o (by omega)
    by_cases e : o2 = p
    · subst e
      exact ⟨by rw [w1_ne (by decide), w1_ne (by decide), w1_ne (by decide), w1_eq], by rw [w1_ne (by decide), w1_eq]⟩
    · have := hs o2 (by omega)
      exact ⟨by rw [w1_ne (by decide), w1_ne (by decide), w1_ne (by decide), w1_at e]; exact this.1, by rw [w1_ne (by decide), w1_at e, w1_ne (by decide), w1_ne (by decide)]; exact this.2⟩
theorem i100 (p : Nat) : (100 : Int32) + nI p = nI (100 + p) := nI_add 100 p
theorem lt_l_ok : ∀ (f p : Nat) (g : LH), RM g n k → TI g n k → p + f = n → (∀ o, o < p → g.1 271 (51 + o) = 1 → ¬ g.1 281 o = -1) → (∀ o, p ≤ o → o < n → g.1 281 o = -1) → TI (lt_l f p g) n k ∧ LO (lt_l f p g) n
  | 0, p, g, H, T, hp, L, U => ⟨T, fun o ho => L o (by omega)⟩
  | f + 1, p, g, H, T, hp, L, U => by
    have hn := H.1
    rw [lt_l]
    have F := (lt_l1_fl (g := g) (p := p)).r
    have H1 : RM (lt_l1 g p) n k := H.fl F
    have key : TI (lt_l1 g p) n k ∧ (∀ o, o < p + 1 → (lt_l1 g p).1 271 (51 + o) = 1 → ¬ (lt_l1 g p).1 281 o = -1) ∧ (∀ o, p + 1 ≤ o → o < n → (lt_l1 g p).1 281 o = -1) := by
      rw [F]
      unfold lt_l1
      by_cases c : g.1 271 (51 + p) = 1
      · rw [if_pos c, H.2.1]
        obtain ⟨T1, -⟩ := T.set (co := if g.1 271 (58 + p) = 1 then -10000 else 10000) hn.2.1 (show p < n by omega) (U p (Nat.le_refl _) (by omega)) (Nat.le_refl n) (Or.inl rfl) (Or.inl ⟨rfl, i100 p, c⟩)
        refine ⟨T1, fun o ho e => ?_, fun o h1 h2 => ?_⟩
        · by_cases e2 : o = p
          · rw [e2, (rs_eq (by omega) (by omega)).1]
            exact nI_neg1 (by omega)
          · rw [(rs_ne (by omega) e2).1]
            exact L o (by omega) e
        · rw [(rs_ne (by omega) (by omega)).1]
          exact U o (by omega) h2
      · rw [if_neg c]
        refine ⟨T, fun o ho e => ?_, fun o h1 h2 => U o (by omega) h2⟩
        by_cases e2 : o = p
        · exact absurd (by rw [← e2]; exact e) c
        · exact L o (by omega) e
    exact lt_l_ok f (p + 1) _ H1 key.1 (by omega) key.2.1 key.2.2
/-- the tree as it is laid: every point is settled -/
theorem lt_ok (H : RM h n k) (C : CP h n k) : TI (lt h n k) n k ∧ ∀ p, p < n → ¬ (lt h n k).1 281 p = -1 := by
  have hn := H.1
  have Z := lt_z_ok 8 0 h (fun o ho => absurd ho (by omega))
  have Fz := lt_z_fl 8 0 h
  have Hz : RM (lt_z 8 0 h) n k := H.fl Fz.r
  have Tz : TI (lt_z 8 0 h) n k := ⟨(Z n (by omega)).2, fun p hp => Or.inl (Z p (by omega)).1⟩
  obtain ⟨Tl, Ll⟩ := lt_l_ok n 0 _ Hz Tz (by omega) (fun o ho => absurd ho (by omega)) (fun o _ ho => (Z o (by omega)).1)
  have Fl2 := lt_l_fl n 0 (lt_z 8 0 h)
  obtain ⟨Tr, o⟩ := lt_r_ok C n _ ((Fz.tr Fl2).r) (Hz.fl Fl2.r) Tl Ll
  have hc : ct (lt h n k) n = n := by
    rcases o with z | z
    · exact z
    · have := ct_le (g := lt h n k) n
      have z2 : ct (lt_l n 0 (lt_z 8 0 h)) n + n ≤ ct (lt h n k) n := z
      omega
  exact ⟨Tr, ct_full n hc⟩
end RT
