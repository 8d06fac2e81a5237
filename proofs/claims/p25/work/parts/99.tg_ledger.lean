/-! ===== ledger on both sides ===== -/
section TGL
variable {h g r : LH} {t M d n k m b : Nat} {co fl : Nat → Nat}
theorem c1_i {y : Nat} (hy : y < 1000) : (nI y - 100).toInt = (y : Int) - 100 := by
  have : (nI y - nI 100).toInt = (y : Int) - (100 : Nat) := pk_sub_toInt (by omega) (by decide)
  exact this
theorem c1_le {x y : Nat} (hx : x < 1000) (hy : y < 1000) : nI x - 100 ≤ nI y - 100 ↔ x ≤ y := by
  rw [Int32.le_iff_toInt_le, c1_i hx, c1_i hy]
  omega
theorem c1_eq {x y : Nat} (hx : x < 1000) (hy : y < 1000) : nI x - 100 = nI y - 100 ↔ x = y := by
  rw [← Int32.toInt_inj, c1_i hx, c1_i hy]
  omega
theorem c1_99 {j : Nat} (hj : j < 999) : nI j - 99 = nI (j + 1) - 100 := by
  rw [← Int32.toInt_inj, c1_i (by omega)]
  have : (nI j - nI 99).toInt = (j : Int) - (99 : Nat) := pk_sub_toInt (by omega) (by decide)
  have e : (nI j - 99).toInt = (j : Int) - (99 : Nat) := this
  rw [e]
  omega
/-- costs and flows as numbers -/
def CFn (h : LH) (b k : Nat) (co fl : Nat → Nat) : Prop := ∀ a, a < k → (h.1 (b + 5) a = nI (co a) - 100 ∧ 1 ≤ co a ∧ co a ≤ 199) ∧ h.1 (b + 6) a = nI (fl a) ∧ fl a ≤ 99
def fcaN (co fl : Nat → Nat) (X : Nat) : Nat → Nat → Nat → Nat
  | 0, _, s => s
  | f + 1, a, s => fcaN co fl X f (a + 1) (if fl a = 0 then s else if co a ≤ X then s else if s ≤ co a then s else co a)
def fatN (co fl : Nat → Nat) (y : Nat) : Nat → Nat → Nat → Nat
  | 0, _, s => s
  | f + 1, a, s => fatN co fl y f (a + 1) (if co a = y then s + fl a else s)
theorem fca_eq (C : CFn h b k co fl) {X : Nat} (hX : X < 1000) : ∀ (f a s : Nat), a + f = k → s < 1000 → nt_fca h b (nI X - 100) f a (nI s - 100) = nI (fcaN co fl X f a s) - 100
  | 0, _, _, _, _ => rfl
  | f + 1, a, s, ha, hs => by
    obtain ⟨⟨e5, c1, c2⟩, e6, l1⟩ := C a (by omega)
    rw [nt_fca, fcaN, e5, e6]
    have q : (if nI (fl a) ≤ 0 then nI s - 100 else if nI (co a) - 100 ≤ nI X - 100 then nI s - 100 else if nI s - 100 ≤ nI (co a) - 100 then nI s - 100 else nI (co a) - 100) = nI (if fl a = 0 then s else if co a ≤ X then s else if s ≤ co a then s else co a) - 100 := by
      by_cases z : fl a = 0
      · rw [if_pos z, z, if_pos (by decide)]
      · rw [if_neg z, if_neg (fun y => z (by have := (nI_leI (a := fl a) (b := 0) (by omega) (by omega)).mp y; omega))]
        by_cases z2 : co a ≤ X
        · rw [if_pos z2, if_pos ((c1_le (by omega) hX).mpr z2)]
        · rw [if_neg z2, if_neg (fun y => z2 ((c1_le (by omega) hX).mp y))]
          by_cases z3 : s ≤ co a
          · rw [if_pos z3, if_pos ((c1_le hs (by omega)).mpr z3)]
          · rw [if_neg z3, if_neg (fun y => z3 ((c1_le hs (by omega)).mp y))]
    rw [q]
    refine fca_eq C hX f (a + 1) _ (by omega) ?_
    split
    · exact hs
    · split
      · exact hs
      · split
        · exact hs
        · omega
theorem fat_eq (C : CFn h b k co fl) {y : Nat} (hy : y < 1000) : ∀ (f a s : Nat), a + f = k → s + 99 * f < 2 ^ 31 → nt_fat h b (nI y - 100) f a (nI s) = nI (fatN co fl y f a s)
  | 0, _, _, _, _ => rfl
  | f + 1, a, s, ha, hs => by
    obtain ⟨⟨e5, c1, c2⟩, e6, l1⟩ := C a (by omega)
    rw [nt_fat, fatN, e5, e6]
    by_cases z : co a = y
    · rw [if_pos z, if_pos ((c1_eq (by omega) hy).mpr z), nI_add]
      exact fat_eq C hy f (a + 1) _ (by omega) (by omega)
    · rw [if_neg z, if_neg (fun w => z ((c1_eq (by omega) hy).mp w))]
      exact fat_eq C hy f (a + 1) _ (by omega) (by omega)
theorem fcaN_s {X : Nat} : ∀ (f a s : Nat), fcaN co fl X f a s ≤ s ∧ (∀ c, a ≤ c → c < a + f → fl c ≠ 0 → X < co c → fcaN co fl X f a s ≤ co c) ∧ (fcaN co fl X f a s = s ∨ ∃ c, a ≤ c ∧ c < a + f ∧ fl c ≠ 0 ∧ X < co c ∧ fcaN co fl X f a s = co c)
  | 0, a, s => ⟨Nat.le_refl _, fun c h1 h2 => by omega, Or.inl rfl⟩
  | f + 1, a, s => by
    rw [fcaN]
    obtain ⟨i1, i2, i3⟩ := fcaN_s (X := X) f (a + 1) (if fl a = 0 then s else if co a ≤ X then s else if s ≤ co a then s else co a)
    generalize fcaN co fl X f (a + 1) (if fl a = 0 then s else if co a ≤ X then s else if s ≤ co a then s else co a) = r at *
    have le : (if fl a = 0 then s else if co a ≤ X then s else if s ≤ co a then s else co a) ≤ s := by
      split
      · omega
      · split
        · omega
        · split <;> omega
    refine ⟨Nat.le_trans i1 le, fun c h1 h2 h3 h4 => ?_, ?_⟩
    · by_cases e : c = a
      · subst e
        rw [if_neg h3, if_neg (by omega)] at i1
        split at i1 <;> omega
      · exact i2 c (by omega) (by omega) h3 h4
    · rcases i3 with z | ⟨c, h1, h2, h3, h4, h5⟩
      · by_cases z1 : fl a = 0
        · rw [if_pos z1] at z
          exact Or.inl z
        · rw [if_neg z1] at z
          by_cases z2 : co a ≤ X
          · rw [if_pos z2] at z
            exact Or.inl z
          · rw [if_neg z2] at z
            by_cases z3 : s ≤ co a
            · rw [if_pos z3] at z
              exact Or.inl z
            · rw [if_neg z3] at z
              exact Or.inr ⟨a, Nat.le_refl _, by omega, z1, by omega, z⟩
      · exact Or.inr ⟨c, by omega, by omega, h3, h4, h5⟩
theorem fatN_s {y : Nat} : ∀ (f a s : Nat), s ≤ fatN co fl y f a s ∧ (fatN co fl y f a s = s ↔ ∀ c, a ≤ c → c < a + f → co c = y → fl c = 0)
  | 0, a, s => ⟨Nat.le_refl _, fun _ c h1 h2 => by omega, fun _ => rfl⟩
  | f + 1, a, s => by
    rw [fatN]
    by_cases z : co a = y
    · rw [if_pos z]
      obtain ⟨i1, i2⟩ := fatN_s (y := y) f (a + 1) (s + fl a)
      refine ⟨by omega, fun e c h1 h2 h3 => ?_, fun e => ?_⟩
      · by_cases ca : c = a
        · rw [ca]
          omega
        · exact i2.mp (by omega) c (by omega) (by omega) h3
      · have := e a (Nat.le_refl _) (by omega) z
        rw [i2.mpr (fun c h1 h2 h3 => e c (by omega) (by omega) h3)]
        omega
    · rw [if_neg z]
      obtain ⟨i1, i2⟩ := fatN_s (y := y) f (a + 1) s
      refine ⟨i1, i2.trans ⟨fun e c h1 h2 h3 => ?_, fun e c h1 h2 h3 => e c (by omega) (by omega) h3⟩⟩
      by_cases ca : c = a
      · exact absurd (by rw [← ca]; exact h3) z
      · exact e c (by omega) (by omega) h3
/-- how many flow at costs that were passed -/
def pas (co fl : Nat → Nat) (j : Nat) : Nat → Bool := fun a => decide (fl a ≠ 0 ∧ co a ≤ j)
theorem cv_mono {V W : Nat → Bool} (s : ∀ a, V a = true → W a = true) : ∀ q, cv V q ≤ cv W q
  | 0 => Nat.le_refl _
  | q + 1 => by
    have := cv_mono s q
    unfold cv
    by_cases z : V q = true
    · rw [if_pos z, if_pos (s q z)]
      omega
    · rw [if_neg z]
      omega
theorem cv_more {V W : Nat → Bool} (s : ∀ a, V a = true → W a = true) {c : Nat} (h1 : V c = false) (h2 : W c = true) : ∀ q, c < q → cv V q + 1 ≤ cv W q
  | 0, hq => by omega
  | q + 1, hq => by
    unfold cv
    by_cases e : c = q
    · have := cv_mono s q
      rw [← e, h1, h2]
      rw [← e] at this
      simp only [Bool.false_eq_true, if_false, if_true]
      omega
    · have := cv_more s h1 h2 q (by omega)
      by_cases z : V q = true
      · rw [if_pos z, if_pos (s q z)]
        omega
      · rw [if_neg z]
        omega
theorem xv_faL {hc : LH} (H : RM g n k) (E : ∀ a, a < k → hc.1 (b + 6) a = rm g a 4 ∧ hc.1 (b + 5) a = rm g a 3) {x1 : Int32} {Q : tf_Q} : ∀ (f a : Nat) (s : Int32), a + f = k → Q (.int (nt_fat hc b x1 f a s)) g → lx_X9_flowAt 298 (tf_Cd 298 (d + 1)) Q 4 [.ref 270, .int x1, .int s, .int (nI a)] [] g
  | 0, a, s, ha, q => by
    have hn := H.1
    exact go_X9_flowAt_4 (by decide) ⟨fun _ => go_X9_flowAt_43 (by decide) q, fun z => absurd (H.k2 (by omega) (by omega)) z⟩
  | f + 1, a, s, ha, q => by
    have hn := H.1
    rw [nt_fat, (E a (by omega)).1, (E a (by omega)).2] at q
    refine go_X9_flowAt_4 (by decide) ⟨fun z => absurd z (H.k1 (by omega)), fun _ => sx_of (d := d) a 3 rfl rfl (by omega) (by omega) _ (go_X9_flowAt_21 (by decide) ⟨fun c => sx_of (d := d) a 4 rfl rfl (by omega) (by omega) _ (go_X9_flowAt_31 (by decide) (go_X9_flowAt_35 (by decide) ?_)), fun c => go_X9_flowAt_34 (by decide) (go_X9_flowAt_35 (by decide) ?_)⟩)⟩
    · rw [if_pos c] at q
      rw [nI_1]
      exact xv_faL H E f (a + 1) _ (by omega) q
    · rw [if_neg c] at q
      rw [nI_1, Int32.add_zero]
      exact xv_faL H E f (a + 1) _ (by omega) q
theorem xv_fa {hc : LH} (H : RM g n k) (E : ∀ a, a < k → hc.1 (b + 6) a = rm g a 4 ∧ hc.1 (b + 5) a = rm g a 3) (x1 : Int32) : tf_Rt (d + 2) 84 [.ref 270, .int x1] g (.int (nt_fat hc b x1 k 0 0)) g := fun Q q => en_X9_flowAt (by decide) (go_X9_flowAt_0 (by decide) (xv_faL H E k 0 0 (by omega) q))
theorem xv_leL {hc : LH} (H : RM g n k) (E : ∀ a, a < k → hc.1 (0 + 6) a = rm g a 4 ∧ hc.1 (0 + 5) a = rm g a 3) (C : CFn hc 0 k co fl) {x1 x2 : Int32} {Q : tf_Q} : ∀ (f j i : Nat), j + f = 199 → i ≤ 14 → i ≤ cv (pas co fl j) k → Q (.int (qv_led hc k x1 x2 (14 - i) i (nI (fcaN co fl j k 0 200) - 100))) g → lx_X9_ledger 298 (tf_Cd 298 (d + 2)) Q 11 [.ref 270, .int x1, .int x2, .int (nI i), .int (nI j - 99)] [] g
  | 0, j, i, hj, hi, hv, q => by
    have e : j = 199 := by omega
    subst e
    have top : fcaN co fl 199 k 0 200 = 200 := by
      rcases (fcaN_s (co := co) (fl := fl) (X := 199) k 0 200).2.2 with z | ⟨c, h1, h2, h3, h4, -⟩
      · exact z
      · have := (C c (by omega)).1.2.2
        omega
    rw [top] at q
    have q3 : Q (.int (if x1 = -1 then nI i else -1000)) g := by
      cases f : 14 - i with
      | zero =>
        rw [f, qv_led] at q
        exact q
      | succ f =>
        rw [f, qv_led, if_pos (by decide)] at q
        exact q
    exact go_X9_ledger_11 (by decide) ⟨fun _ => go_X9_ledger_57 (by decide) ⟨fun c => go_X9_ledger_69 (by decide) (by rw [if_pos c] at q3; exact q3), fun c => go_X9_ledger_66 (by decide) (go_X9_ledger_69 (by decide) (by rw [if_neg c] at q3; exact q3))⟩, fun z => absurd (by decide) z⟩
  | f + 1, j, i, hj, hi, hv, q => by
    have k14 := H.1.2.2
    have ec : nI j - 99 = nI (j + 1) - 100 := c1_99 (by omega)
    have fe := fat_eq C (y := j + 1) (by omega) k 0 0 (by omega) (by omega)
    have fs := (fatN_s (co := co) (fl := fl) (y := j + 1) k 0 0).2
    have fle : ∀ (f a s : Nat), a + f ≤ k → fatN co fl (j + 1) f a s ≤ s + 99 * f := by
      intro f
      induction f with
      | zero =>
        intro a s _
        exact Nat.le_refl _
      | succ f ih =>
        intro a s ha
        rw [fatN]
        have := (C a (by omega)).2.2
        have := ih (a + 1) (if co a = j + 1 then s + fl a else s) (by omega)
        split at this <;> split <;> omega
    have fl2 := fle k 0 0 (by omega)
    have sr := fcaN_s (co := co) (fl := fl) (X := j) k 0 200
    have mono : ∀ a, pas co fl j a = true → pas co fl (j + 1) a = true := fun a z => by
      unfold pas at z ⊢
      have := of_decide_eq_true z
      exact decide_eq_true ⟨this.1, by omega⟩
    refine go_X9_ledger_11 (by decide) ⟨fun z => absurd z (m99_lt (by omega)), fun _ => xv_fa (d := d) H E _ _ (go_X9_ledger_24 (by decide) ⟨fun c => go_X9_ledger_51 (by decide) ?_, fun c => ?_⟩)⟩
    · -- nothing flows at this cost
      rw [ec, show (0 : Int32) = nI 0 from rfl, fe] at c
      have c0 : fatN co fl (j + 1) k 0 0 = 0 := by
        have := (nI_leI (a := fatN co fl (j + 1) k 0 0) (b := 0) (by omega) (by omega)).mp c
        omega
      have no := fs.mp c0
      have sr2 := fcaN_s (co := co) (fl := fl) (X := j + 1) k 0 200
      have e : fcaN co fl j k 0 200 = fcaN co fl (j + 1) k 0 200 := by
        apply Nat.le_antisymm
        · rcases sr2.2.2 with z | ⟨c2, h1, h2, h3, h4, h5⟩
          · rw [z]
            exact sr.1
          · rw [h5]
            exact sr.2.1 c2 h1 h2 h3 (by omega)
        · rcases sr.2.2 with z | ⟨c2, h1, h2, h3, h4, h5⟩
          · rw [z]
            exact sr2.1
          · rw [h5]
            refine sr2.2.1 c2 h1 h2 h3 ?_
            rcases Nat.lt_or_ge (j + 1) (co c2) with y | y
            · exact y
            · exact absurd (no c2 h1 h2 (by omega)) h3
      rw [m99]
      rw [e] at q
      exact xv_leL H E C f (j + 1) i (by omega) hi (Nat.le_trans hv (cv_mono mono k)) q
    · have cn : fatN co fl (j + 1) k 0 0 ≠ 0 := fun z => c (by rw [ec, show (0 : Int32) = nI 0 from rfl, fe, z]; decide)
      have ex : ∃ c2, c2 < k ∧ co c2 = j + 1 ∧ fl c2 ≠ 0 := by
        apply Classical.byContradiction
        intro z
        refine cn (fs.mpr (fun c2 h1 h2 h3 => ?_))
        apply Classical.byContradiction
        intro z2
        exact z ⟨c2, by omega, h3, z2⟩
      obtain ⟨c2, k1, k2, k3⟩ := ex
      have e : fcaN co fl j k 0 200 = j + 1 := by
        have u := sr.2.1 c2 (Nat.zero_le _) (by omega) k3 (by omega)
        rcases sr.2.2 with z | ⟨c3, h1, h2, h3, h4, h5⟩
        · omega
        · omega
      have more := cv_more mono (c := c2) (by
        unfold pas
        exact decide_eq_false (fun z => by omega)) (by
        unfold pas
        exact decide_eq_true ⟨k3, by omega⟩) k k1
      have cvk := cv_le (V := pas co fl (j + 1)) k
      have hf : 14 - i = (14 - (i + 1)) + 1 := by omega
      rw [e, hf, qv_led, ← ec, if_neg (m99_lt (by omega))] at q
      refine ⟨fun s => ⟨fun y => go_X9_ledger_45 (by decide) (go_X9_ledger_47 (by decide) ?_), fun y => xv_fa (d := d) H E _ _ (go_X9_ledger_42 (by decide) (go_X9_ledger_47 (by decide) ?_))⟩, fun s => go_X9_ledger_48 (by decide) (go_X9_ledger_51 (by decide) ?_)⟩
      · rw [if_pos s, if_pos y] at q
        exact q
      · rw [if_pos s, if_neg y] at q
        exact q
      · rw [if_neg s, ec] at q
        have fq := fca_eq C (X := j + 1) (by omega) k 0 200 (by omega) (by omega)
        have fq : nt_fca hc 0 (nI (j + 1) - 100) k 0 100 = nI (fcaN co fl (j + 1) k 0 200) - 100 := fq
        rw [fq] at q
        rw [m99, nI_1]
        exact xv_leL H E C f (j + 1) (i + 1) (by omega) (by omega) (by omega) q
theorem led_neg {x y : Int32} (hx : ¬ -1 ≤ x) : ∀ (f i : Nat) (c : Int32), i < 1000 → i + f < 1000 → qv_led h k x y f i c = -1000
  | 0, i, c, hi, hf => by
    rw [qv_led, if_neg (fun z => hx (by rw [z]; decide))]
  | f + 1, i, c, hi, hf => by
    have n1 : ¬ x = -1 := fun z => hx (by rw [z]; decide)
    rw [qv_led, if_neg n1]
    split
    · rfl
    · rw [if_neg (fun z => hx (by
        rw [← z, Int32.le_iff_toInt_le, nI_toInt (by omega)]
        have : (-1 : Int32).toInt = -1 := by decide
        omega))]
      exact led_neg hx f (i + 1) _ (by omega) (by omega)
theorem xv_ledger (G0 : GI h n k M) (N : NR h 0 h n k m) (x y : Int32) : XV 85 [.int x, .int y] h (qv_ledger h k x y) := by
  intro Q q
  have q2 : ∀ (v : Int32) (g : LH), v = qv_ledger h k x y → Q (.int v) g := fun v g e => q _ g (by rw [e])
  clear q
  have G : GI (w1 h 270 0 0) n k M := G0.w (by decide)
  obtain ⟨⟨-, -, E0, F0, C0, S0⟩, -, -⟩ := N.w0 (v := 0) (i := 0) G0
  have AG1 := G.2.2.2.2.1
  have C : CFn h 0 k (fun a => (h.1 (0 + 5) a + 99).toNatClampNeg + 1) (fun a => (h.1 (0 + 6) a).toNatClampNeg) := by
    intro a ha
    obtain ⟨c, hc, e⟩ := AG1.2.2.1 a ha
    obtain ⟨v, w, h1, h2, h3, h4⟩ := AG1.2.1 a ha
    rw [← C0.1 a ha] at e
    have e6 : h.1 (0 + 6) a = nI v := (F0.1 a ha).2.trans h3
    refine ⟨⟨?_, Nat.le_add_left 1 _, ?_⟩, ?_, ?_⟩
    · show h.1 (0 + 5) a = nI ((h.1 (0 + 5) a + 99).toNatClampNeg + 1) - 100
      rw [e, nI_clamp (by omega), ← c1_99 (by omega), ← e]
      exact (Int32.add_sub_cancel _ _).symm
    · show (h.1 (0 + 5) a + 99).toNatClampNeg + 1 ≤ 199
      rw [e, nI_clamp (by omega)]
      omega
    · show h.1 (0 + 6) a = nI (h.1 (0 + 6) a).toNatClampNeg
      rw [e6, nI_clamp (by omega)]
    · show (h.1 (0 + 6) a).toNatClampNeg ≤ 99
      rw [e6, nI_clamp (by omega)]
      omega
  generalize (fun a => (h.1 (0 + 5) a + 99).toNatClampNeg + 1) = co at C
  generalize (fun a => (h.1 (0 + 6) a).toNatClampNeg) = fl at C
  have ql : qv_ledger h k x y = qv_led h k x y (14 - 0) 0 (nI (fcaN co fl 0 k 0 200) - 100) := by
    have fq := fca_eq C (X := 0) (by omega) k 0 200 (by omega) (by omega)
    have fq : nt_fca h 0 (-100) k 0 100 = nI (fcaN co fl 0 k 0 200) - 100 := fq
    unfold qv_ledger
    rw [fq]
    by_cases z : -1 ≤ x
    · rw [if_pos z]
    · rw [if_neg z, led_neg z _ _ _ (by omega) (by omega)]
  refine en_X9_ledger (by decide) (go_X9_ledger_0 (by decide) ?_)
  show lx_X9_ledger 298 (tf_Cd 298 10) Q 11 [.ref 270, .int x, .int y, .int (nI 0), .int (nI 0 - 99)] [] (w1 h 270 0 0)
  generalize w1 h 270 0 0 = h1 at *
  exact xv_leL (d := 8) (hc := h) G.1 (fun a ha => ⟨(F0.1 a ha).2, C0.1 a ha⟩) C 199 0 0 (by omega) (by omega) (Nat.zero_le _) (q2 _ _ ql.symm)
theorem ze_21 (I : IZ h t) (x y : Int32) : lk_eq h 200 [.ref 240, .int x, .int y] 85 [.ref 270, .int x, .int y] (fun g => IZ g (t + 1)) := by
  obtain ⟨n, k, m, hm, H, G, N⟩ := I.1.1
  exact ze_q (iz_21 I x y) (pq_ledger H.1 x y) (xv_ledger G N x y)
end TGL
