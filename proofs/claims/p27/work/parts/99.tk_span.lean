/-! ===== a cost tried out: the tree stays, prices shift ===== -/
section TKS
variable {h g r T T2 : LH} {t M d n k m b x : Nat}
/-- all but costs is the same -/
def RC (T T2 : LH) (n k : Nat) : Prop := (∀ p, p < n → T2.1 271 (51 + p) = T.1 271 (51 + p) ∧ T2.1 271 (58 + p) = T.1 271 (58 + p)) ∧ ∀ a, a < k → rm T2 a 0 = rm T a 0 ∧ rm T2 a 1 = rm T a 1 ∧ rf_hangs T2 a = rf_hangs T a
theorem RC.sy (R : RC T T2 n k) : RC T2 T n k := ⟨fun p hp => ⟨(R.1 p hp).1.symm, (R.1 p hp).2.symm⟩, fun a ha => ⟨(R.2 a ha).1.symm, (R.2 a ha).2.1.symm, (R.2 a ha).2.2.symm⟩⟩
theorem EG.rc {p q : Nat} {id : Int32} (R : RC T T2 n k) (hp : p < n) (E : EG T n k p q id) : EG T2 n k p q id := by
  rcases E with ⟨a1, a2, a3⟩ | ⟨a1, a, ha, a2, a3, a4⟩
  · exact Or.inl ⟨a1, a2, by rw [(R.1 p hp).1]; exact a3⟩
  · obtain ⟨m1, m2, m4⟩ := R.2 a ha
    exact Or.inr ⟨a1, a, ha, a2, by rw [m4]; exact a3, by rw [m1, m2]; exact a4⟩
theorem tree_rc (L : LT T n k) (C : CT h b T n) (S : TS T n k) (A : ∀ a, a < k → rm T a 0 ≠ rm T a 1) (L2 : LT T2 n k) (R : RC T T2 n k) : ∀ p, p < n → uf T2 p = uf T p ∧ T2.1 282 p = T.1 282 p := by
  have n7 := L.1.1.2.1
  have k14 := L.1.1.2.2
  have A2 : ∀ a, a < k → rm T2 a 0 ≠ rm T2 a 1 := fun a ha => by rw [(R.2 a ha).1, (R.2 a ha).2.1]; exact A a ha
  have C2 : CT h b T2 n := ct_uni L2 A2 (fun p hp => ⟨uf T p, T.1 282 p, (L.up hp).1, (C p hp).1, (C p hp).2, EG.rc R hp (L.at hp).2.2.2.2.2⟩) (fun p q id hp E => by
    obtain ⟨s, hs, e⟩ := S p q id hp (EG.rc R.sy hp E)
    exact ⟨s, hs, by rw [(C s hs).2, e]⟩)
  exact fun p hp => ⟨(cI_inj n7 (L2.up hp).1 (L.up hp).1).mp ((C2 p hp).1.symm.trans (C p hp).1), eK_inj n7 k14 ((L2.at hp).2.2.2.2.2.ed hp) ((L.at hp).2.2.2.2.2.ed hp) ((C2 p hp).2.symm.trans (C p hp).2)⟩
/-- w lies on the way up from p -/
def owy (T : LH) (w p : Nat) : Prop := ∃ j, j ≤ df T p ∧ tw T j p = w
theorem owy_s (L : LT T n k) {w p : Nat} (hp : p < n) : owy T w p ↔ p = w ∨ owy T w (uf T p) := by
  have u := L.up hp
  constructor
  · rintro ⟨j, hj, e⟩
    cases j with
    | zero => exact Or.inl e
    | succ j => exact Or.inr ⟨j, by omega, e⟩
  · rintro (e | ⟨j, hj, e⟩)
    · exact ⟨0, Nat.zero_le _, e⟩
    · exact ⟨j + 1, by omega, e⟩
theorem owy_n (L : LT T n k) {w : Nat} (hw : w < n) : ¬ owy T w n := by
  rintro ⟨j, hj, e⟩
  have := (L.d0 (Nat.le_refl n)).mpr rfl
  have j0 : j = 0 := by omega
  subst j0
  have : n = w := e
  omega
/-- the arc x hangs from w: prices below shift by the cost's shift, along or against -/
theorem pr_sh (L : LT T n k) (P : PR T n k) (L2 : LT T2 n k) (P2 : PR T2 n k) (A : ∀ a, a < k → rm T a 0 ≠ rm T a 1) (R : RC T T2 n k) (same : ∀ p, p < n → uf T2 p = uf T p ∧ T2.1 282 p = T.1 282 p) (co : ∀ a, a < k → a ≠ x → rm T2 a 3 = rm T a 3) {D : Int32} (cx : rm T2 x 3 = rm T x 3 + D) {w : Nat} {s : Int32} (hw : w < n) (ex : T.1 282 w = nI x) (hs : (rm T x 1 = nI w ∧ s = 1) ∨ (rm T x 0 = nI w ∧ s = -1)) (hx : x < k) : ∀ (d p : Nat), p ≤ n → df T p ≤ d → (owy T w p → T2.1 284 p = T.1 284 p + s * D) ∧ (¬ owy T w p → T2.1 284 p = T.1 284 p) := by
  have n7 := L.1.1.2.1
  have k14 := L.1.1.2.2
  intro d
  induction d with
  | zero =>
    intro p hp hd
    have : p = n := (L.d0 hp).mp (by omega)
    subst this
    exact ⟨fun z => absurd z (owy_n L hw), fun _ => by rw [P.1, P2.1]⟩
  | succ d ih =>
    intro p hp hd
    rcases Nat.lt_or_ge p n with z | z
    · have up := L.up z
      obtain ⟨i1, i2⟩ := ih (uf T p) up.1 (by omega)
      obtain ⟨s1, s2⟩ := same p z
      have os := owy_s L (w := w) z
      rcases P.at L z with ⟨en, e, pr⟩ | ⟨el, -, a, ha, e, ea⟩
      · -- hangs by a loan
        have pw : p ≠ w := fun y => by
          rw [← y, e] at ex
          have := (nI_eq (by omega) (by omega)).mp ex
          omega
        have no : ¬ owy T w p := fun y => by
          rcases os.mp y with y | y
          · exact pw y
          · rw [en] at y
            exact owy_n L hw y
        refine ⟨fun y => absurd y no, fun _ => ?_⟩
        rcases P2.at L2 z with ⟨-, -, pr2⟩ | ⟨-, -, c, hc, e2, -⟩
        · rw [pr, pr2, (R.1 p z).2]
        · rw [s2, e] at e2
          have := (nI_eq (by omega) (by omega)).mp e2
          omega
      · rcases P2.at L2 z with ⟨-, e2, -⟩ | ⟨-, -, c, hc, e2, ec⟩
        · rw [s2, e] at e2
          have := (nI_eq (by omega) (by omega)).mp e2
          omega
        · rw [s2, e] at e2
          have ac : a = c := (nI_eq (by omega) (by omega)).mp e2
          subst ac
          obtain ⟨m1, m2, -⟩ := R.2 a ha
          rw [s1, m1, m2] at ec
          have ne := A a ha
          by_cases pw : p = w
          · have ax : a = x := by
              rw [pw, ex] at e
              exact ((nI_eq (by omega) (by omega)).mp e).symm
            rw [ax] at ea ec ne
            rw [cx] at ec
            have nou : ¬ owy T w (uf T p) := by
              rintro ⟨j, hj, ej⟩
              have t1 := L.tu j (uf T p) up.1 hj
              rw [ej, ← pw] at t1
              omega
            have iu := i2 nou
            refine ⟨fun _ => ?_, fun y => absurd (os.mpr (Or.inl pw)) y⟩
            rcases hs with ⟨h1, h2⟩ | ⟨h1, h2⟩
            · rw [← pw] at h1
              rcases ea with ⟨m3, m4, pr⟩ | ⟨m3, m4, pr⟩
              · rcases ec with ⟨m5, m6, pr2⟩ | ⟨m5, m6, pr2⟩
                · rw [pr2, pr, iu, h2, Int32.one_mul]
                  exact (Int32.add_assoc _ _ _).symm
                · exact absurd (m5.trans h1.symm) ne
              · exact absurd (m3.trans h1.symm) ne
            · rw [← pw] at h1
              rcases ea with ⟨m3, m4, pr⟩ | ⟨m3, m4, pr⟩
              · exact absurd (h1.trans m3.symm) ne
              · rcases ec with ⟨m5, m6, pr2⟩ | ⟨m5, m6, pr2⟩
                · exact absurd (h1.trans m5.symm) ne
                · rw [pr2, pr, iu, h2]
                  grind
          · have ax : a ≠ x := fun y => by
              rw [y] at e
              exact pw (by_inj L z hw (e.trans ex.symm))
            rw [co a ha ax] at ec
            have oo : owy T w p ↔ owy T w (uf T p) := os.trans ⟨fun y => y.resolve_left pw, fun y => Or.inr y⟩
            have fin : ∀ Y : Int32, T2.1 284 (uf T p) = T.1 284 (uf T p) + Y → T2.1 284 p = T.1 284 p + Y := by
              intro Y eY
              rcases ea with ⟨m3, m4, pr⟩ | ⟨m3, m4, pr⟩ <;> rcases ec with ⟨m5, m6, pr2⟩ | ⟨m5, m6, pr2⟩
              · rw [pr2, pr, eY]
                grind
              · exact absurd (m5.trans m3.symm) ne
              · exact absurd (m3.trans m5.symm) ne
              · rw [pr2, pr, eY]
                grind
            refine ⟨fun y => fin _ (i1 (oo.mp y)), fun y => ?_⟩
            have := fin 0 (by rw [i2 (fun q => y (oo.mpr q)), Int32.add_zero])
            rw [this, Int32.add_zero]
    · have : p = n := by omega
      subst this
      exact ⟨fun z => absurd z (owy_n L hw), fun _ => by rw [P.1, P2.1]⟩
/-- the arc x doesn't hang: prices stay -/
theorem pr_no (L : LT T n k) (P : PR T n k) (L2 : LT T2 n k) (P2 : PR T2 n k) (A : ∀ a, a < k → rm T a 0 ≠ rm T a 1) (R : RC T T2 n k) (same : ∀ p, p < n → uf T2 p = uf T p ∧ T2.1 282 p = T.1 282 p) (co : ∀ a, a < k → a ≠ x → rm T2 a 3 = rm T a 3) (nx : ∀ p, p < n → T.1 282 p ≠ nI x) : ∀ (d p : Nat), p ≤ n → df T p ≤ d → T2.1 284 p = T.1 284 p := by
  have n7 := L.1.1.2.1
  have k14 := L.1.1.2.2
  intro d
  induction d with
  | zero =>
    intro p hp hd
    have : p = n := (L.d0 hp).mp (by omega)
    subst this
    rw [P.1, P2.1]
  | succ d ih =>
    intro p hp hd
    rcases Nat.lt_or_ge p n with z | z
    · have up := L.up z
      have i := ih (uf T p) up.1 (by omega)
      obtain ⟨s1, s2⟩ := same p z
      rcases P.at L z with ⟨-, e, pr⟩ | ⟨-, -, a, ha, e, en⟩
      · rcases P2.at L2 z with ⟨-, -, pr2⟩ | ⟨-, -, c, hc, e2, -⟩
        · rw [pr, pr2, (R.1 p z).2]
        · rw [s2, e] at e2
          have := (nI_eq (by omega) (by omega)).mp e2
          omega
      · rcases P2.at L2 z with ⟨-, e2, -⟩ | ⟨-, -, c, hc, e2, en2⟩
        · rw [s2, e] at e2
          have := (nI_eq (by omega) (by omega)).mp e2
          omega
        · rw [s2, e] at e2
          have ac : a = c := (nI_eq (by omega) (by omega)).mp e2
          subst ac
          have ax : a ≠ x := fun y => nx p z (by rw [e, y])
          obtain ⟨m1, m2, -⟩ := R.2 a ha
          rw [s1, m1, m2, co a ha ax] at en2
          have ne := A a ha
          rcases en with ⟨m1, m2, pr⟩ | ⟨m1, m2, pr⟩ <;> rcases en2 with ⟨m3, m4, pr2⟩ | ⟨m3, m4, pr2⟩
          · rw [pr, pr2, i]
          · exact absurd (m3.trans m1.symm) ne
          · exact absurd (m1.trans m3.symm) ne
          · rw [pr, pr2, i]
    · have : p = n := by omega
      subst this
      rw [P.1, P2.1]
end TKS
