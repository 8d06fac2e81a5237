/-! ===== a pivot on both sides ===== -/
section RHS
variable {h g r T T2 : LH} {b n k m M : Nat}
/-- what the tree depends on is the same -/
def RT (r T : LH) (n k : Nat) : Prop := (∀ p, p < n → (T.1 271 (51 + p) = 1 ↔ r.1 271 (51 + p) = 1) ∧ T.1 271 (58 + p) = r.1 271 (58 + p)) ∧ ∀ a, a < k → (rm T a 0 = rm r a 0 ∧ rm T a 1 = rm r a 1 ∧ rm T a 3 = rm r a 3) ∧ rf_hangs T a = rf_hangs r a
theorem EG.rt {p q : Nat} {id : Int32} (R : RT r T n k) (hp : p < n) (E : EG r n k p q id) : EG T n k p q id := by
  rcases E with ⟨a1, a2, a3⟩ | ⟨a1, a, ha, a2, a3, a4⟩
  · exact Or.inl ⟨a1, a2, (R.1 p hp).1.mpr a3⟩
  · obtain ⟨⟨m1, m2, -⟩, m4⟩ := R.2 a ha
    exact Or.inr ⟨a1, a, ha, a2, by rw [m4]; exact a3, by rw [m1, m2]; exact a4⟩
theorem RT.sy (R : RT r T n k) : RT T r n k := ⟨fun p hp => ⟨(R.1 p hp).1.symm, (R.1 p hp).2.symm⟩, fun a ha => ⟨⟨(R.2 a ha).1.1.symm, (R.2 a ha).1.2.1.symm, (R.2 a ha).1.2.2.symm⟩, (R.2 a ha).2.symm⟩⟩
theorem tree_mv (L : LT T n k) (P : PR T n k) (C : CT h b T n) (Pe : PRe h b T n) (S : TS T n k) (A : ∀ a, a < k → rm T a 0 ≠ rm T a 1) (L2 : LT T2 n k) (P2 : PR T2 n k) (R : RT T T2 n k) : CT h b T2 n ∧ PRe h b T2 n ∧ TS T2 n k := by
  have n7 := L.1.1.2.1
  have k14 := L.1.1.2.2
  have A2 : ∀ a, a < k → rm T2 a 0 ≠ rm T2 a 1 := fun a ha => by rw [(R.2 a ha).1.1, (R.2 a ha).1.2.1]; exact A a ha
  have C2 : CT h b T2 n := ct_uni L2 A2 (fun p hp => ⟨uf T p, T.1 282 p, (L.up hp).1, (C p hp).1, (C p hp).2, EG.rt R hp (L.at hp).2.2.2.2.2⟩) (fun p q id hp E => by
    obtain ⟨s, hs, e⟩ := S p q id hp (EG.rt R.sy hp E)
    exact ⟨s, hs, by rw [(C s hs).2, e]⟩)
  have same : ∀ p, p < n → uf T2 p = uf T p ∧ T2.1 282 p = T.1 282 p := fun p hp => ⟨(cI_inj n7 (L2.up hp).1 (L.up hp).1).mp ((C2 p hp).1.symm.trans (C p hp).1), eK_inj n7 k14 ((L2.at hp).2.2.2.2.2.ed hp) ((L.at hp).2.2.2.2.2.ed hp) ((C2 p hp).2.symm.trans (C p hp).2)⟩
  refine ⟨C2, ⟨Pe.1, fun p hp => ?_⟩, fun p q id hp E => ?_⟩
  · rw [Pe.2 p hp]
    have main : ∀ (d p : Nat), p ≤ n → df T p ≤ d → T.1 284 p = T2.1 284 p := by
      intro d
      induction d with
      | zero =>
        intro p hp hd
        have : p = n := (L.d0 hp).mp (by omega)
        rw [this, P.1, P2.1]
      | succ d ih =>
        intro p hp hd
        rcases Nat.lt_or_ge p n with z | z
        · have up := L.up z
          have i := ih (uf T p) up.1 (by omega)
          obtain ⟨s1, s2⟩ := same p z
          rcases P.at L z with ⟨-, e, pr⟩ | ⟨-, -, a, ha, e, en⟩
          · rcases P2.at L2 z with ⟨-, -, pr2⟩ | ⟨-, -, c, hc, e2, -⟩
            · rw [pr, pr2, (R.1 p z).2]
            · rw [s2, e] at e2
              have := (nI_eq (by omega) (by omega)).mp e2
              omega
          · rcases P2.at L2 z with ⟨-, e2, -⟩ | ⟨-, -, c, hc, e2, en2⟩
            · rw [s2, e] at e2
              have := (nI_eq (by omega) (by omega)).mp e2
              omega
            · rw [s2, e] at e2
              have ac : a = c := (nI_eq (by omega) (by omega)).mp e2
              subst ac
              obtain ⟨⟨m1, m2, m3⟩, -⟩ := R.2 a ha
              rw [s1, m1, m2, m3] at en2
              have ne := A a ha
              rcases en with ⟨m1, m2, pr⟩ | ⟨m1, m2, pr⟩ <;> rcases en2 with ⟨m3, m4, pr2⟩ | ⟨m3, m4, pr2⟩
              · rw [pr, pr2, i]
              · exact absurd (m3.trans m1.symm) ne
              · exact absurd (m1.trans m3.symm) ne
              · rw [pr, pr2, i]
        · have : p = n := by omega
          rw [this, P.1, P2.1]
    exact main (df T p) p (Nat.le_of_lt hp) (Nat.le_refl _)
  · obtain ⟨s, hs, e⟩ := S p q id hp (EG.rt R.sy hp E)
    exact ⟨s, hs, by rw [(same s hs).2, e]⟩
theorem st_fl_lo : ∀ (f i : Nat) (h : LH) (e : Nat), e ≠ b + 6 → (st_fl b f i h).1 e = h.1 e
  | 0, i, h, e, he => rfl
  | f + 1, i, h, e, he => by rw [st_fl, st_fl_lo f (i + 1) _ e he, w1_ne he]
theorem nt_rh_lo2 {goes : Int32} : ∀ (f : Nat) (a u e : Int32) (h : LH) (c : Nat), c ≠ b + 8 → c ≠ b + 9 → (nt_rh b goes f a u e h).1 c = h.1 c := fun f a u e h c h1 h2 => nt_rh_lo f a u e h c h1 h2
/-- the tree after an edge left and another came: the class's side -/
theorem ct_ex (L : LT T n k) (hb : b ≤ 225) (S : TS T n k) (L2 : LT T2 n k) (A2 : ∀ a, a < k → rm T2 a 0 ≠ rm T2 a 1) (C : CT h b T n) {B Ab a j : Nat} {id : Int32} (ha : a < k) (hB : B < n) (hAb : Ab < n) (hj : j < df T B) (ei : T.1 282 (tw T j B) = id) (hn : id ≠ nI a) (en : (rm T2 a 0 = nI B ∧ rm T2 a 1 = nI Ab) ∨ (rm T2 a 1 = nI B ∧ rm T2 a 0 = nI Ab)) (ends : ∀ c, c < k → rm T2 c 0 = rm T c 0 ∧ rm T2 c 1 = rm T c 1) (hangA : rf_hangs T2 a = true) (hang : ∀ c, c < k → c ≠ a → (rf_hangs T2 c = true ↔ rf_hangs T c = true ∧ id ≠ nI c)) (lent : ∀ p, p < n → (T2.1 271 (51 + p) = 1 ↔ T.1 271 (51 + p) = 1 ∧ id ≠ nI (100 + p))) (hnew : rf_hangs T a = false) : CT (nt_rh b (eK id) n (cI n B) (cI n Ab) (nI a) h) b T2 n ∧ TS T2 n k := by
  have n7 := L.1.1.2.1
  have k14 := L.1.1.2.2
  have idE : ED n k id := by rw [← ei]; exact (L.at (tw_lt L (Nat.le_of_lt hB) hj)).2.2.2.2.2.ed (tw_lt L (Nat.le_of_lt hB) hj)
  have Bn := Nat.le_of_lt hB
  obtain ⟨r1, r2, r3, r4⟩ := ct_rh L hb Bn hj (by rw [ei]) (fun t ht z => by
    have e2 : T.1 282 (tw T t B) = id := eK_inj n7 k14 ((L.at (tw_lt L Bn (by omega))).2.2.2.2.2.ed (tw_lt L Bn (by omega))) idE z
    have := by_inj L (tw_lt L Bn (by omega)) (tw_lt L Bn hj) (e2.trans ei.symm)
    have := tw_in L Bn (by omega) (by omega) this
    omega) n 0 (cI n Ab) (nI a) h (fun t _ ht => C _ (tw_lt L Bn (by omega))) (Nat.zero_le _) (by have := L.dn Bn; omega)
  have r1 : (nt_rh b (eK id) n (cI n B) (cI n Ab) (nI a) h).1 (b + 8) B = cI n Ab := r1
  have r2 : (nt_rh b (eK id) n (cI n B) (cI n Ab) (nI a) h).1 (b + 9) B = nI a := r2
  have r3 : ∀ t, 0 < t → t ≤ j → (nt_rh b (eK id) n (cI n B) (cI n Ab) (nI a) h).1 (b + 8) (tw T t B) = cI n (tw T (t - 1) B) ∧ (nt_rh b (eK id) n (cI n B) (cI n Ab) (nI a) h).1 (b + 9) (tw T t B) = eK (T.1 282 (tw T (t - 1) B)) := r3
  have r4 : ∀ p, (∀ t, 0 ≤ t → t ≤ j → tw T t B ≠ p) → (nt_rh b (eK id) n (cI n B) (cI n Ab) (nI a) h).1 (b + 8) p = h.1 (b + 8) p ∧ (nt_rh b (eK id) n (cI n B) (cI n Ab) (nI a) h).1 (b + 9) p = h.1 (b + 9) p := r4
  generalize nt_rh b (eK id) n (cI n B) (cI n Ab) (nI a) h = h2 at r1 r2 r3 r4
  have EA : EG T2 n k B Ab (nI a) := Or.inr ⟨hAb, a, ha, rfl, hangA, en⟩
  -- an edge that stays hangs on, the same two at its ends
  have keep : ∀ p q id2, p < n → id2 ≠ id → EG T n k p q id2 → EG T2 n k p q id2 := by
    intro p q id2 hp hne E
    rcases E with ⟨a1, a2, a3⟩ | ⟨a1, c, hc, a2, a3, a4⟩
    · exact Or.inl ⟨a1, a2, (lent p hp).mpr ⟨a3, fun z => hne (a2.trans z.symm)⟩⟩
    · have ca : c ≠ a := fun z => by rw [z, hnew] at a3; cases a3
      refine Or.inr ⟨a1, c, hc, a2, (hang c hc ca).mpr ⟨a3, fun z => hne (a2.trans z.symm)⟩, ?_⟩
      rw [(ends c hc).1, (ends c hc).2]
      exact a4
  have flip : ∀ p q id2, p < n → EG T2 n k p q id2 → EG T2 n k q p id2 ∨ id2 = nI (100 + p) := by
    intro p q id2 pn E
    rcases E with ⟨a1, a2, a3⟩ | ⟨a1, c, hc, a2, a3, a4⟩
    · exact Or.inr a2
    · rcases a4 with ⟨z1, z2⟩ | ⟨z1, z2⟩
      · exact Or.inl (Or.inr ⟨pn, c, hc, a2, a3, Or.inr ⟨z2, z1⟩⟩)
      · exact Or.inl (Or.inr ⟨pn, c, hc, a2, a3, Or.inl ⟨z2, z1⟩⟩)
  have u1 : ∀ p, p < n → ∃ q id2, q ≤ n ∧ h2.1 (b + 8) p = cI n q ∧ h2.1 (b + 9) p = eK id2 ∧ EG T2 n k p q id2 := by
    intro p hp
    by_cases on : ∃ t, t ≤ j ∧ tw T t B = p
    · obtain ⟨t, ht, et⟩ := on
      cases t with
      | zero =>
        have et : B = p := et
        subst et
        exact ⟨Ab, nI a, Nat.le_of_lt hAb, r1, by rw [r2, eK_a (by omega)], EA⟩
      | succ t =>
        obtain ⟨e8, e9⟩ := r3 (t + 1) (by omega) ht
        rw [et] at e8 e9
        have tq : tw T t B < n := tw_lt L Bn (by omega)
        have E0 := (L.at tq).2.2.2.2.2
        have up : uf T (tw T t B) = p := by rw [← tw_s]; exact et
        rw [up] at E0
        have ne : T.1 282 (tw T t B) ≠ id := fun z => by
          have := by_inj L tq (tw_lt L Bn hj) (z.trans ei.symm)
          have := tw_in L Bn (by omega) (by omega) this
          omega
        have E1 := keep _ _ _ tq ne E0
        rcases flip _ _ _ tq E1 with E2 | z
        · exact ⟨tw T t B, _, Nat.le_of_lt tq, e8, e9, E2⟩
        · exfalso
          rcases E0 with ⟨y, -, -⟩ | ⟨-, c, hc, y, -, -⟩
          · omega
          · rw [y] at z
            have := (nI_eq (by omega) (by omega)).mp z
            omega
    · obtain ⟨e8, e9⟩ := r4 p (fun t _ ht z => on ⟨t, ht, z⟩)
      have E0 := (L.at hp).2.2.2.2.2
      have ne : T.1 282 p ≠ id := fun z => on ⟨j, Nat.le_refl _, by_inj L (tw_lt L Bn hj) hp (ei.trans z.symm)⟩
      exact ⟨uf T p, T.1 282 p, (L.up hp).1, by rw [e8, (C p hp).1], by rw [e9, (C p hp).2], keep _ _ _ hp ne E0⟩
  have u2 : ∀ p q id2, p < n → EG T2 n k p q id2 → ∃ s, s < n ∧ h2.1 (b + 9) s = eK id2 := by
    intro p q id2 hp E
    by_cases ia : id2 = nI a
    · exact ⟨B, hB, by rw [r2, ia, eK_a (by omega)]⟩
    · have old : EG T n k p q id2 ∧ id2 ≠ id := by
        rcases E with ⟨a1, a2, a3⟩ | ⟨a1, c, hc, a2, a3, a4⟩
        · obtain ⟨l1, l2⟩ := (lent p hp).mp a3
          exact ⟨Or.inl ⟨a1, a2, l1⟩, fun z => l2 (z.symm.trans a2)⟩
        · have ca : c ≠ a := fun z => ia (by rw [a2, z])
          obtain ⟨l1, l2⟩ := (hang c hc ca).mp a3
          rw [(ends c hc).1, (ends c hc).2] at a4
          exact ⟨Or.inr ⟨a1, c, hc, a2, l1, a4⟩, fun z => l2 (z.symm.trans a2)⟩
      obtain ⟨s, hs, es⟩ := S p q id2 hp old.1
      by_cases on : ∃ t, t ≤ j ∧ tw T t B = s
      · obtain ⟨t, ht, et⟩ := on
        have tj : t ≠ j := fun z => old.2 (by rw [← es, ← et, z, ei])
        refine ⟨tw T (t + 1) B, tw_lt L Bn (by omega), ?_⟩
        rw [(r3 (t + 1) (by omega) (by omega)).2, show t + 1 - 1 = t by omega, et, es]
      · exact ⟨s, hs, by rw [(r4 s (fun t _ ht z => on ⟨t, ht, z⟩)).2, (C s hs).2, es]⟩
  have C2 := ct_uni L2 A2 u1 u2
  refine ⟨C2, fun p q id2 hp E => ?_⟩
  obtain ⟨s, hs, es⟩ := u2 p q id2 hp E
  exact ⟨s, hs, eK_inj n7 k14 ((L2.at hs).2.2.2.2.2.ed hs) (E.ed hp) ((C2 s hs).2.symm.trans es)⟩
end RHS
