/-! ===== trip on both sides: the least that is left is taken ===== -/
section TQT
variable {h g c cc g1 : LH} {t M d n k m x : Nat}
theorem le_jmin (x y : Int32) : rf_le x y = jmin x y := by
  unfold rf_le jmin
  by_cases c : y < x
  · rw [if_pos c, if_pos (Int32.le_of_lt c)]
  · rw [if_neg c]
    by_cases c2 : y ≤ x
    · rw [if_pos c2]
      exact Int32.le_antisymm c2 (Int32.not_lt.mp c)
    · rw [if_neg c2]
theorem xgt_2 {C : LH} {X : Int32} {m j : Nat} (hm : m ≤ 7) (hj : j < m) {x1 x2 x4 : Int32} (L : LN h k) (hk : k ≤ 14) (k8 : ∀ a, a < k → C.1 248 a = h.1 288 a) (k9 : ∀ i, i < m → C.1 249 i = h.1 289 i) {Q : tf_Q} (q : ∀ (t : Nat) (x5 : Int32) (x6 : Value) (g : LH), 1 ≤ t → t ≤ 1000000 → ScF h g → g.1 288 = h.1 288 → g.1 270 36 = nI (m - j) → g.1 270 37 = nI t → (∀ i, i < m - j → g.1 289 i = h.1 289 (i + j)) → (∀ i a, i < m - j → a < k → h.1 289 (i + j) = nI a → ∃ v, h.1 288 a = nI v ∧ t ≤ v ∧ v ≤ 99) → nI t = X → (∃ i a, i < m - j ∧ a < k ∧ h.1 289 (i + j) = nI a ∧ h.1 288 a = nI t) → lx_X9_goesTrip 298 (tf_Cd 298 (d + 2)) Q 181 [.ref 270, .int x1, .int x2, .int (nI j), .int x4, .int x5, x6] [] g) (T : TE h k m) : ∀ (f x t : Nat) (x6 : Value) (g : LH), x + f = m - j → 1 ≤ t → t ≤ 1000000 → ScF h g → g.1 288 = h.1 288 → g.1 270 36 = nI (m - j) → g.1 270 37 = nI t → (∀ i, i < x → g.1 289 i = h.1 289 (i + j)) → (∀ i, x ≤ i → g.1 289 i = h.1 289 i) → (∀ i a, i < x → a < k → h.1 289 (i + j) = nI a → ∃ v, h.1 288 a = nI v ∧ t ≤ v ∧ v ≤ 99) → kp1 C f (j + x) (nI t) = X → ((x = 0 ∧ t = 1000000) ∨ ∃ i a, i < x ∧ a < k ∧ h.1 289 (i + j) = nI a ∧ h.1 288 a = nI t) → lx_X9_goesTrip 298 (tf_Cd 298 (d + 2)) Q 127 [.ref 270, .int x1, .int x2, .int (nI j), .int x4, .int (nI x), x6] [] g
  | 0, x, t, x6, g, hx, ht, ht2, F, E, e36, e37, s1, s2, s3, eX, att => by
    have e : x = m - j := by omega
    refine go_X9_goesTrip_127 (by decide) ⟨fun _ => q t _ _ g ht ht2 F E e36 e37 (by rw [← e]; exact s1) (by rw [← e]; exact s3) eX ?_, fun z => absurd ?_ z⟩
    · rcases att with ⟨z, -⟩ | z
      · omega
      · rw [← e]
        exact z
    · rw [e36]
      exact nI_le (by omega) (by omega)
  | f + 1, x, t, x6, g, hx, ht, ht2, F, E, e36, e37, s1, s2, s3, eX, att => by
    refine go_X9_goesTrip_127 (by decide) ⟨fun z => ?_, fun _ => ?_⟩
    · rw [e36] at z
      exact absurd z (nI_ge (by omega) (by omega))
    · have cx : (nI x).toNatClampNeg = x := nI_clamp (by omega)
      rw [nI_add, cx, nI_clamp (by omega)]
      have v8 : vp_in (nI x) 8 := vi_of (by omega) (by omega)
      obtain ⟨a, ha, ea, lft⟩ := T.1 (x + j) (by omega)
      have y : g.1 289 (x + j) = nI a := by rw [s2 _ (by omega)]; exact ea
      rw [y]
      have F1 : ScF h (w1 g 289 x (nI a)) := F.w (by omega)
      have r1 : (w1 g 289 x (nI a)).1 289 x = nI a := w1_eq
      have r2 : (w1 g 289 x (nI a)).1 270 = g.1 270 := w1_ne (by decide)
      have r3 : (w1 g 289 x (nI a)).1 288 = g.1 288 := w1_ne (by decide)
      have r4 : ∀ i, i ≠ x → (w1 g 289 x (nI a)).1 289 i = g.1 289 i := fun i hi => w1_at hi
      show vp_in (nI (x + j)) 8 ∧ vp_in (nI x) 8 ∧ vp_in (nI x) 8 ∧ vp_in ((w1 g 289 x (nI a)).1 289 x) 14 ∧ tf_Cd 298 (d + 2) _ [.int ((w1 g 289 x (nI a)).1 270 37), .int ((w1 g 289 x (nI a)).1 288 ((w1 g 289 x (nI a)).1 289 x).toNatClampNeg)] (w1 g 289 x (nI a)) _
      generalize w1 g 289 x (nI a) = g1 at *
      rw [r1, nI_clamp (by omega), r2, r3, E, e37]
      obtain ⟨v, hv, ev⟩ := L a ha
      have hv0 : 1 ≤ v := by
        rcases Nat.eq_zero_or_pos v with z | z
        · rw [ev, z] at lft
          exact absurd (by decide) lft
        · exact z
      rw [kp1, k9 (j + x) (by omega), show j + x = x + j by omega, ea, nI_clamp (by omega), k8 a ha, ← le_jmin] at eX
      refine ⟨vi_of (by omega) (by omega), v8, v8, vi_of (by omega) (by omega), sx_lesser (d := d + 1) _ _ _ (go_X9_goesTrip_172 (by decide) ?_)⟩
      rw [ev] at eX ⊢
      have mn : ∃ t2, 1 ≤ t2 ∧ t2 ≤ t ∧ t2 ≤ v ∧ rf_le (nI t) (nI v) = nI t2 ∧ (t2 = v ∨ (t2 = t ∧ t < v)) := by
        unfold rf_le
        by_cases c : nI v ≤ nI t
        · rw [if_pos c]
          have := (nI_leI (by omega) (by omega)).mp c
          exact ⟨v, hv0, this, Nat.le_refl _, rfl, Or.inl rfl⟩
        · rw [if_neg c]
          have : ¬ v ≤ t := fun z => c (nI_le z (by omega))
          exact ⟨t, ht, Nat.le_refl _, by omega, rfl, Or.inr ⟨rfl, by omega⟩⟩
      obtain ⟨t2, m1, m2, m3, m4, m5⟩ := mn
      rw [m4] at eX ⊢
      rw [nI_1]
      show lx_X9_goesTrip 298 (tf_Cd 298 (d + 2)) Q 127 _ [] (w1 g1 270 37 (nI t2))
      have u1 : ∀ e, e ≠ 270 → (w1 g1 270 37 (nI t2)).1 e = g1.1 e := fun e he => w1_ne he
      refine xgt_2 hm hj L hk k8 k9 q T f (x + 1) t2 _ _ (by omega) m1 (by omega) (F1.w0 (by decide)) (by rw [u1 288 (by decide), r3]; exact E) (by rw [w1_at (by decide), r2]; exact e36) w1_eq (fun i hi => ?_) (fun i hi => ?_) (fun i b hi hb eb => ?_) (by rw [← eX]; congr 1; omega) ?_
      · rw [u1 289 (by decide)]
        by_cases c : i = x
        · rw [c, r1, ea]
        · rw [r4 i c]
          exact s1 i (by omega)
      · rw [u1 289 (by decide), r4 i (by omega)]
        exact s2 i (by omega)
      · by_cases c : i = x
        · rw [c, ea] at eb
          have : a = b := (nI_eq (by omega) (by omega)).mp eb
          rw [← this]
          exact ⟨v, ev, m3, hv⟩
        · obtain ⟨w, w1', w2', w3'⟩ := s3 i b (by omega) hb eb
          exact ⟨w, w1', by omega, w3'⟩
      · rcases m5 with e | ⟨e, e2⟩
        · exact Or.inr ⟨x, a, by omega, ha, ea, by rw [e]; exact ev⟩
        · rcases att with ⟨-, z⟩ | ⟨i, b, h1, h2, h3, h4⟩
          · omega
          · exact Or.inr ⟨i, b, by omega, h2, h3, by rw [e]; exact h4⟩
theorem xgt_3 {CC : LH} {T t l tr : Nat} (hT : T ≤ 7) (ht : 1 ≤ t) (hk : k ≤ 14) {x1 x2 x3 x4 : Int32} {Q : tf_Q} (L : LN h k) (e36 : h.1 270 36 = nI T) (e37 : h.1 270 37 = nI t) (tv : ∀ i, i < T → ∃ a v, a < k ∧ h.1 289 i = nI a ∧ h.1 288 a = nI v ∧ t ≤ v ∧ v ≤ 99) (inj : ∀ i j, i < T → j < T → h.1 289 i = h.1 289 j → i = j) (q : ∀ g, ScF h g → LN g k → g.1 270 36 = nI T → g.1 270 37 = nI t → g.1 289 = h.1 289 → (∀ a, a < k → CC.1 248 a = g.1 288 a) → (∀ i, i < T → CC.1 247 (tr * 7 + i) = h.1 289 i) → (∀ a, a < k → (g.1 288 a).toNatClampNeg ≤ (h.1 288 a).toNatClampNeg) → (∀ i b, i < T → b < k → h.1 289 i = nI b → h.1 288 b = nI t → (g.1 288 b).toNatClampNeg = 0) → Q (.int 1) g) : ∀ (f x : Nat) (x6 : Value) (c g : LH), x + f = T → ScF h g → (∀ i, i ≠ 5 → g.1 270 i = h.1 270 i) → g.1 289 = h.1 289 → LN g k → (∀ a, a < k → (g.1 288 a).toNatClampNeg ≤ (h.1 288 a).toNatClampNeg) → (∀ i a, x ≤ i → i < T → h.1 289 i = nI a → a < k → g.1 288 a = h.1 288 a) → (∀ a, a < k → c.1 248 a = g.1 288 a) → (∀ i, i < T → c.1 249 (l + i) = h.1 289 i) → (∀ i, i < x → c.1 247 (tr * 7 + i) = h.1 289 i) → (∀ i b, i < x → b < k → h.1 289 i = nI b → h.1 288 b = nI t → (g.1 288 b).toNatClampNeg = 0) → kp2 (nI t) tr l f (l + x) c = CC → lx_X9_goesTrip 298 (tf_Cd 298 (d + 2)) Q 184 [.ref 270, .int x1, .int x2, .int x3, .int x4, .int (nI x), x6] [] g
  | 0, x, x6, c, g, hx, F, f0, E9, Lg, le, un, c8, c9, c7, dz, eC => by
    rw [kp2] at eC
    subst eC
    have hx : x = T := by omega
    subst hx
    refine go_X9_goesTrip_184 (by decide) ⟨fun _ => go_X9_goesTrip_218 (by decide) (q g F Lg (by rw [f0 36 (by decide)]; exact e36) (by rw [f0 37 (by decide)]; exact e37) E9 c8 c7 le dz), fun z => absurd ?_ z⟩
    rw [f0 36 (by decide), e36]
    exact nI_le (by omega) (by omega)
  | f + 1, x, x6, c, g, hx, F, f0, E9, Lg, le, un, c8, c9, c7, dz, eC => by
    obtain ⟨a, v, ha, ea, ev, h1, h2⟩ := tv x (by omega)
    have cx : (nI x).toNatClampNeg = x := nI_clamp (by omega)
    have ga := un x a (Nat.le_refl _) (by omega) ea ha
    rw [kp2, c9 x (by omega), ea, nI_clamp (by omega), c8 a ha, ga, ev, nI_sub h1, show tr * 7 + (l + x) - l = tr * 7 + x by omega] at eC
    refine go_X9_goesTrip_184 (by decide) ⟨fun z => ?_, fun _ => ?_⟩
    · rw [f0 36 (by decide), e36] at z
      exact absurd z (nI_ge (by omega) (by omega))
    · rw [cx, E9, ea, nI_clamp (by omega), ga, ev, f0 37 (by decide), e37, nI_sub h1, nI_1]
      have v14 : vp_in (nI a) 14 := vi_of (by omega) (by omega)
      refine ⟨vi_of (by omega) (by omega), v14, v14, ?_⟩
      show lx_X9_goesTrip 298 (tf_Cd 298 (d + 2)) Q 184 _ [] (w1 g 288 a (nI (v - t)))
      have n1 : (w1 g 288 a (nI (v - t))).1 288 a = nI (v - t) := w1_eq
      have n2 : ∀ b, b ≠ a → (w1 g 288 a (nI (v - t))).1 288 b = g.1 288 b := fun b hb => w1_at hb
      have ne : ∀ i b, i < T → i ≠ x → h.1 289 i = nI b → b ≠ a := fun i b hi hix eb z => by
        rw [z] at eb
        exact hix (inj i x hi (by omega) (eb.trans ea.symm))
      refine xgt_3 hT ht hk L e36 e37 tv inj q f (x + 1) _ (w1 (w1 c 248 a (nI (v - t))) 247 (tr * 7 + x) (nI a)) _ (by omega) (F.w (by omega)) (fun i hi => by rw [w1_ne (by decide)]; exact f0 i hi) (by rw [w1_ne (by decide)]; exact E9) (fun b hb => ?_) (fun b hb => ?_) (fun i b hi hi2 eb hb => ?_) (fun b hb => ?_) (fun i hi => ?_) (fun i hi => ?_) (fun i b hi hb eb ez => ?_) (by rw [← eC]; congr 1)
      · by_cases c : b = a
        · rw [c, n1]
          exact ⟨v - t, by omega, rfl⟩
        · rw [n2 b c]
          exact Lg b hb
      · by_cases c : b = a
        · rw [c, n1, ev, nI_clamp (by omega), nI_clamp (by omega)]
          omega
        · rw [n2 b c]
          exact le b hb
      · rw [n2 b (ne i b hi2 (by omega) eb)]
        exact un i b (by omega) hi2 eb hb
      · rw [w1_ne (by decide)]
        by_cases e : b = a
        · rw [e, n1, w1_eq]
        · rw [n2 b e, w1_at e]
          exact c8 b hb
      · rw [w1_ne (by decide), w1_ne (by decide)]
        exact c9 i hi
      · by_cases e : i = x
        · rw [e, w1_eq]
          exact ea.symm
        · rw [w1_at (by omega), w1_ne (by decide)]
          exact c7 i (by omega)
      · by_cases e : i = x
        · rw [e, ea] at eb
          have : a = b := (nI_eq (by omega) (by omega)).mp eb
          rw [← this, n1]
          rw [← this, ev] at ez
          have : v = t := (nI_eq (by omega) (by omega)).mp ez
          rw [this, Nat.sub_self]
          rfl
        · rw [n2 b (ne i b (by omega) e eb)]
          exact dz i b (by omega) hb eb ez
end TQT
