/-! ===== acts on both sides: what is kept ===== -/
section RMA
variable {h g g2 k r T : LH} {b t t2 M d n m : Nat}
theorem ac_ca_1 (x : Int32) : (∀ e, e ≠ 240 → (ac_ca h x).1 e = h.1 e) ∧ (∀ i, i ≠ 8 → i ≠ 9 → (ac_ca h x).1 240 i = h.1 240 i) := by
  unfold ac_ca
  split
  · exact ⟨fun _ _ => rfl, fun _ _ _ => rfl⟩
  · exact ⟨fun e he => by rw [w1_ne he, w1_ne he], fun i h1 h2 => by rw [w1_at h2, w1_at h1]⟩
theorem ac_ca_8 : (ac_ca h 1).1 240 8 = (if h.1 240 8 = 10 then 0 else h.1 240 8 + 1) ∧ (ac_ca h 1).1 240 9 = (if (10 : Int32) < h.1 240 9 + 1 then 10 else h.1 240 9 + 1) := by
  unfold ac_ca
  rw [if_neg (by decide)]
  exact ⟨by rw [w1_at (by decide), w1_eq], w1_eq⟩
/-- images stand as they were -/
theorem MZ.same (Z : MZ h t) (c : ∀ e, 195 ≤ e → e < 240 → k.1 e = h.1 e) (e3 : k.1 273 = h.1 273) (e1 : ∀ ix, 173 ≤ ix → ix < 692 → k.1 271 ix = h.1 271 ix) : MZ k t := fun j hj hs => by
  rw [e3] at hs
  exact ((Z j hj hs).cl (fun o ho => c _ (by omega) (by omega))).rw (fun i hi => by rw [sl_at, sl_at]; exact e1 _ (by omega) (by omega))
/-- an act was done -/
theorem NZ.done (Z : NZ h t) (X : XA h M) (ht : t ≤ t2) (c : ∀ e, 15 ≤ e → e < 241 → g2.1 e = (ac_sv h).1 e) (kc : ∀ e, e < 270 → k.1 e = (ac_ca g2 1).1 e) (N0 : NX k 0 k t2) (e3 : k.1 273 = h.1 273) (e1 : ∀ ix, 173 ≤ ix → ix < 692 → k.1 271 ix = h.1 271 ix) (kr : ∀ u, u ≤ 10 → h.1 270 5 = nI u → k.1 270 5 = nI (if u = 10 then 10 else u + 1) ∧ (∀ j, j < 170 → k.1 274 (170 * ((if u = 10 then 10 else u + 1) - 1) + j) = h.1 271 j) ∧ ∀ i, i < (if u = 10 then 10 else u + 1) - 1 → ∀ j, j < 170 → k.1 274 (170 * i + j) = h.1 274 (170 * (if u = 10 then i + 1 else i) + j)) : NZ k t2 := by
  obtain ⟨N, U, I⟩ := Z
  obtain ⟨tt, u, h1, h2, h3, h4, h5, h6⟩ := id U
  have hcl : (h.1 240 8).toNatClampNeg = tt := by rw [h3, nI_clamp (by omega)]
  have C := nt_cp_ok (h := h) (b := 15 * (tt + 2)) (c := 0) (tf_K15 (r := tt + 2) (by omega)) (by decide +kernel) (by omega)
  have sv : ac_sv h = nt_cp h (15 * (tt + 2)) 0 := by unfold ac_sv; rw [hcl]
  rw [← sv] at C
  obtain ⟨a1, -⟩ := ac_ca_1 (h := g2) 1
  obtain ⟨a8, a9⟩ := ac_ca_8 (h := g2)
  have kk : ∀ e, 15 ≤ e → e < 240 → k.1 e = (ac_sv h).1 e := fun e h1 h2 => by rw [kc e (by omega), a1 e (by omega), c e h1 (by omega)]
  have g8 : g2.1 240 = h.1 240 := by rw [c 240 (by omega) (by omega), C.1 240 (by omega)]
  have ks := kr u h2 h5
  refine ⟨N0, (U.act (k := k) h3 h1 h5 h2 ?_ ?_ ?_ (fun e z1 z2 z3 => ?_) ks.1 ks.2.1 ks.2.2).up ht, (I.same (fun e z1 z2 => ?_) e3 e1).up ht⟩
  · rw [kc 240 (by omega), a8, g8, h3]
  · rw [kc 240 (by omega), a9, g8, h4]
  · have Nr : NX (ac_sv h) (15 * (tt + 2)) h t := N.cp C (tf_K15 (r := tt + 2) (by omega))
    rw [show 2 + tt = tt + 2 by omega]
    exact Nr.cl (fun o ho => kk _ (by omega) (by omega))
  · rw [kk e (by omega) (by omega), C.1 e (by omega)]
  · rw [kk e (by omega) (by omega), C.1 e (by omega)]
/-- an act was refused -/
theorem NZ.no (Z : NZ h t) (X : XA h M) (kc : ∀ e, e < 241 → k.1 e = (ac_sv h).1 e) (e3 : k.1 273 = h.1 273) (e1 : ∀ ix, ix < 692 → ix < 170 ∨ 173 ≤ ix → k.1 271 ix = h.1 271 ix) (e5 : k.1 270 5 = h.1 270 5) (e4 : k.1 274 = h.1 274) : NZ k t := by
  obtain ⟨N, U, I⟩ := Z
  obtain ⟨tt, u, h1, h2, h3, h4, h5, h6⟩ := id U
  have hcl : (h.1 240 8).toNatClampNeg = tt := by rw [h3, nI_clamp (by omega)]
  have C := nt_cp_ok (h := h) (b := 15 * (tt + 2)) (c := 0) (tf_K15 (r := tt + 2) (by omega)) (by decide +kernel) (by omega)
  have sv : ac_sv h = nt_cp h (15 * (tt + 2)) 0 := by unfold ac_sv; rw [hcl]
  rw [← sv] at C
  have kk : ∀ e, e < 241 → ¬ (15 * (tt + 2) ≤ e ∧ e < 15 * (tt + 2) + 15) → k.1 e = h.1 e := fun e z1 z2 => by rw [kc e z1, C.1 e z2]
  refine ⟨(N.cl (fun o ho => kk _ (by omega) (by omega))).rw (fun i hi => e1 i (by omega) (Or.inl hi)), U.no h3 h1 (by rw [kk 240 (by omega) (by omega)]) (by rw [kk 240 (by omega) (by omega)]) (fun e z1 z2 z3 => kk e (by omega) z3) e5 e4, I.same (fun e z1 z2 => kk e (by omega) (by omega)) e3 (fun ix z1 z2 => e1 ix z2 (Or.inr z1))⟩
/-- the net in a heap, its numbers one and the same -/
theorem NX.nt {n2 k2 m2 : Nat} (N : NX h b r t) (H : NT h b n2 k2 m2) (hm : m2 < 2147483648) (ht : t ≤ 512) : m2 ≤ 2000000 * t ∧ GI r n2 k2 (8000 * t) ∧ NR h b r n2 k2 m2 := by
  obtain ⟨n, k, m, h1, h2, h3, h4⟩ := N
  have e0 : n = n2 := (nI_eq (by have := h2.1.2.1; omega) (by have := H.1.2.1; omega)).mp (h2.1.2.2.1.symm.trans H.1.2.2.1)
  have e1 : k = k2 := (nI_eq (by have := h2.1.2.1; omega) (by have := H.1.2.1; omega)).mp (h2.1.2.2.2.1.symm.trans H.1.2.2.2.1)
  have e2 : m = m2 := (nI_eq (by omega) hm).mp (h2.2.1.symm.trans H.2.1)
  subst e0 e1 e2
  exact ⟨h1, h3, h4⟩
/-! nothing enters just where nothing offers -/
theorem many_c : ∀ (f i c : Nat), ∃ s, s ≤ f ∧ rf_many T f i (nI c) = nI (c + s) ∧ (s = 0 ↔ ∀ a, i ≤ a → a < i + f → rf_off T a = false)
  | 0, i, c => ⟨0, Nat.le_refl _, rfl, ⟨fun _ a h1 h2 => by omega, fun _ => rfl⟩⟩
  | f + 1, i, c => by
    rw [rf_many]
    by_cases o : rf_off T i = true
    · rw [if_pos o, nI_1]
      obtain ⟨s, h1, h2, -⟩ := many_c f (i + 1) (c + 1)
      refine ⟨s + 1, by omega, by rw [h2, show c + 1 + s = c + (s + 1) by omega], ⟨fun z => by omega, fun z => ?_⟩⟩
      have := z i (Nat.le_refl _) (by omega)
      rw [o] at this
      cases this
    · rw [if_neg o, Int32.add_zero]
      obtain ⟨s, h1, h2, h3⟩ := many_c f (i + 1) c
      refine ⟨s, by omega, h2, h3.trans ⟨fun z a z1 z2 => ?_, fun z a z1 z2 => z a (by omega) (by omega)⟩⟩
      by_cases ai : a = i
      · rw [ai]
        exact Bool.eq_false_iff.mpr o
      · exact z a (by omega) (by omega)
theorem many_0 {kk : Nat} (hk : kk ≤ 14) : rf_many T kk 0 0 = 0 ↔ ∀ a, a < kk → rf_off T a = false := by
  obtain ⟨s, h1, h2, h3⟩ := many_c (T := T) kk 0 0
  have h2 : rf_many T kk 0 0 = nI (0 + s) := h2
  rw [h2]
  constructor
  · intro z
    have : s = 0 := by
      have := (nI_eq (a := 0 + s) (b := 0) (by omega) (by omega)).mp z
      omega
    exact fun a ha => h3.mp this a (Nat.zero_le _) (by omega)
  · intro z
    rw [h3.mpr (fun a _ ha => z a (by omega))]
    rfl
theorem en_m1 {kk : Nat} : ∀ (f i : Nat) (c : Int32), i + f = kk → (∀ i, i < kk → en_a T kk i ≠ -1) → (en_f T kk f i c = -1 ↔ c = -1 ∧ ∀ j, i ≤ j → j < kk → rf_off T (en_a T kk j).toNatClampNeg = false)
  | 0, i, c, hf, ha => ⟨fun z => ⟨z, fun j h1 h2 => by omega⟩, fun z => z.1⟩
  | f + 1, i, c, hf, ha => by
    rw [en_f]
    by_cases o : rf_off T (en_a T kk i).toNatClampNeg = true
    · rw [if_pos o]
      have ne : (if c = -1 then en_a T kk i else if T.1 271 2 = 1 then (if rf_far T (en_a T kk i).toNatClampNeg ≤ rf_far T c.toNatClampNeg then c else en_a T kk i) else c) ≠ -1 := by
        by_cases c1 : c = -1
        · rw [if_pos c1]
          exact ha i (by omega)
        · rw [if_neg c1]
          split
          · split
            · exact c1
            · exact ha i (by omega)
          · exact c1
      rw [en_m1 f (i + 1) _ (by omega) ha]
      constructor
      · exact fun z => absurd z.1 ne
      · intro z
        have := z.2 i (Nat.le_refl _) (by omega)
        rw [o] at this
        cases this
    · rw [if_neg o, en_m1 f (i + 1) _ (by omega) ha]
      constructor
      · rintro ⟨z1, z2⟩
        refine ⟨z1, fun j h1 h2 => ?_⟩
        by_cases ji : j = i
        · rw [ji]
          exact Bool.eq_false_iff.mpr o
        · exact z2 j (by omega) h2
      · rintro ⟨z1, z2⟩
        exact ⟨z1, fun j h1 h2 => z2 j (by omega) h2⟩
theorem en_su : ∀ kk, kk < 15 → ∀ s, s < 15 → ∀ a, a < kk → ∃ i, i < kk ∧ (nI s + nI i) - (nI s + nI i) / nI kk * nI kk = nI a := by decide +kernel
theorem en_none {kk : Nat} (H : RM T n kk) (S : RS T) : en_f T kk kk 0 (-1) = -1 ↔ ∀ a, a < kk → rf_off T a = false := by
  have k14 := H.1.2.2
  have inn : ∀ i, i < kk → ∃ a, a < kk ∧ en_a T kk i = nI a := fun i hi => vi_nI (en_a_in H S hi)
  rw [en_m1 kk 0 (-1) (by omega) (fun i hi => by
    obtain ⟨a, ha, e⟩ := inn i hi
    rw [e]
    exact nI_m1 (by omega))]
  constructor
  · rintro ⟨-, z⟩ a ha
    have su : ∃ i, i < kk ∧ en_a T kk i = nI a := by
      unfold en_a
      by_cases r2 : T.1 271 2 = 2
      · obtain ⟨s, hs, es⟩ := S
        obtain ⟨i, hi, ei⟩ := en_su kk (by omega) s (by omega) a ha
        refine ⟨i, hi, ?_⟩
        rw [if_pos r2, es]
        exact ei
      · exact ⟨a, ha, by rw [if_neg r2]⟩
    obtain ⟨i, hi, ei⟩ := su
    have := z i (Nat.zero_le _) hi
    rw [ei, nI_clamp (by omega)] at this
    exact this
  · intro z
    refine ⟨rfl, fun j _ hj => ?_⟩
    obtain ⟨a, ha, e⟩ := inn j hj
    rw [e, nI_clamp (by omega)]
    exact z a ha
end RMA
