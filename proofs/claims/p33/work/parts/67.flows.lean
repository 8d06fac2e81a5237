/-! ===== rooms and flows of the reference's cycle ===== -/
section RR
variable {g : LH} {n k d c : Nat}
def rr (g : LH) (i : Nat) : Int32 := if rf_loan (g.1 285 i) = true then (if g.1 286 i = 0 then g.1 271 (65 + g.1 285 i - 100 : Int32).toNatClampNeg else 1000000) else (if g.1 286 i = 0 then rm g (g.1 285 i).toNatClampNeg 4 else rm g (g.1 285 i).toNatClampNeg 2 - rm g (g.1 285 i).toNatClampNeg 4)
theorem sx_rr (Y : CY g c) {i : Nat} (hi : i < c) : tf_Rt (d + 2) 42 [.ref 270, .int (nI i)] g (.int (rr g i)) g := by
  intro Q q
  have hc := Y.2.1
  have hcl : (nI i).toNatClampNeg = i := nI_clamp (by omega)
  have v16 : vp_in (nI i) 16 := vi_of (by omega) (by omega)
  have V := Y.2.2 i hi
  unfold rr at q
  refine en_X9_roomOf (by decide) (go_X9_roomOf_0 (by decide) ⟨v16, ?_⟩)
  rw [hcl]
  refine sx_isLoan (d := d) _ _ (go_X9_roomOf_11 (by decide) ⟨fun b => ?_, fun b => ⟨v16, ?_⟩⟩)
  · rw [bI_0] at b
    rw [b, if_neg Bool.false_ne_true] at q
    rcases V with ⟨a, ha, e⟩ | ⟨p, hp, e⟩
    · have hca : (g.1 285 i).toNatClampNeg = a := by rw [e]; exact nI_clamp (by omega)
      rw [hca] at q
      refine go_X9_roomOf_42 (by decide) ⟨v16, ?_⟩
      rw [hcl]
      refine ⟨fun z => go_X9_roomOf_67 (by decide) (sx_of (d := d) a 4 e rfl ha (by omega) _ (go_X9_roomOf_73 (by decide) ?_)), fun z => sx_of (d := d) a 2 e rfl ha (by omega) _ (go_X9_roomOf_57 (by decide) (sx_of (d := d) a 4 e rfl ha (by omega) _ (go_X9_roomOf_63 (by decide) (go_X9_roomOf_73 (by decide) ?_))))⟩
      · rw [if_pos z] at q
        exact q
      · rw [if_neg z] at q
        exact q
    · rw [e, loan_p hp] at b
      cases b
  · rw [bI_0, Bool.not_eq_false] at b
    rw [if_pos b] at q
    rw [hcl]
    rcases V with ⟨a, ha, e⟩ | ⟨p, hp, e⟩
    · rw [e, loan_a ha] at b
      cases b
    · have hix : (65 : Int32) + g.1 285 i - 100 = nI (65 + p) := by rw [e]; exact loan_ix (c := 65)
      refine ⟨fun z => go_X9_roomOf_29 (by decide) ?_, fun z => go_X9_roomOf_41 (by decide) ?_⟩
      · rw [if_pos z, hix] at q
        rw [hix]
        exact ⟨vi_of (by omega) (by omega), go_X9_roomOf_41 (by decide) q⟩
      · rw [if_neg z] at q
        exact q
def rlr (g : LH) : Nat → Nat → Int32 → Int32
  | 0, _, r => r
  | f + 1, i, r => rlr g f (i + 1) (rf_le r (rr g i))
theorem sx_rlrL (Y : CY g c) {Q : tf_Q} : ∀ (f i : Nat) (r : Int32), i + f = c → Q (.int (rlr g f i r)) g → lx_X9_leastRoom 298 (tf_Cd 298 (d + 2)) Q 6 [.ref 270, .int r, .int (nI i)] [] g
  | 0, i, r, hi, q => by
    have hc := Y.2.1
    refine go_X9_leastRoom_6 (by decide) ⟨fun _ => go_X9_leastRoom_30 (by decide) q, fun z => absurd ?_ z⟩
    rw [Y.1]
    exact nI_le (by omega) (by omega)
  | f + 1, i, r, hi, q => by
    have hc := Y.2.1
    refine go_X9_leastRoom_6 (by decide) ⟨fun z => ?_, fun _ => sx_rr (d := d) Y (by omega) _ (go_X9_leastRoom_20 (by decide) (sx_lesser (d := d + 1) _ _ _ (go_X9_leastRoom_23 (by decide) ?_)))⟩
    · rw [Y.1] at z
      exact absurd z (nI_ge (by omega) (by omega))
    · rw [nI_1]
      exact sx_rlrL Y f (i + 1) _ (by omega) q
theorem sx_rlr (Y : CY g c) : tf_Rt (d + 3) 43 [.ref 270] g (.int (rlr g c 0 1000000)) g := fun _ q => en_X9_leastRoom (by decide) (go_X9_leastRoom_0 (by decide) (sx_rlrL Y c 0 _ (by omega) q))
/-- the least room is one of them, or as it began -/
theorem rlr_or : ∀ (f i : Nat) (r : Int32), rlr g f i r = r ∨ ∃ j, i ≤ j ∧ j < i + f ∧ rr g j = rlr g f i r
  | 0, _, _ => Or.inl rfl
  | f + 1, i, r => by
    rw [rlr]
    rcases rlr_or f (i + 1) (rf_le r (rr g i)) with z | ⟨j, h1, h2, h3⟩
    · by_cases e : rr g i ≤ r
      · refine Or.inr ⟨i, Nat.le_refl _, by omega, ?_⟩
        rw [z, rf_le, if_pos e]
      · refine Or.inl ?_
        rw [z, rf_le, if_neg e]
    · exact Or.inr ⟨j, by omega, by omega, h3⟩
theorem rlr_le : ∀ (f i : Nat) (r : Int32), rlr g f i r ≤ r ∧ ∀ j, i ≤ j → j < i + f → rlr g f i r ≤ rr g j
  | 0, i, r => ⟨Int32.le_refl r, fun j h1 h2 => absurd h2 (by omega)⟩
  | f + 1, i, r => by
    rw [rlr]
    obtain ⟨k1, k2⟩ := rlr_le f (i + 1) (rf_le r (rr g i))
    have l1 : rf_le r (rr g i) ≤ r := by
      unfold rf_le
      split
      · assumption
      · exact Int32.le_refl r
    have l2 : rf_le r (rr g i) ≤ rr g i := by
      unfold rf_le
      split
      · exact Int32.le_refl _
      · rename_i z
        exact Int32.le_of_lt (Int32.not_le.mp z)
    refine ⟨Int32.le_trans k1 l1, fun j h1 h2 => ?_⟩
    by_cases e : j = i
    · rw [e]
      exact Int32.le_trans k1 l2
    · exact k2 j (by omega) (by omega)
def lvx (g : LH) (dl : Int32) : Nat → Nat → Int32 → Int32
  | 0, _, l => l
  | f + 1, i, l => lvx g dl f (i + 1) (if rr g i = dl then nI i else l)
theorem lvx_in {dl : Int32} : ∀ (f i : Nat) (l : Int32), i + f = c → c ≤ 16 → ((∃ m, m < i ∧ l = nI m) ∨ ∃ j, i ≤ j ∧ j < c ∧ rr g j = dl) → ∃ m, m < c ∧ lvx g dl f i l = nI m
  | 0, i, l, hi, hc, ho => by
    rcases ho with ⟨m, h1, h2⟩ | ⟨j, h1, h2, -⟩
    · exact ⟨m, by omega, h2⟩
    · omega
  | f + 1, i, l, hi, hc, ho => by
    rw [lvx]
    refine lvx_in f (i + 1) _ (by omega) hc ?_
    by_cases e : rr g i = dl
    · rw [if_pos e]
      exact Or.inl ⟨i, by omega, rfl⟩
    · rw [if_neg e]
      rcases ho with ⟨m, h1, h2⟩ | ⟨j, h1, h2, h3⟩
      · exact Or.inl ⟨m, by omega, h2⟩
      · refine Or.inr ⟨j, ?_, h2, h3⟩
        rcases Nat.lt_or_ge i j with z | z
        · omega
        · have : j = i := by omega
          exact absurd (this ▸ h3) e
theorem sx_lvL2 (Y : CY g c) {dl : Int32} {Q : tf_Q} : ∀ (f i : Nat) (l : Int32), i + f = c → (∀ x3 : Int32, lx_X9_leaves 298 (tf_Cd 298 (d + 2)) Q 33 [.ref 270, .int dl, .int (lvx g dl f i l), .int x3] [] g) → lx_X9_leaves 298 (tf_Cd 298 (d + 2)) Q 4 [.ref 270, .int dl, .int l, .int (nI i)] [] g
  | 0, i, l, hi, q => by
    have hc := Y.2.1
    refine go_X9_leaves_4 (by decide) ⟨fun _ => q _, fun z => absurd ?_ z⟩
    rw [Y.1]
    exact nI_le (by omega) (by omega)
  | f + 1, i, l, hi, q => by
    have hc := Y.2.1
    rw [lvx] at q
    refine go_X9_leaves_4 (by decide) ⟨fun z => ?_, fun _ => sx_rr (d := d) Y (by omega) _ (go_X9_leaves_17 (by decide) ⟨fun e => go_X9_leaves_26 (by decide) ?_, fun e => go_X9_leaves_25 (by decide) (go_X9_leaves_26 (by decide) ?_)⟩)⟩
    · rw [Y.1] at z
      exact absurd z (nI_ge (by omega) (by omega))
    · rw [nI_1]
      rw [if_pos e] at q
      exact sx_lvL2 Y f (i + 1) _ (by omega) q
    · rw [nI_1]
      rw [if_neg e] at q
      exact sx_lvL2 Y f (i + 1) _ (by omega) q
theorem sx_lv2 (Y : CY g c) {dl : Int32} (ho : ∃ j, j < c ∧ rr g j = dl) : ∃ m, m < c ∧ lvx g dl c 0 (-1) = nI m ∧ tf_Rt (d + 3) 45 [.ref 270, .int dl] g (.int (g.1 285 m)) g := by
  have hc := Y.2.1
  obtain ⟨j, hj, ej⟩ := ho
  obtain ⟨m, hm, em⟩ := lvx_in (g := g) (dl := dl) c 0 (-1) (by omega) hc (Or.inr ⟨j, Nat.zero_le _, hj, ej⟩)
  refine ⟨m, hm, em, fun Q q => en_X9_leaves (by decide) (go_X9_leaves_0 (by decide) (sx_lvL2 Y c 0 _ (by omega) (fun x3 => go_X9_leaves_33 (by decide) ?_)))⟩
  rw [em, nI_clamp (by omega)]
  exact ⟨vi_of (by omega) (by omega), q⟩
end RR
