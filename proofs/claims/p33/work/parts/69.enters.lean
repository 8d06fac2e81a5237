/-! ===== which arc enters in the reference; what is past ===== -/
section RE
variable {g h : LH} {n k d : Nat}
/-- the i-th arc that is looked at -/
def en_a (g : LH) (k i : Nat) : Int32 := if g.1 271 2 = 2 then (g.1 271 6 + 1 + nI i) - (g.1 271 6 + 1 + nI i) / nI k * nI k else nI i
def en_f (g : LH) (k : Nat) : Nat → Nat → Int32 → Int32
  | 0, _, b => b
  | f + 1, i, b => en_f g k f (i + 1) (if rf_off g (en_a g k i).toNatClampNeg = true then (if b = -1 then en_a g k i else if g.1 271 2 = 1 then (if rf_far g (en_a g k i).toNatClampNeg ≤ rf_far g b.toNatClampNeg then b else en_a g k i) else b) else b)
/-- where round begins stands in its range -/
def RS (g : LH) : Prop := ∃ s, s ≤ 14 ∧ g.1 271 6 + 1 = nI s
theorem en_a_in (H : RM g n k) (S : RS g) {i : Nat} (hi : i < k) : vp_in (en_a g k i) k := by
  have hk := H.1
  unfold en_a
  split
  · obtain ⟨s, hs, e⟩ := S
    rw [e]
    exact nt_rem hs hi (by omega)
  · exact vi_of hi (by omega)
theorem en_f_in (H : RM g n k) (S : RS g) : ∀ (f i : Nat) (b : Int32), i + f ≤ k → (b = -1 ∨ vp_in b k) → (en_f g k f i b = -1 ∨ vp_in (en_f g k f i b) k)
  | 0, _, _, _, hb => hb
  | f + 1, i, b, hi, hb => by
    rw [en_f]
    have ha := en_a_in H S (i := i) (by omega)
    refine en_f_in H S f (i + 1) _ (by omega) ?_
    split
    · split
      · exact Or.inr ha
      · split
        · split
          · exact hb
          · exact Or.inr ha
        · exact hb
    · exact hb
theorem sx_enL (H : RM g n k) (S : RS g) {Q : tf_Q} : ∀ (f i : Nat) (b : Int32) (x3 x4 : Value), i + f = k → (b = -1 ∨ vp_in b k) → Q (.int (en_f g k f i b)) g → lx_X9_enters 298 (tf_Cd 298 (d + 3)) Q 4 [.ref 270, .int b, .int (nI i), x3, x4] [] g
  | 0, i, b, x3, x4, hi, hb, q => by
    have hk := H.1
    refine go_X9_enters_4 (by decide) ⟨fun _ => go_X9_enters_110 (by decide) q, fun z => absurd ?_ z⟩
    show g.1 271 1 ≤ nI i
    rw [H.2.2.1]
    exact nI_le (by omega) (by omega)
  | f + 1, i, b, x3, x4, hi, hb, q => by
    have hk := H.1
    have ha := en_a_in H S (i := i) (by omega)
    rw [en_f] at q
    have e46 : lx_X9_enters 298 (tf_Cd 298 (d + 3)) Q 46 [.ref 270, .int b, .int (nI i), x3, x4] [.int (en_a g k i)] g := by
      generalize en_a g k i = y at ha q
      obtain ⟨a, ha2, ea⟩ := vi_nI ha
      have hca : y.toNatClampNeg = a := by rw [ea]; exact nI_clamp (by omega)
      rw [hca] at q
      have e104 : ∀ (b2 : Int32) (x4 : Value), (b2 = -1 ∨ vp_in b2 k) → Q (.int (en_f g k f (i + 1) b2)) g → lx_X9_enters 298 (tf_Cd 298 (d + 3)) Q 104 [.ref 270, .int b2, .int (nI i), .int y, x4] [] g := fun b2 x4 hb2 q2 => go_X9_enters_104 (by decide) (by rw [nI_1]; exact sx_enL H S f (i + 1) b2 _ _ (by omega) hb2 q2)
      have e86 : Q (.int (en_f g k f (i + 1) y)) g → lx_X9_enters 298 (tf_Cd 298 (d + 3)) Q 86 [.ref 270, .int b, .int (nI i), .int y, x4] [] g := fun q2 => go_X9_enters_86 (by decide) (go_X9_enters_91 (by decide) ⟨fun z => absurd z (by decide), fun _ => go_X9_enters_103 (by decide) (e104 y _ (Or.inr ha) q2)⟩)
      have e90 : Q (.int (en_f g k f (i + 1) b)) g → lx_X9_enters 298 (tf_Cd 298 (d + 3)) Q 90 [.ref 270, .int b, .int (nI i), .int y, x4] [] g := fun q2 => go_X9_enters_90 (by decide) (go_X9_enters_91 (by decide) ⟨fun _ => go_X9_enters_102 (by decide) (go_X9_enters_103 (by decide) (e104 b _ hb q2)), fun z => absurd rfl z⟩)
      refine go_X9_enters_46 (by decide) (sx_roff (d := d) H a ea ha2 _ (go_X9_enters_52 (by decide) ⟨fun c => e104 b _ hb ?_, fun c => go_X9_enters_58 (by decide) ⟨fun c2 => e86 ?_, fun c2 => ⟨fun c3 => ?_, fun c3 => e90 ?_⟩⟩⟩))
      · rw [bI_0] at c
        rw [c, if_neg Bool.false_ne_true] at q
        exact q
      · rw [bI_0, Bool.not_eq_false] at c
        rw [if_pos c, if_pos c2] at q
        exact q
      · rw [bI_0, Bool.not_eq_false] at c
        have c3' : g.1 271 2 = 1 := c3
        rw [if_pos c, if_neg c2, if_pos c3'] at q
        obtain ⟨m, hm, em⟩ := vi_nI (hb.resolve_left c2)
        have hcm : b.toNatClampNeg = m := by rw [em]; exact nI_clamp (by omega)
        rw [hcm] at q
        refine sx_far (d := d) H a ea ha2 _ (go_X9_enters_78 (by decide) (sx_far (d := d) H m em hm _ (go_X9_enters_83 (by decide) ⟨fun c4 => e90 ?_, fun c4 => e86 ?_⟩)))
        · rw [if_pos c4] at q
          exact q
        · rw [if_neg c4] at q
          exact q
      · rw [bI_0, Bool.not_eq_false] at c
        have c3' : ¬ g.1 271 2 = 1 := c3
        rw [if_pos c, if_neg c2, if_neg c3'] at q
        exact q
    unfold en_a at e46
    refine go_X9_enters_4 (by decide) ⟨fun z => ?_, fun _ => ⟨fun c => ?_, fun c => go_X9_enters_45 (by decide) ?_⟩⟩
    · have z2 : g.1 271 1 ≤ nI i := z
      rw [H.2.2.1] at z2
      exact absurd z2 (nI_ge (by omega) (by omega))
    · have c' : g.1 271 2 = 2 := c
      rw [if_pos c'] at e46
      have r1 : g.1 271 (1 : Int32).toNatClampNeg = nI k := H.2.2.1
      rw [r1]
      exact ⟨nI_ne0 (by omega) (by omega), e46⟩
    · have c' : ¬ g.1 271 2 = 2 := c
      rw [if_neg c'] at e46
      exact e46
theorem sx_en (H : RM g n k) (S : RS g) : tf_Rt (d + 4) 36 [.ref 270] g (.int (en_f g k k 0 (-1))) g := fun _ q => en_X9_enters (by decide) (go_X9_enters_0 (by decide) (sx_enL H S k 0 _ _ _ (by omega) (Or.inl rfl) q))
end RE
