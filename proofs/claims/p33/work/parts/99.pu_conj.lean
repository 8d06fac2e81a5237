/-! ===== two things that hold of a run hold together ===== -/
theorem cj_br {c : ClassFile.Cond} {x y : Int32} {T1 F1 T2 F2 T3 F3 : Prop} (t : T1 → T2 → T3) (f : F1 → F2 → F3) (a : tf_br c x y T1 F1) (b : tf_br c x y T2 F2) : tf_br c x y T3 F3 := by
  cases c <;> exact ⟨fun z => by first | exact t (a.1 z) (b.1 z) | exact f (a.1 z) (b.1 z), fun z => by first | exact t (a.2 z) (b.2 z) | exact f (a.2 z) (b.2 z)⟩
theorem cj_sw {T1 T2 T3 : Int → Prop} {x : Int32} (t : ∀ o, T1 o → T2 o → T3 o) : ∀ (os : List Int) (lo : Int), tf_sw T1 x lo os → tf_sw T2 x lo os → tf_sw T3 x lo os
  | [], _, _, _ => trivial
  | o :: r, lo, a, b => ⟨fun z => t o (a.1 z) (b.1 z), cj_sw t r (lo + 1) a.2 b.2⟩
/-- what a row of calls must keep -/
def CJ (C : tf_C) : Prop := ∀ (kn : Nat) (As : List Value) (h : LH) (Q1 Q2 Q3 : tf_Q), (∀ v g, Q1 v g → Q2 v g → Q3 v g) → C kn As h Q1 → C kn As h Q2 → C kn As h Q3
set_option maxRecDepth 100000 in
theorem cj_ext {nc : Nat} : CJ (tf_ext nc) := by
  intro kn As h Q1 Q2 Q3 q a b
  unfold tf_ext at a b ⊢
  generalize kn - 1000 = w at a b ⊢
  split at a
  · exact ⟨a.1, q _ _ a.2 b.2⟩
  · exact ⟨a.1, q _ _ a.2 b.2⟩
  · exact ⟨a.1, q _ _ a.2 b.2⟩
  · exact ⟨a.1, a.2.1, q _ _ a.2.2 b.2.2⟩
  · exact ⟨a.1, a.2.1, q _ _ a.2.2 b.2.2⟩
  · exact a.elim
set_option maxHeartbeats 2000000 in
theorem cj_st {nc : Nat} {C : tf_C} (hC : CJ C) {F : Nat → Option (Nat × Nat)} {M : Nat → Option (Nat × Nat × Bool)} {I : Nat → Option Value} {rk : Nat} {Q1 Q2 Q3 : tf_Q} {X1 X2 X3 : tf_X} (q : ∀ v g, Q1 v g → Q2 v g → Q3 v g) (x : ∀ pc L st h, X1 pc L st h → X2 pc L st h → X3 pc L st h) {pc : Nat} {i : Instr} {L st : List Value} {h : LH} {k1 k2 k3 : tf_Kt} (k : ∀ L st h, k1 L st h → k2 L st h → k3 L st h) (a : tf_st nc C F M I rk Q1 X1 pc i L st h k1) (b : tf_st nc C F M I rk Q2 X2 pc i L st h k2) : tf_st nc C F M I rk Q3 X3 pc i L st h k3 := by
  unfold tf_st at a b ⊢
  split at a
  all_goals first
    | exact k _ _ _ a b
    | exact x _ _ _ _ a b
    | exact a.elim
    | (split at a <;> first
        | exact a.elim
        | exact k _ _ _ a b
        | exact x _ _ _ _ a b
        | exact ⟨a.1, k _ _ _ a.2 b.2⟩
        | exact ⟨a.1, q _ _ a.2 b.2⟩
        | exact cj_br (x _ _ _ _) (k _ _ _) a b
        | exact ⟨fun z => x _ _ _ _ (a.1 z) (b.1 z), cj_sw (fun o => x _ _ _ _) _ _ a.2 b.2⟩
        | (rename_i heq
           simp only [heq] at b ⊢
           first
             | exact k _ _ _ a b
             | exact ⟨a.1, k _ _ _ a.2 b.2⟩
             | exact ⟨a.1, a.2.1, hC _ _ _ _ _ _ (fun v g => k _ _ _) a.2.2 b.2.2⟩)
        | (refine ⟨a.1, ?_⟩
           rcases a.2 with a2 | a2
           · rcases b.2 with b2 | b2
             · exact Or.inl ⟨a2.1, k _ _ _ a2.2 b2.2⟩
             · exact absurd (a2.1.symm.trans b2.1) (by decide)
           · rcases b.2 with b2 | b2
             · exact absurd (a2.1.symm.trans b2.1) (by decide)
             · exact Or.inr ⟨a2.1, k _ _ _ a2.2 b2.2⟩))
def CJh (f : List Value → List Value → LH → tf_Kt → tf_X → Prop) : Prop := ∀ (L st : List Value) (h : LH) (k1 k2 k3 : tf_Kt) (X1 X2 X3 : tf_X), (∀ L st h, k1 L st h → k2 L st h → k3 L st h) → (∀ pc L st h, X1 pc L st h → X2 pc L st h → X3 pc L st h) → f L st h k1 X1 → f L st h k2 X2 → f L st h k3 X3
set_option maxHeartbeats 2000000 in
theorem cj_f {nc d pc kd pr : Nat} : CJh (tv_f nc d pc kd pr) := by
  intro L st h k1 k2 k3 X1 X2 X3 k x a b
  obtain ⟨n, a⟩ := a
  obtain ⟨-, b⟩ := b
  refine ⟨n, ?_⟩
  revert a b
  match kd with
  | 0 => exact fun a b => k _ _ _ a b
  | 1 =>
    intro a b
    simp only at a b ⊢
    split at a
    · obtain ⟨i, h1, h2, h3⟩ := a
      obtain ⟨j, g1, g2, g3⟩ := b
      obtain rfl : i = j := Nat.add_left_cancel (h2.symm.trans g2)
      exact ⟨i, h1, h2, k _ _ _ h3 g3⟩
    · exact a.elim
  | 2 =>
    intro a b
    simp only at a b ⊢
    split at a
    · exact ⟨a.1, k _ _ _ a.2 b.2⟩
    · exact a.elim
  | 3 =>
    intro a b
    simp only at a b ⊢
    split at a
    · exact ⟨a.1, a.2.1, k _ _ _ a.2.2 b.2.2⟩
    · exact a.elim
  | 4 =>
    intro a b
    simp only at a b ⊢
    split at a
    · exact ⟨a.1, k _ _ _ a.2 b.2⟩
    · exact a.elim
  | 5 =>
    intro a b
    simp only at a b ⊢
    split at a
    · obtain ⟨i, h1, h2, h3, h4⟩ := a
      obtain ⟨j, g1, g2, g3, g4⟩ := b
      obtain rfl : i = j := Nat.add_left_cancel (h2.symm.trans g2)
      exact ⟨i, h1, h2, h3, k _ _ _ h4 g4⟩
    · exact a.elim
  | 6 =>
    intro a b
    simp only at a b ⊢
    split at a
    · exact ⟨a.1, a.2.1, k _ _ _ a.2.2 b.2.2⟩
    · exact a.elim
  | 7 =>
    intro a b
    simp only at a b ⊢
    split at a
    · obtain ⟨i, j, h1, h2, h3, h4, h5, h6⟩ := a
      obtain ⟨i', j', g1, g2, g3, g4, g5, g6⟩ := b
      obtain rfl : i = i' := Nat.add_left_cancel (h3.symm.trans g3)
      obtain rfl : j = j' := Nat.add_left_cancel (h4.symm.trans g4)
      exact ⟨i, j, h1, h2, h3, h4, fun z => x _ _ _ _ (h5 z) (g5 z), fun z => k _ _ _ (h6 z) (g6 z)⟩
    · exact a.elim
  | 8 =>
    intro a b
    simp only at a b ⊢
    split at a
    · obtain ⟨i, j, h1, h2, h3, h4, h5, h6⟩ := a
      obtain ⟨i', j', g1, g2, g3, g4, g5, g6⟩ := b
      obtain rfl : i = i' := Nat.add_left_cancel (h3.symm.trans g3)
      obtain rfl : j = j' := Nat.add_left_cancel (h4.symm.trans g4)
      exact ⟨i, j, h1, h2, h3, h4, fun z => k _ _ _ (h5 z) (g5 z), fun z => x _ _ _ _ (h6 z) (g6 z)⟩
    · exact a.elim
  | 9 =>
    intro a b
    simp only at a b ⊢
    split at a
    · obtain ⟨i, h1, h2, h3, h4⟩ := a
      obtain ⟨j, g1, g2, g3, g4⟩ := b
      obtain rfl : i = j := Nat.add_left_cancel (h2.symm.trans g2)
      exact ⟨i, h1, h2, h3, k _ _ _ h4 g4⟩
    · exact a.elim
  | 10 =>
    intro a b
    simp only at a b ⊢
    split at a
    · obtain ⟨i, h1, h2, h3, h4⟩ := a
      obtain ⟨j, g1, g2, g3, g4⟩ := b
      obtain rfl : i = j := Nat.add_left_cancel (h2.symm.trans g2)
      exact ⟨i, h1, h2, h3, k _ _ _ h4 g4⟩
    · exact a.elim
  | 11 =>
    intro a b
    simp only at a b ⊢
    split at a
    · obtain ⟨i, h1, h2, h3, h4⟩ := a
      obtain ⟨j, g1, g2, g3, g4⟩ := b
      obtain rfl : i = j := Nat.add_left_cancel (h2.symm.trans g2)
      exact ⟨i, h1, h2, h3, k _ _ _ h4 g4⟩
    · exact a.elim
  | 12 =>
    intro a b
    simp only at a b ⊢
    split at a
    · obtain ⟨i, h1, h2, h3, h4⟩ := a
      obtain ⟨j, g1, g2, g3, g4⟩ := b
      obtain rfl : i = j := Nat.add_left_cancel (h2.symm.trans g2)
      exact ⟨i, h1, h2, h3, k _ _ _ h4 g4⟩
    · exact a.elim
  | m + 13 =>
    intro a b
    simp only at a b ⊢
    split at a
    · exact k _ _ _ a b
    · exact k _ _ _ a b
    · exact a.elim
theorem cj_Eg {nc d kn pc : Nat} {f : List Value → List Value → LH → tf_Kt → tf_X → Prop} (e : tf_Eg nc d kn pc = some f) : CJh f := by
  unfold tf_Eg at e
  generalize (Nat.ble 222 kn && Nat.ble kn 241) = bb at e
  cases bb with
  | true =>
    cases z : (tv_hl kn).lookup pc with
    | none =>
      simp only [z] at e
      cases e
    | some w =>
      simp only [z] at e
      cases e
      exact cj_f
  | false => cases e
section CJS
variable {nc : Nat} {C : tf_C} {F : Nat → Option (Nat × Nat)} {M : Nat → Option (Nat × Nat × Bool)} {I : Nat → Option Value} {E : tf_Hk} {rk : Nat} {B : tf_Bk} {Q1 Q2 Q3 : tf_Q}
theorem cj_wp (hC : CJ C) (hE : ∀ pc f, E pc = some f → CJh f) (q : ∀ v g, Q1 v g → Q2 v g → Q3 v g) {X1 X2 X3 : tf_X} (x : ∀ pc L st h, X1 pc L st h → X2 pc L st h → X3 pc L st h) : ∀ (r : List (Instr × Nat)) (pc : Nat) (L st : List Value) (h : LH), tf_wp nc C F M I E rk Q1 X1 pc r L st h → tf_wp nc C F M I E rk Q2 X2 pc r L st h → tf_wp nc C F M I E rk Q3 X3 pc r L st h
  | [], pc, L, st, h, a, b => x _ _ _ _ a b
  | (i, n) :: r, pc, L, st, h, a, b => by
    unfold tf_wp at a b ⊢
    cases z : E pc with
    | none =>
      rw [z] at a b
      exact cj_st hC q x (fun L st h => cj_wp hC hE q x r (pc + n) L st h) a b
    | some f =>
      rw [z] at a b
      exact hE pc f z L st h _ _ _ _ _ _ (fun L st h => cj_wp hC hE q x r (pc + n) L st h) x a b
theorem lw_in (hC : CJ C) (hE : ∀ pc f, E pc = some f → CJh f) {pc : Nat} {L st : List Value} {h : LH} (a : tf_LW nc C F M I E rk B Q1 pc L st h) : tf_wp nc C F M I E rk Q1 (tf_LW nc C F M I E rk B Q1) pc (tf_at B pc) L st h := by
  refine a (fun pc L st h => tf_wp nc C F M I E rk Q1 (tf_LW nc C F M I E rk B Q1) pc (tf_at B pc) L st h) (fun Y pc L st h y w => ?_)
  exact cj_wp hC hE (fun _ _ z _ => z) (fun pc L st h y1 _ => tf_LW_go (y _ _ _ _ y1)) _ pc L st h w w
theorem cj_LW (hC : CJ C) (hE : ∀ pc f, E pc = some f → CJh f) (q : ∀ v g, Q1 v g → Q2 v g → Q3 v g) {pc : Nat} {L st : List Value} {h : LH} (a : tf_LW nc C F M I E rk B Q1 pc L st h) (b : tf_LW nc C F M I E rk B Q2 pc L st h) : tf_LW nc C F M I E rk B Q3 pc L st h := by
  refine a (fun pc L st h => tf_LW nc C F M I E rk B Q2 pc L st h → tf_LW nc C F M I E rk B Q3 pc L st h) (fun Y pc L st h y w b => ?_) b
  exact tf_LW_go (cj_wp hC hE q (fun pc L st h y1 y2 => y _ _ _ _ y1 y2) _ pc L st h w (lw_in hC hE b))
end CJS
set_option maxRecDepth 100000 in
theorem cj_Cd {nc : Nat} : ∀ d, CJ (tf_Cd nc d)
  | 0 => cj_ext
  | d + 1 => by
    intro kn As h Q1 Q2 Q3 q a b
    unfold tf_Cd at a b ⊢
    split at a
    · rename_i hk
      rw [if_pos hk] at b ⊢
      exact ⟨a.1, cj_LW (cj_Cd d) (fun pc f e => cj_Eg e) q a.2 b.2⟩
    · rename_i hk
      rw [if_neg hk] at b ⊢
      exact cj_ext kn As h Q1 Q2 Q3 q a b
/-- what two rows say of one call, together -/
theorem tf_Sp.cj {h : LH} {d kn : Nat} {As : List Value} {P1 P2 : Value → LH → Prop} (a : tf_Sp d kn As h P1) (b : tf_Sp d kn As h P2) : tf_Sp d kn As h (fun v g => P1 v g ∧ P2 v g) := fun Q q => cj_Cd d kn As h P1 P2 Q (fun v g x y => q v g ⟨x, y⟩) (a P1 (fun _ _ x => x)) (b P2 (fun _ _ x => x))
