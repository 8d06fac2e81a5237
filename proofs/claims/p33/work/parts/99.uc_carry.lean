/-! ===== the reference's least: who has too much is reached; who wants ===== -/
section UCC
variable {h g g1 : LH} {n k M d : Nat} {P : Nat → Int}
/-- who has too much is reached -/
def SRC (h : LH) (n : Nat) (g : LH) : Prop := ∀ p, p < n → g.1 295 p ≤ 1000000 ∧ (¬ h.1 294 p ≤ 0 → g.1 295 p ≠ 1000000)
theorem lcs_in (B0 : CB h n k) {x2 : Int32} {Q : tf_Q} (q : ∀ (x1 x3 : Int32) (g : LH), F2c h g → SRC h n g → lx_X9_laysCheapest 298 (tf_Cd 298 (d + 2)) Q 96 [.ref 270, .int x1, .int x2, .int x3] [] g) : ∀ (f x : Nat) (x1 : Int32) (g : LH), x + f = 2 * k → F2c h g → SRC h n g → lx_X9_laysCheapest 298 (tf_Cd 298 (d + 2)) Q 65 [.ref 270, .int x1, .int x2, .int (nI x)] [] g
  | 0, x, x1, g, hx, F, L => by
    have hn := B0.1.1
    have e : x = 2 * k := by omega
    subst e
    refine go_X9_laysCheapest_65 (by decide) ⟨fun _ => q _ _ g F L, fun z => absurd ?_ z⟩
    show 2 * g.1 271 1 ≤ nI (2 * k)
    rw [F.1 271 (by decide) (by decide), B0.1.2.2.1, show (2 : Int32) = nI 2 from rfl, nI_mul]
    exact nI_le (Nat.le_refl _) (by omega)
  | f + 1, x, x1, g, hx, F, L => by
    have hn := B0.1.1
    have i1 : nI x / 2 = nI (x / 2) := pk_div (d := 2) (by omega) (by omega) (by omega)
    have i2 : nI x - nI x / 2 * 2 = nI (x % 2) := pk_rem (d := 2) (by omega) (by omega) (by omega)
    obtain ⟨-, hT⟩ := ((F.cb B0).1.eFT (r := x) (by omega)).2
    refine go_X9_laysCheapest_65 (by decide) ⟨fun z => ?_, fun _ => sx_rx (d := d) (F.cb B0) (r := x) (by omega) i1 i2 (fun X => go_X9_laysCheapest_88 (by decide) ?_) (fun X => go_X9_laysCheapest_88 (by decide) ?_)⟩
    · have z2 : 2 * g.1 271 1 ≤ nI x := z
      rw [F.1 271 (by decide) (by decide), B0.1.2.2.1, show (2 : Int32) = nI 2 from rfl, nI_mul] at z2
      exact absurd z2 (nI_ge (by omega) (by omega))
    · rw [nI_1]
      refine lcs_in B0 q f (x + 1) _ _ (by omega) ⟨fun e h1 h2 => by rw [w1_ne h2, w1_ne h1]; exact F.1 e h1 h2, F.2⟩ (fun p hp => ?_)
      rw [w1_ne (by decide)]
      by_cases e : p = eT g x
      · rw [e, w1_eq]
        have lt := Int32.lt_of_lt_of_le X.2.2 (L (eT g x) hT).1
        exact ⟨Int32.le_of_lt lt, fun _ z => by rw [z] at lt; exact Int32.lt_irrefl lt⟩
      · rw [w1_at e]
        exact L p hp
    · rw [nI_1]
      exact lcs_in B0 q f (x + 1) _ g (by omega) F L
theorem lcs_out (B0 : CB h n k) {Q : tf_Q} (q : ∀ g, F2c h g → SRC h n g → Q tf_z g) : ∀ (f i : Nat) (x1 : Int32) (x3 : Value) (g : LH), i + f = 8 → F2c h g → SRC h n g → lx_X9_laysCheapest 298 (tf_Cd 298 (d + 2)) Q 51 [.ref 270, .int x1, .int (nI i), x3] [] g
  | 0, i, x1, x3, g, hi, F, L => by
    have e : i = 8 := by omega
    subst e
    exact go_X9_laysCheapest_51 (by decide) ⟨fun _ => go_X9_laysCheapest_102 (by decide) (q g F L), fun z => absurd (nI_lt (a := 7) (b := 8) (by omega) (by omega)) z⟩
  | f + 1, i, x1, x3, g, hi, F, L => by
    refine go_X9_laysCheapest_51 (by decide) ⟨fun z => absurd z (nI_nlt (a := 7) (by omega) (by omega)), fun _ => ⟨fun c => go_X9_laysCheapest_102 (by decide) (q g F L), fun c => ?_⟩⟩
    refine lcs_in (d := d) B0 (fun x1 x3 g2 F2 L2 => go_X9_laysCheapest_96 (by decide) ?_) (2 * k) 0 0 g (by omega) F L
    rw [nI_1]
    exact lcs_out B0 q f (i + 1) x1 _ g2 (by omega) F2 L2
theorem sp_lcs (B0 : CB h n k) : tf_Sp (d + 3) 97 [.ref 270] h (fun _ g => F2c h g ∧ SRC h n g) := by
  intro Q q
  refine en_X9_laysCheapest (by decide) (go_X9_laysCheapest_0 (by decide) (lc_st B0 (fun x1 g F L => go_X9_laysCheapest_47 (by decide) ?_) n 0 h (by omega) ⟨fun _ _ _ => rfl, rfl⟩ (fun o ho => absurd ho (by omega))))
  refine lcs_out (d := d) B0 (fun g F W => q _ _ ⟨F, W⟩) 8 0 1 _ g (by omega) F (fun p hp => ?_)
  rw [(L p hp).1]
  by_cases c : h.1 294 p ≤ 0
  · rw [if_pos c]
    exact ⟨by decide, fun z => absurd c z⟩
  · rw [if_neg c]
    exact ⟨by decide, fun _ => by decide⟩
theorem sp_wnL (H : RM g n k) {Q : tf_Q} (q : ∀ x : Int32, (x = -1 → ∀ p, p < n → ¬ 0 ≤ g.1 294 p → 1000000 ≤ g.1 295 p) → Q (.int x) g) : ∀ (f p : Nat) (x1 : Int32), p + f = n → (x1 = -1 ∨ ∃ p, p < n ∧ x1 = nI p) → (x1 = -1 → ∀ o, o < p → ¬ 0 ≤ g.1 294 o → 1000000 ≤ g.1 295 o) → lx_X9_wanting 298 (tf_Cd 298 d) Q 4 [.ref 270, .int x1, .int (nI p)] [] g
  | 0, p, x1, hp, hx, no => by
    have hn := H.1
    exact go_X9_wanting_4 (by decide) ⟨fun _ => go_X9_wanting_63 (by decide) (q _ (fun e o ho => no e o (by omega))), fun z => absurd (H.n2 (by omega) (by omega)) z⟩
  | f + 1, p, x1, hp, hx, no => by
    have hn := H.1
    have v7 : vp_in (nI p) 7 := vi_of (by omega) (by omega)
    have cp : (nI p).toNatClampNeg = p := nI_clamp (by omega)
    have e57 : ∀ x1 : Int32, (x1 = -1 ∨ ∃ p, p < n ∧ x1 = nI p) → (x1 = -1 → ∀ o, o < p + 1 → ¬ 0 ≤ g.1 294 o → 1000000 ≤ g.1 295 o) → ∀ x0 : Int32, x0 = x1 → lx_X9_wanting 298 (tf_Cd 298 d) Q 57 [.ref 270, .int x0, .int (nI p)] [] g := fun x1 hx no x0 e0 => go_X9_wanting_57 (by decide) (by rw [nI_1, e0]; exact sp_wnL H q f (p + 1) x1 (by omega) hx no)
    have e55 : lx_X9_wanting 298 (tf_Cd 298 d) Q 55 [.ref 270, .int x1, .int (nI p)] [] g := go_X9_wanting_55 (by decide) (e57 (nI p) (Or.inr ⟨p, by omega, rfl⟩) (fun z => absurd z (nI_neg1 (by omega))) _ rfl)
    have keep : (¬ 0 ≤ g.1 294 p → 1000000 ≤ g.1 295 p) → lx_X9_wanting 298 (tf_Cd 298 d) Q 57 [.ref 270, .int x1, .int (nI p)] [] g := fun c => e57 x1 hx (fun e o ho => by
      by_cases eo : o = p
      · rw [eo]
        exact c
      · exact no e o (by omega)) _ rfl
    have keep2 : ¬ x1 = -1 → lx_X9_wanting 298 (tf_Cd 298 d) Q 57 [.ref 270, .int x1, .int (nI p)] [] g := fun c => e57 x1 hx (fun e => absurd e c) _ rfl
    refine go_X9_wanting_4 (by decide) ⟨fun z => absurd z (H.n1 (by omega)), fun _ => ⟨v7, ?_⟩⟩
    rw [cp]
    refine ⟨fun c => keep (fun z => absurd c z), fun c1 => ⟨v7, fun c2 => keep (fun _ => c2), fun c2 => ⟨fun _ => e55, fun c3 => ⟨v7, ?_, fun _ => keep2 c3, fun _ => e55⟩⟩⟩⟩
    rcases hx with e | ⟨o, ho, e⟩
    · exact absurd e c3
    · rw [e]
      exact vi_of (by omega) (by omega)
theorem sp_wn (H : RM g n k) : tf_Sp (d + 1) 98 [.ref 270] g (fun v _ => ∃ x : Int32, v = .int x ∧ (x = -1 → ∀ p, p < n → ¬ 0 ≤ g.1 294 p → 1000000 ≤ g.1 295 p)) := fun Q q => en_X9_wanting (by decide) (go_X9_wanting_0 (by decide) (sp_wnL H (fun x hx => q _ g ⟨x, rfl, hx⟩) n 0 _ (by omega) (Or.inl rfl) (fun _ o ho => absurd ho (by omega))))
end UCC
