/-! ===== the class's loop over orders ===== -/
section SEL
variable {h g : LH} {n k m d : Nat} {V : Nat → Nat} {A : Nat → Nat → Int32}
/-- orders one by one, till one is refused -/
def odf (n k : Nat) (V : Nat → Nat) (A : Nat → Nat → Int32) : Nat → Nat → LH → Nat → LH × Nat × Nat
  | 0, i, g, m => (g, m, i)
  | f + 1, i, g, m => if (od g n k m (V i) (A i 0) (A i 1) (A i 2)).2.2 = true then odf n k V A f (i + 1) (od g n k m (V i) (A i 0) (A i 1) (A i 2)).1 (od g n k m (V i) (A i 0) (A i 1) (A i 2)).2.1 else ((od g n k m (V i) (A i 0) (A i 1) (A i 2)).1, (od g n k m (V i) (A i 0) (A i 1) (A i 2)).2.1, i)
theorem odf_cg {V2 : Nat → Nat} {A2 : Nat → Nat → Int32} : ∀ (f i : Nat) (g : LH) (m : Nat), (∀ j, i ≤ j → j < i + f → ∀ (g : LH) (m : Nat), od g n k m (V j) (A j 0) (A j 1) (A j 2) = od g n k m (V2 j) (A2 j 0) (A2 j 1) (A2 j 2)) → odf n k V A f i g m = odf n k V2 A2 f i g m
  | 0, _, _, _, _ => rfl
  | f + 1, i, g, m, e => by
    rw [odf, odf, e i (by omega) (by omega), odf_cg f (i + 1) _ _ (fun j h1 h2 => e j (by omega) (by omega))]
/-- what orders leave -/
theorem odf_ok : ∀ (f i : Nat) (g : LH) (m c : Nat), NT g 0 n k m → RO g c → (∀ j, i ≤ j → j < i + f → V j = 9 → ∃ NN, NN ≤ 60 ∧ A j 0 = nI NN) → (NT (odf n k V A f i g m).1 0 n k (odf n k V A f i g m).2.1 ∧ (odf n k V A f i g m).2.1 ≤ m + 60 * f ∧ (∃ c2, RO (odf n k V A f i g m).1 c2) ∧ (∀ e, 15 ≤ e → e < 241 → (odf n k V A f i g m).1.1 e = g.1 e) ∧ Fr g (odf n k V A f i g m).1) ∧ i ≤ (odf n k V A f i g m).2.2 ∧ (odf n k V A f i g m).2.2 ≤ i + f
  | 0, i, g, m, c, H, R, ha => ⟨⟨H, Nat.le_refl _, ⟨c, R⟩, fun _ _ _ => rfl, Fr.rf⟩, Nat.le_refl _, Nat.le_refl _⟩
  | f + 1, i, g, m, c, H, R, ha => by
    obtain ⟨o1, o2, ⟨c2, o3⟩, o4, o5⟩ := od_ok (v := V i) (a := A i 0) (b2 := A i 1) (c := A i 2) H R (ha i (by omega) (by omega))
    rw [odf]
    generalize od g n k m (V i) (A i 0) (A i 1) (A i 2) = P at o1 o2 o3 o4 o5
    split
    · obtain ⟨⟨i1, i2, i3, i4, i5⟩, i6, i7⟩ := odf_ok f (i + 1) P.1 P.2.1 c2 o1 o3 (fun j h1 h2 => ha j (by omega) (by omega))
      exact ⟨⟨i1, by omega, i3, fun e h1 h2 => by rw [i4 e h1 h2, o4 e h1 h2], o5.tr i5⟩, by omega, by omega⟩
    · exact ⟨⟨o1, by show P.2.1 ≤ m + 60 * (f + 1); omega, ⟨c2, o3⟩, o4, o5⟩, Nat.le_refl _, by show i ≤ i + (f + 1); omega⟩
/-- the class's loop -/
theorem wk_X {cc : Nat} (hc : cc ≤ 80) (e0 : h.1 259 0 = nI cc) (VBh : VB h cc) (O : OGr h cc) (hv : ∀ i, i < cc → vbn h i = 2 ∨ (5 ≤ vbn h i ∧ vbn h i < 15)) {Q : tf_Q} : ∀ (f i : Nat) (g : LH) (m c0 : Nat), i + f = cc → NT g 0 n k m → m + 60 * f < 1900000000 → RO g c0 → Fr h g → lx_X8_work 298 (tf_Cd 298 10) Q 87 [.ref 240, .int (nI (odf n k (vbn h) (nb h) f i g m).2.2)] [] (odf n k (vbn h) (nb h) f i g m).1 → lx_X8_work 298 (tf_Cd 298 10) Q 51 [.ref 240, .int (nI i)] [] g
  | 0, i, g, m, c0, hf, H, hm, R, F, q => go_X8_work_51 (by decide) ⟨fun _ => q, fun c1 => absurd (by rw [F.1 259 (by decide), e0]; exact nI_le (by omega) (by omega)) c1⟩
  | f + 1, i, g, m, c0, hf, H, hm, R, F, q => by
    have V2 : VB g cc := VBh.same (F.1 260 (by decide))
    have ev : ∀ j, vbn g j = vbn h j := fun j => by unfold vbn; rw [F.1 260 (by decide)]
    have en : ∀ j x, nb g j x = nb h j x := fun j x => by unfold nb; rw [F.1 262 (by decide)]
    have O2 : OGr g cc := fun line hl v9 => by
      rw [ev] at v9
      rw [en]
      exact O line hl v9
    have a9 : vbn h i = 9 → ∃ NN, NN ≤ 60 ∧ nb h i 0 = nI NN := fun z => by
      obtain ⟨m1, h1, h2, h3⟩ := O i (by omega) z
      exact ⟨m1, h2, h3⟩
    have s := cx_od (d := 4) (line := i) H R (by omega) hc (by omega) V2 O2 (by rw [ev]; exact hv i (by omega))
    rw [ev, en, en, en] at s
    obtain ⟨o1, o2, ⟨c2, o3⟩, o4, o5⟩ := od_ok (v := vbn h i) (a := nb h i 0) (b2 := nb h i 1) (c := nb h i 2) H R a9
    rw [odf] at q
    generalize od g n k m (vbn h i) (nb h i 0) (nb h i 1) (nb h i 2) = P at s o1 o2 o3 o4 o5 q
    refine go_X8_work_51 (by decide) ⟨fun c1 => absurd (by rw [F.1 259 (by decide), e0] at c1; exact c1) (nI_ge (by omega) (by omega)), fun _ => s _ (fun v g2 p => ?_)⟩
    obtain ⟨rfl, rfl⟩ := p
    refine go_X8_work_78 (by decide) ⟨fun z => ?_, fun z => ?_⟩
    · rw [bI_0] at z
      rw [if_neg (by rw [z]; decide)] at q
      exact q
    · rw [bI_0, Bool.not_eq_false] at z
      rw [if_pos z] at q
      rw [nI_1]
      exact wk_X hc e0 VBh O hv f (i + 1) P.1 P.2.1 c2 (by omega) o1 (by omega) o3 (F.tr o5) q
end SEL
