/-! ===== lay answers alike ===== -/
section LYE
variable {h g : LH} {t : Nat}
/-- what lay answers -/
def px_la (c : Nat → Int32) (l : Nat) : Int32 := if (px_lay c l).1 = 0 then nI (px_na (px_all c l 0 80 (px_p c l 0)).1) else -1
theorem px_la_n {c : Nat → Int32} {l : Nat} {s : px_S} (hl : l ≤ 400) (Z : S0 s) (z : (px_lay c l).1 = 0) : (px_sS (px_all c l 0 80 (px_p c l 0)).1 s).bad = -1 ∧ (px_sS (px_all c l 0 80 (px_p c l 0)).1 s).n = px_na (px_all c l 0 80 (px_p c l 0)).1 := by
  have hp0 := (px_p_le (c := c) (l := l) (a := 0) (Nat.zero_le _)).2
  have K := px_all_ok (c := c) (l := l) (o := 0) 80 _ hp0
  rw [px_lay_eq hl Z] at z
  unfold px_rlay at z
  generalize (px_all c l 0 80 (px_p c l 0)).1 = ls at z K ⊢
  cases w : (px_all c l 0 80 (px_p c l 0)).2 with
  | some p =>
    rw [w] at z
    exact absurd z (show ¬ (1 : Int32) = 0 by decide)
  | none =>
    rw [w] at z
    have z : (px_rg (px_sS ls s) (nI l)).1 = 0 := z
    have b : (px_sS ls s).bad = -1 := by
      by_cases b : (px_sS ls s).bad = -1
      · exact b
      · unfold px_rg at z
        rw [if_pos b] at z
        exact absurd z (show ¬ (2 : Int32) = 0 by decide)
    refine ⟨b, ?_⟩
    have := (sS_n hl ls 0 s K (by omega) Z.2.2.2.1 b).1
    rw [Nat.zero_add] at this
    exact this
theorem cg_la {c e : Nat → Int32} {l : Nat} (h : ∀ i, i < l → c i = e i) : px_la c l = px_la e l := by
  unfold px_la
  rw [cg_lay h, cg_all0 h]
theorem S0_ex : ∃ s, S0 s := ⟨(-1, fun _ => -1, 2, 0, 0, fun _ => 0, fun _ => 0), rfl, fun _ _ => rfl, rfl, rfl, rfl, fun _ _ => rfl, fun _ _ => rfl⟩
theorem xe_1 (I : IX h t) : lk_eq h 182 [.ref 240] 24 [.ref 270] (fun g => IX g (t + 1)) := by
  obtain ⟨l, hl, el⟩ := (I.1.1.1.2 0 (by omega)).2
  have el : h.1 251 1 = nI l := el
  have em : h.1 271 170 = nI l := I.1.2.2.1.symm.trans el
  obtain ⟨s0, Z0⟩ := S0_ex
  refine (tf_Sp.cj (ix_1 I) ((cx_lay I.1.1.1 hl el).cj (cy_lay I.1.1.1 hl el Z0))).mp (fun v g p => ?_)
  obtain ⟨⟨-, p1⟩, ⟨⟨-, -, F, -, -, -⟩, -⟩, p2, p3⟩ := p
  have ev : v = .int (px_la (h.1 252) l) := by
    unfold px_la
    by_cases z : (px_lay (h.1 252) l).1 = 0
    · rw [if_pos z, (p3 z).1, (px_la_n hl Z0 z).2]
    · rw [if_neg z, (p2 z).1]
  have ec : ∀ i, i < l → h.1 252 i = (fun i => g.1 272 i &&& 255) i := fun i hi => by
    show _ = g.1 272 i &&& 255
    rw [F.1 272 (by decide)]
    exact I.2.1 i (by omega)
  have R : RI g (8000 * t) := I.1.1.2.hi (fun c h1 _ => F.1 c h1)
  refine ⟨_, ev, (tf_Sp.cj p1 (rx_lay R hl (by rw [F.1 271 (by decide)]; exact em) rfl)).mp (fun w k q => ⟨?_, q.1.2⟩)⟩
  obtain ⟨-, s, Z, -, q2, q3⟩ := q
  rw [cg_la ec]
  unfold px_la
  rw [← px_lay_eq hl Z] at q2 q3
  by_cases z : (px_lay (fun i => g.1 272 i &&& 255) l).1 = 0
  · rw [if_pos z, q3 z, (px_la_n hl Z z).2]
  · rw [if_neg z, q2 z]
end LYE
