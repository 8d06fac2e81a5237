/-! ===== the class looks orders over: told exactly ===== -/
def px_ol (L : px_L) (s : Int32 × Int32) : Int32 × Int32 :=
  if L.1 = 9 then px_wt L 0 1 60 2 s
  else if L.1 = 10 then px_wt L 2 1 99 2 (px_wt L 1 0 6 2 (px_wt L 0 0 6 2 s))
  else if L.1 = 2 ∨ L.1 = 5 ∨ L.1 = 11 ∨ L.1 = 12 ∨ L.1 = 13 then px_wt L 0 0 13 2 s
  else s
def px_os : List px_L → Int32 × Int32 → Int32 × Int32
  | [], s => s
  | L :: r, s => px_os r (px_ol L s)
theorem px_oar : ∀ v, v < 15 → (v = 9 → 1 ≤ (tv_o.getD v 0).toNatClampNeg) ∧ (v = 10 → 3 ≤ (tv_o.getD v 0).toNatClampNeg) ∧ (v = 2 ∨ v = 5 ∨ v = 11 ∨ v = 12 ∨ v = 13 → 1 ≤ (tv_o.getD v 0).toNatClampNeg) := by decide +kernel
theorem tv_so1 : ∀ v, v < 15 → ((tv_sm.getD v 0).toInt = 3 → v = 2) ∧ ((tv_sm.getD v 0).toInt = 4 → v = 3) ∧ ((tv_sm.getD v 0).toInt = 5 → v = 4) ∧ ((tv_sm.getD v 0).toInt = 6 → v = 5) ∧ ((tv_sm.getD v 0).toInt = 7 → v = 9) := by decide +kernel
theorem tv_so2 : ∀ v, v < 15 → ((tv_sm.getD v 0).toInt = 8 → v = 10) ∧ ((tv_sm.getD v 0).toInt = 9 → v = 11) ∧ ((tv_sm.getD v 0).toInt = 10 → v = 12) ∧ ((tv_sm.getD v 0).toInt = 11 → v = 13) := by decide +kernel
theorem tv_so3 : ∀ v, v < 15 → ((tv_sm.getD v 0).toInt < 3 ∨ 11 < (tv_sm.getD v 0).toInt) → (v ≠ 9 ∧ v ≠ 10 ∧ v ≠ 2) ∧ (v ≠ 5 ∧ v ≠ 11 ∧ v ≠ 12 ∧ v ≠ 13) := by decide +kernel
section SX8
variable {h g : LH} {d : Nat}
/-- a line that stands there, of orders -/
def LoA (h : LH) (n : Nat) (L : px_L) : Prop := LnA h n L ∧ L.1 < 15 ∧ L.2.2.length = (tv_o.getD L.1 0).toNatClampNeg
def LSo (h : LH) (i : Nat) (ls : List px_L) : Prop := ∀ (m : Nat) (L : px_L), ls[m]? = some L → LoA h (i + m) L
theorem LSo.hd {i : Nat} {L : px_L} {r : List px_L} (S : LSo h i (L :: r)) : LoA h i L := S 0 L rfl
theorem LSo.tl {i : Nat} {L : px_L} {r : List px_L} (S : LSo h i (L :: r)) : LSo h (i + 1) r := fun m L2 hm => by
  have := S (m + 1) L2 hm
  rw [show i + 1 + m = i + (m + 1) by omega]
  exact this
theorem LSo.fl {i : Nat} {ls : List px_L} (S : LSo h i ls) (F : FL h g) : LSo g i ls := fun m L hm => ⟨(S m L hm).1.fl F, (S m L hm).2⟩
theorem sco_L {Q : tf_Q} : ∀ (ls : List px_L) (i : Nat) (g : LH), LSo g i ls → g.1 259 0 = nI (i + ls.length) → i + ls.length ≤ 80 → (∀ g2, FL g g2 → fp g2 = px_os ls (fp g) → Q tf_z g2) → lx_X4_checkOrders (d + 2) (tf_Cd 298 (d + 2)) Q 2 [.ref 259, .int (nI i)] [] g
  | [], i, g, S, e0, hc, q => go_X4_checkOrders_2 ⟨fun _ => go_X4_checkOrders_137 (q g FL.rf rfl), fun c1 => absurd (by rw [e0]; exact nI_le (by simp) (by omega)) c1⟩
  | L :: r, i, g, S, e0, hc, q => by
    obtain ⟨A, hv, al⟩ := S.hd
    simp only [List.length_cons] at e0 hc
    obtain ⟨r9, r10, r2⟩ := px_oar L.1 hv
    have e : (nI i).toNatClampNeg = i := nI_clamp (by omega)
    have ev : (g.1 260 i).toNatClampNeg = L.1 := A.vb hv
    have vin : vp_in (g.1 260 i) 15 := by rw [A.1]; exact vi_of hv (by omega)
    have cv : (nI L.1).toNatClampNeg = L.1 := nI_clamp (by omega)
    have nx : ∀ g2, FL g g2 → fp g2 = px_ol L (fp g) → lx_X4_checkOrders (d + 2) (tf_Cd 298 (d + 2)) Q 131 [.ref 259, .int (nI i)] [] g2 := by
      intro g2 F2 z2
      refine go_X4_checkOrders_131 ?_
      rw [nI_1]
      exact sco_L r (i + 1) g2 (S.tl.fl F2) (by rw [F2.2.2 0 (by decide) (by decide), e0]; congr 1; omega) (by omega) (fun g3 F3 z3 => q g3 (F2.tr F3) (by rw [z3, z2]; rfl))
    have k131 : (L.1 ≠ 9 ∧ L.1 ≠ 10 ∧ L.1 ≠ 2 ∧ L.1 ≠ 5 ∧ L.1 ≠ 11 ∧ L.1 ≠ 12 ∧ L.1 ≠ 13) → lx_X4_checkOrders (d + 2) (tf_Cd 298 (d + 2)) Q 131 [.ref 259, .int (nI i)] [] g := fun n9 => nx g FL.rf (by rw [px_ol, if_neg (by omega), if_neg (by omega), if_neg (by omega)])
    have k118 : (L.1 = 2 ∨ L.1 = 5 ∨ L.1 = 11 ∨ L.1 = 12 ∨ L.1 = 13) → lx_X4_checkOrders (d + 2) (tf_Cd 298 (d + 2)) Q 118 [.ref 259, .int (nI i)] [] g := by
      intro hc2
      have := r2 hc2
      refine go_X4_checkOrders_118 (sx_want (d := d) (i := 0) (by omega) A (by omega) (by decide) rfl _ (fun _ g2 p => go_X4_checkOrders_128 (nx g2 p.1 ?_)))
      rw [p.2, px_ol, if_neg (by omega), if_neg (by omega), if_pos hc2]
    refine go_X4_checkOrders_2 ⟨fun c1 => absurd (by rw [e0] at c1; exact c1) (nI_ge (by omega) (by omega)), fun _ => ⟨⟨vi_of (by omega) (by omega), by rw [e]; exact vin⟩, ?_⟩⟩
    rw [e, ev]
    refine go_X4_checkOrders_22 ?_
    rw [cv]
    obtain ⟨s3, s4, s5, s6, s7⟩ := tv_so1 L.1 hv
    obtain ⟨s8, s9, s10, s11⟩ := tv_so2 L.1 hv
    have s0 := tv_so3 L.1 hv
    refine ⟨vi_of hv (by omega), fun c1 => k131 (by have := s0 c1; omega), fun c1 => k118 (Or.inl (s3 c1)), fun c1 => k131 (by have := s4 c1; omega), fun c1 => k131 (by have := s5 c1; omega), fun c1 => k118 (Or.inr (Or.inl (s6 c1))), fun c1 => ?_, fun c1 => ?_, fun c1 => k118 (by have := s9 c1; omega), fun c1 => k118 (by have := s10 c1; omega), fun c1 => k118 (by have := s11 c1; omega), trivial⟩
    · have v9 := s7 c1
      have := r9 v9
      refine go_X4_checkOrders_72 (sx_want (d := d) (i := 0) (by omega) A (by omega) (by decide) rfl _ (fun _ g2 p => go_X4_checkOrders_82 (nx g2 p.1 ?_)))
      rw [p.2, px_ol, if_pos v9]
    · have v10 := s8 c1
      have := r10 v10
      refine go_X4_checkOrders_85 (sx_want (d := d) (i := 0) (by omega) A (by omega) (by decide) rfl _ (fun _ g2 p2 => go_X4_checkOrders_95 ?_))
      have A2 := A.fl p2.1
      refine sx_want (d := d) (i := 1) (by omega) A2 (by omega) (by decide) rfl _ (fun _ g3 p3 => go_X4_checkOrders_105 ?_)
      have A3 := A2.fl p3.1
      refine sx_want (d := d) (i := 2) (by omega) A3 (by omega) (by decide) rfl _ (fun _ g4 p4 => go_X4_checkOrders_115 (nx g4 ((p2.1.tr p3.1).tr p4.1) ?_))
      rw [p4.2, p3.2, p2.2, px_ol, if_neg (by omega), if_pos v10]
theorem sx_co {ls : List px_L} (S : LSo h 0 ls) (e0 : h.1 259 0 = nI ls.length) (hc : ls.length ≤ 80) : tf_Sp (d + 3) 238 [.ref 259] h (fun _ g => FL h g ∧ fp g = px_os ls (fp h)) := fun Q q => en_X4_checkOrders (go_X4_checkOrders_0 (sco_L ls 0 h S (by rw [e0]; congr 1; omega) (by omega) (fun g F z => q _ g ⟨F, z⟩)))
/-! the lines that read gives -/
theorem px_ns_ok {c : Nat → Int32} {l : Nat} : ∀ (k p : Nat), (px_ns c l k p).2.2 = true → (px_ns c l k p).1.length = k
  | 0, p, _ => rfl
  | k + 1, p, e => by
    rw [px_ns] at e ⊢
    split at e
    · rename_i c2
      rw [if_pos c2]
      simp only [List.length_cons]
      rw [px_ns_ok k _ e]
    · cases e
theorem px_ln_ar {c : Nat → Int32} {l p : Nat} {o : Int32} {L : px_L} (e : (px_ln c l o p).1 = some L) : L.1 < 15 ∧ L.2.2.length = (px_ar o L.1).toNatClampNeg ∧ px_ar o L.1 ≠ -1 := by
  unfold px_ln at e
  split at e
  · split at e
    · cases e
    · rename_i v hvb
      obtain ⟨hv, ha, -⟩ := px_vb_lt 15 0 (by omega) hvb
      split at e
      · rename_i hc
        cases e
        exact ⟨hv, px_ns_ok _ _ hc.1, ha⟩
      · cases e
  · cases e
theorem px_all_ar {c : Nat → Int32} {l : Nat} {o : Int32} : ∀ (f p m : Nat) (L : px_L), (px_all c l o f p).1[m]? = some L → L.1 < 15 ∧ L.2.2.length = (px_ar o L.1).toNatClampNeg ∧ px_ar o L.1 ≠ -1
  | 0, p, m, L, e => by
    rw [px_all] at e
    split at e <;> cases e
  | f + 1, p, m, L, e => by
    rw [px_all] at e
    split at e
    · cases e
    · cases hL : (px_ln c l o p).1 with
      | none =>
        rw [hL] at e
        cases e
      | some L2 =>
        rw [hL] at e
        cases m with
        | zero =>
          cases e
          exact px_ln_ar hL
        | succ m => exact px_all_ar f _ m L e
theorem px_all_80 {c : Nat → Int32} {l : Nat} {o : Int32} : ∀ (f p : Nat), (px_all c l o f p).1.length ≤ f
  | 0, p => by
    rw [px_all]
    split <;> exact Nat.le_refl _
  | f + 1, p => by
    rw [px_all]
    split
    · exact Nat.zero_le _
    · cases hL : (px_ln c l o p).1 with
      | none => exact Nat.zero_le _
      | some L2 =>
        simp only [List.length_cons]
        have := px_all_80 (c := c) (l := l) (o := o) f (px_ln c l o p).2
        omega
end SX8
