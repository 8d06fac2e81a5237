/-! ===== the reference's flows along a cycle ===== -/
section RG
variable {g : LH} {n k d c : Nat}
/-- where an edge's flow stands -/
def fx (id : Int32) : Nat := if rf_loan id = true then (65 + id - 100 : Int32).toNatClampNeg else 72 + 7 * id.toNatClampNeg + 4
def IXF (ix : Nat) : Prop := (65 ≤ ix ∧ ix < 72) ∨ ∃ a, a < 14 ∧ ix = 72 + 7 * a + 4
theorem ix65 {p : Nat} : (65 : Int32) + nI (100 + p) - 100 = nI (65 + p) := loan_ix (c := 65)
theorem fx_in {id : Int32} (V : VI id) : IXF (fx id) := by
  unfold fx
  rcases V with ⟨a, ha, e⟩ | ⟨p, hp, e⟩
  · rw [e, loan_a ha, if_neg Bool.false_ne_true, nI_clamp (by omega)]
    exact Or.inr ⟨a, ha, rfl⟩
  · rw [e, loan_p hp, if_pos rfl, ix65, nI_clamp (by omega)]
    exact Or.inl ⟨by omega, by omega⟩
def fl1 (g : LH) (dl : Int32) (i : Nat) : LH := w1 g 271 (fx (g.1 285 i)) (g.1 271 (fx (g.1 285 i)) + (if g.1 286 i = 0 then -dl else dl))
def fls (dl : Int32) : Nat → Nat → LH → LH
  | 0, _, g => g
  | f + 1, i, g => fls dl f (i + 1) (fl1 g dl i)
/-- only flows have changed -/
def Fw (h g : LH) : Prop := (∀ e, e ≠ 271 → g.1 e = h.1 e) ∧ g.2 = h.2 ∧ ∀ ix, ¬ IXF ix → g.1 271 ix = h.1 271 ix
theorem Fw.rf : Fw g g := ⟨fun _ _ => rfl, rfl, fun _ _ => rfl⟩
theorem Fw.tr {a b e : LH} (x : Fw a b) (y : Fw b e) : Fw a e := ⟨fun e he => (y.1 e he).trans (x.1 e he), y.2.1.trans x.2.1, fun i hi => (y.2.2 i hi).trans (x.2.2 i hi)⟩
theorem fl1_fw {dl : Int32} {i : Nat} (V : VI (g.1 285 i)) : Fw g (fl1 g dl i) := by
  unfold fl1
  refine ⟨fun e he => w1_ne he, rfl, fun ix hx => w1_at (fun z => hx ?_)⟩
  rw [z]
  exact fx_in V
theorem CY.fw {g2 : LH} (Y : CY g c) (F : Fw g g2) : CY g2 c := ⟨by rw [F.1 270 (by decide)]; exact Y.1, Y.2.1, fun i hi => by rw [F.1 285 (by decide)]; exact Y.2.2 i hi⟩
theorem fls_fw {dl : Int32} : ∀ (f i : Nat) (g : LH), CY g c → i + f = c → Fw g (fls dl f i g)
  | 0, _, _, _, _ => Fw.rf
  | f + 1, i, g, Y, hi => by
    have F1 := fl1_fw (dl := dl) (Y.2.2 i (by omega))
    exact F1.tr (fls_fw f (i + 1) _ (Y.fw F1) (by omega))
theorem sx_flsL {dl : Int32} {Q : tf_Q} : ∀ (f i : Nat) (g : LH) (x3 x4 : Value), CY g c → i + f = c → Q tf_z (fls dl f i g) → lx_X9_flows 298 (tf_Cd 298 (d + 1)) Q 2 [.ref 270, .int dl, .int (nI i), x3, x4] [] g
  | 0, i, g, x3, x4, Y, hi, q => by
    have hc := Y.2.1
    refine go_X9_flows_2 (by decide) ⟨fun _ => go_X9_flows_76 (by decide) q, fun z => absurd ?_ z⟩
    rw [Y.1]
    exact nI_le (by omega) (by omega)
  | f + 1, i, g, x3, x4, Y, hi, q => by
    have hc := Y.2.1
    have hcl : (nI i).toNatClampNeg = i := nI_clamp (by omega)
    have v16 : vp_in (nI i) 16 := vi_of (by omega) (by omega)
    have V := Y.2.2 i (by omega)
    have F1 := fl1_fw (dl := dl) V
    have K : tf_K 271 = 8 := by decide +kernel
    have N : tf_N 271 = 865 := by decide +kernel
    rw [fls] at q
    have e43 : ∀ (y0 : Int32) (x3 : Int32) (x4 : Value), y0 = nI (fx (g.1 285 i)) → lx_X9_flows 298 (tf_Cd 298 (d + 1)) Q 43 [.ref 270, .int dl, .int (nI i), .int x3, x4] [.int y0] g := by
      intro y0 x3 x4 ey
      have hb : fx (g.1 285 i) < 865 := by
        rcases fx_in V with z | ⟨a, ha, z⟩ <;> omega
      have vy : vp_in y0 865 := by rw [ey]; exact vi_of hb (by omega)
      have cy : y0.toNatClampNeg = fx (g.1 285 i) := by rw [ey]; exact nI_clamp (by omega)
      have e68 : ∀ v : Int32, v = (if g.1 286 i = 0 then -dl else dl) → lx_X9_flows 298 (tf_Cd 298 (d + 1)) Q 68 [.ref 270, .int dl, .int (nI i), .int x3, .int y0] [.int v, .int (g.1 271 (fx (g.1 285 i))), .int y0, .ref 271] g := by
        intro v ev
        refine go_X9_flows_68 (by decide) K (ny0 := 865) N (by decide) ⟨vy, ?_⟩
        rw [cy, nI_1, ev]
        exact sx_flsL f (i + 1) (fl1 g dl i) _ _ (Y.fw F1) (by omega) q
      refine go_X9_flows_43 (by decide) ⟨vy, v16, ?_⟩
      rw [hcl, cy]
      exact ⟨fun z => go_X9_flows_66 (by decide) K (ny0 := 865) N (by decide) (e68 _ (by rw [if_pos z])), fun z => e68 _ (by rw [if_neg z])⟩
    refine go_X9_flows_2 (by decide) ⟨fun z => ?_, fun _ => ⟨v16, ?_⟩⟩
    · rw [Y.1] at z
      exact absurd z (nI_ge (by omega) (by omega))
    · rw [hcl]
      refine sx_isLoan (d := d) _ _ (go_X9_flows_21 (by decide) ⟨fun b => go_X9_flows_34 (by decide) (e43 _ _ _ ?_), fun b => e43 _ _ _ ?_⟩)
      · rw [bI_0] at b
        rcases V with ⟨a, ha, e⟩ | ⟨p, hp, e⟩
        · unfold fx
          rw [b, if_neg Bool.false_ne_true, e, nI_clamp (by omega)]
          exact rm_ix (a := a) (w := 4)
        · rw [e, loan_p hp] at b
          cases b
      · rw [bI_0, Bool.not_eq_false] at b
        rcases V with ⟨a, ha, e⟩ | ⟨p, hp, e⟩
        · rw [e, loan_a ha] at b
          cases b
        · unfold fx
          rw [if_pos b, e, ix65, nI_clamp (by omega)]
theorem sx_fls (Y : CY g c) (dl : Int32) : tf_Rt (d + 2) 46 [.ref 270, .int dl] g tf_z (fls dl c 0 g) := fun _ q => en_X9_flows (by decide) (go_X9_flows_0 (by decide) (sx_flsL c 0 g _ _ Y (by omega) q))
/-- an edge goes out of the tree -/
def go_o (g : LH) (id : Int32) : LH := if rf_loan id = true then w1 g 271 (51 + id - 100 : Int32).toNatClampNeg 0 else rp g id.toNatClampNeg 5 (if rm g id.toNatClampNeg 4 = 0 then 0 else 1)
theorem sx_go_o {id : Int32} (V : VI id) : tf_Rt (d + 2) 47 [.ref 270, .int id] g tf_z (go_o g id) := by
  intro Q q
  unfold go_o at q
  refine en_X9_goesOut (by decide) (go_X9_goesOut_0 (by decide) (sx_isLoan (d := d) _ _ (go_X9_goesOut_4 (by decide) ⟨fun b => ?_, fun b => ?_⟩)))
  · rw [bI_0] at b
    rw [b, if_neg Bool.false_ne_true] at q
    rcases V with ⟨a, ha, e⟩ | ⟨p, hp, e⟩
    · have hca : id.toNatClampNeg = a := by rw [e]; exact nI_clamp (by omega)
      rw [hca] at q
      refine go_X9_goesOut_23 (by decide) (sx_of (d := d) a 4 e rfl ha (by omega) _ (go_X9_goesOut_32 (by decide) ⟨fun z => go_X9_goesOut_40 (by decide) (sx_puts (d := d) a 5 _ e rfl ha (by omega) _ (go_X9_goesOut_43 (by decide) ?_)), fun z => go_X9_goesOut_39 (by decide) (go_X9_goesOut_40 (by decide) (sx_puts (d := d) a 5 _ e rfl ha (by omega) _ (go_X9_goesOut_43 (by decide) ?_)))⟩))
      · rw [if_pos z] at q
        exact q
      · rw [if_neg z] at q
        exact q
    · rw [e, loan_p hp] at b
      cases b
  · rw [bI_0, Bool.not_eq_false] at b
    rw [if_pos b] at q
    rcases V with ⟨a, ha, e⟩ | ⟨p, hp, e⟩
    · rw [e, loan_a ha] at b
      cases b
    · have hix : (51 : Int32) + id - 100 = nI (51 + p) := by rw [e]; exact loan_ix (c := 51)
      rw [hix] at q ⊢
      exact ⟨vi_of (by omega) (by omega), go_X9_goesOut_43 (by decide) q⟩
end RG
