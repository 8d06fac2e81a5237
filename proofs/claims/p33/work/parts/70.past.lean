/-! ===== the reference keeps what is past ===== -/
section RP
variable {g h : LH} {n k d : Nat}
def ip_s : Nat → LH → LH
  | 0, g => g
  | f + 1, g => ip_s f (w1 g 271 (8 + (f + 3)) (g.1 271 (8 + f)))
def ip_3 (g : LH) (x y z : Int32) : LH := w1 (w1 (w1 g 271 8 x) 271 9 y) 271 10 z
def ip_4 (g : LH) : LH := w1 g 271 7 (rf_le 12 (g.1 271 7 + 1))
def ip_5 (g : LH) : LH := w1 g 271 3 (g.1 271 3 + 1)
def ip_6 (g : LH) (z : Int32) : LH := w1 g 271 4 (g.1 271 4 + (if z = 0 then 1 else 0))
def ip (g : LH) (x y z : Int32) : LH := w1 (ip_6 (ip_5 (ip_4 (ip_3 (ip_s 33 g) x y z))) z) 271 6 x
/-- of the reference only what is past has changed -/
def Fp (h g : LH) : Prop := (∀ e, e ≠ 271 → g.1 e = h.1 e) ∧ g.2 = h.2 ∧ ∀ i, i < 3 ∨ 44 ≤ i → g.1 271 i = h.1 271 i
theorem Fp.rf : Fp g g := ⟨fun _ _ => rfl, rfl, fun _ _ => rfl⟩
theorem Fp.tr {a b e : LH} (x : Fp a b) (y : Fp b e) : Fp a e := ⟨fun e he => (y.1 e he).trans (x.1 e he), y.2.1.trans x.2.1, fun i hi => (y.2.2 i hi).trans (x.2.2 i hi)⟩
theorem Fp.w {i : Nat} {v : Int32} (F : Fp h g) (hi : 3 ≤ i ∧ i < 44) : Fp h (w1 g 271 i v) := ⟨fun e he => by rw [w1_ne he]; exact F.1 e he, F.2.1, fun j hj => by rw [w1_at (by omega)]; exact F.2.2 j hj⟩
theorem ip_s_fp : ∀ (f : Nat) (g : LH), f ≤ 33 → Fp g (ip_s f g)
  | 0, _, _ => Fp.rf
  | f + 1, g, hf => (Fp.rf.w (g := g) (by omega)).tr (ip_s_fp f _ (by omega))
theorem ip_fp {x y z : Int32} : Fp g (ip g x y z) := by
  unfold ip ip_6 ip_5 ip_4 ip_3
  exact (((((((ip_s_fp 33 g (by omega)).w (by omega)).w (by omega)).w (by omega)).w (by omega)).w (by omega)).w (by omega)).w (by omega)
theorem sx_ipL {x y z : Int32} {Q : tf_Q} : ∀ (f : Nat) (g : LH) (x4 : Int32), f ≤ 33 → x4 = (if f = 0 then 2 else nI (f + 2)) → (∀ x4 : Int32, lx_X9_isPast 298 (tf_Cd 298 d) Q 38 [.ref 270, .int x, .int y, .int z, .int x4] [] (ip_s f g)) → lx_X9_isPast 298 (tf_Cd 298 d) Q 4 [.ref 270, .int x, .int y, .int z, .int x4] [] g
  | 0, g, x4, hf, e, q => by
    rw [e]
    exact go_X9_isPast_4 (by decide) ⟨fun _ => q _, fun c => absurd (by decide) c⟩
  | f + 1, g, x4, hf, e, q => by
    have e2 : x4 = nI (f + 3) := by rw [e, if_neg (by omega)]
    rw [e2]
    have i1 : (8 : Int32) + nI (f + 3) = nI (8 + (f + 3)) := nI_add 8 (f + 3)
    have i2 : nI (8 + (f + 3)) - 3 = nI (8 + f) := by
      rw [show (3 : Int32) = nI 3 from rfl, nI_sub (by omega)]
      congr 1
    have i3 : nI (f + 3) + (-1) = (if f = 0 then 2 else nI (f + 2)) := by
      rw [← Int32.sub_eq_add_neg, nI_pred]
      by_cases h0 : f = 0
      · rw [if_pos h0, h0]
        rfl
      · rw [if_neg h0]
    refine go_X9_isPast_4 (by decide) ⟨fun c => absurd c (nI_nlt (b := 3) (by omega) (by omega)), fun _ => ?_⟩
    rw [i1, i2, nI_clamp (by omega), nI_clamp (by omega)]
    exact ⟨vi_of (by omega) (by omega), vi_of (by omega) (by omega), sx_ipL f (w1 g 271 (8 + (f + 3)) (g.1 271 (8 + f))) _ (by omega) i3 q⟩
theorem sx_ip (x y z : Int32) : tf_Rt (d + 2) 48 [.ref 270, .int x, .int y, .int z] g tf_z (ip g x y z) := by
  intro Q q
  have K : tf_K 271 = 8 := by decide +kernel
  have N : tf_N 271 = 865 := by decide +kernel
  unfold ip at q
  refine en_X9_isPast (by decide) (go_X9_isPast_0 (by decide) (sx_ipL 33 g 35 (by omega) rfl (fun x4 => go_X9_isPast_38 (by decide) ?_)))
  generalize ip_s 33 g = g0 at q
  refine sx_lesser (d := d) _ _ _ (go_X9_isPast_82 (by decide) K (ny0 := 865) N (by decide) ⟨vi_of (j := 7) (m := 865) (by omega) (by omega), fun c => ?_, fun c => ?_⟩)
  · refine go_X9_isPast_109 (by decide) K (ny0 := 865) N (by decide) ⟨vi_of (j := 4) (m := 865) (by omega) (by omega), ?_⟩
    unfold ip_6 at q
    rw [if_pos c] at q
    exact q
  · refine go_X9_isPast_108 (by decide) K (ny0 := 865) N (by decide) (go_X9_isPast_109 (by decide) K (ny0 := 865) N (by decide) ⟨vi_of (j := 4) (m := 865) (by omega) (by omega), ?_⟩)
    unfold ip_6 at q
    rw [if_neg c] at q
    exact q
end RP
