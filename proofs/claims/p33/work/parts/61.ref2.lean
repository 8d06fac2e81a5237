/-! ===== the reference lays its tree ===== -/
section RF2
variable {h : LH} {d : Nat}
def rf_set (h : LH) (p nx id co : Int32) : LH := w1 (w1 (w1 (w1 h 281 p.toNatClampNeg nx) 282 p.toNatClampNeg id) 283 p.toNatClampNeg ((w1 (w1 h 281 p.toNatClampNeg nx) 282 p.toNatClampNeg id).1 283 nx.toNatClampNeg + 1)) 284 p.toNatClampNeg co
theorem sx_set {p nx : Int32} (hp : vp_in p 8) (hn : vp_in nx 8) (id co : Int32) : tf_Rt (d + 1) 29 [.ref 270, .int p, .int nx, .int id, .int co] h tf_z (rf_set h p nx id co) := fun _ q => en_X9_settles (by decide) (go_X9_settles_0 (by decide) ⟨hp, hp, hn, hp, hp, q⟩)
theorem rf_set_lo {p nx id co : Int32} : (∀ e, ¬ (281 ≤ e ∧ e ≤ 284) → (rf_set h p nx id co).1 e = h.1 e) ∧ (rf_set h p nx id co).2 = h.2 := ⟨fun e he => by unfold rf_set; rw [w1_ne (by omega), w1_ne (by omega), w1_ne (by omega), w1_ne (by omega)], rfl⟩
/-- only the tree's rows have changed -/
def Fl (h g : LH) : Prop := (∀ e, ¬ (281 ≤ e ∧ e ≤ 284) → g.1 e = h.1 e) ∧ g.2 = h.2
theorem Fl.rf : Fl h h := ⟨fun _ _ => rfl, rfl⟩
theorem Fl.tr {g k : LH} (x : Fl h g) (y : Fl g k) : Fl h k := ⟨fun e he => (y.1 e he).trans (x.1 e he), y.2.trans x.2⟩
theorem RM.fl {n k : Nat} {g : LH} (H : RM h n k) (F : g.1 271 = h.1 271) : RM g n k := by
  refine ⟨H.1, by rw [F]; exact H.2.1, by rw [F]; exact H.2.2.1, fun a ha => ?_⟩
  unfold rm
  rw [F]
  exact H.2.2.2 a ha
def lt_z : Nat → Nat → LH → LH
  | 0, _, g => g
  | f + 1, p, g => lt_z f (p + 1) (w1 (w1 (w1 (w1 g 281 p (-1)) 282 p (-1)) 283 p 0) 284 p 0)
theorem lt_z_fl : ∀ (f p : Nat) (g : LH), Fl g (lt_z f p g)
  | 0, _, _ => Fl.rf
  | f + 1, p, g => Fl.tr (g := w1 (w1 (w1 (w1 g 281 p (-1)) 282 p (-1)) 283 p 0) 284 p 0) ⟨fun e he => by rw [w1_ne (by omega), w1_ne (by omega), w1_ne (by omega), w1_ne (by omega)], rfl⟩ (lt_z_fl f (p + 1) _)
def lt_l1 (g : LH) (p : Nat) : LH := if g.1 271 (51 + p) = 1 then rf_set g (nI p) (g.1 271 0) (100 + nI p) (if g.1 271 (58 + p) = 1 then -10000 else 10000) else g
def lt_l : Nat → Nat → LH → LH
  | 0, _, g => g
  | f + 1, p, g => lt_l f (p + 1) (lt_l1 g p)
theorem lt_l1_fl {g : LH} {p : Nat} : Fl g (lt_l1 g p) := by
  unfold lt_l1
  split
  · exact rf_set_lo
  · exact Fl.rf
theorem lt_l_fl : ∀ (f p : Nat) (g : LH), Fl g (lt_l f p g)
  | 0, _, _ => Fl.rf
  | f + 1, p, g => lt_l1_fl.tr (lt_l_fl f (p + 1) _)
def lt_a1 (g : LH) (a : Nat) : LH :=
  if rf_hangs g a = true then
    (if g.1 281 (rm g a 0).toNatClampNeg = -1 then (if g.1 281 (rm g a 1).toNatClampNeg = -1 then g else rf_set g (rm g a 0) (rm g a 1) (nI a) (g.1 284 (rm g a 1).toNatClampNeg - rm g a 3))
     else if g.1 281 (rm g a 1).toNatClampNeg = -1 then rf_set g (rm g a 1) (rm g a 0) (nI a) (g.1 284 (rm g a 0).toNatClampNeg + rm g a 3) else g)
  else g
theorem lt_a1_fl {g : LH} {a : Nat} : Fl g (lt_a1 g a) := by
  unfold lt_a1
  split
  · split
    · split
      · exact Fl.rf
      · exact rf_set_lo
    · split
      · exact rf_set_lo
      · exact Fl.rf
  · exact Fl.rf
def lt_a : Nat → Nat → LH → LH
  | 0, _, g => g
  | f + 1, a, g => lt_a f (a + 1) (lt_a1 g a)
theorem lt_a_fl : ∀ (f a : Nat) (g : LH), Fl g (lt_a f a g)
  | 0, _, _ => Fl.rf
  | f + 1, a, g => lt_a1_fl.tr (lt_a_fl f (a + 1) _)
def lt_r (k : Nat) : Nat → LH → LH
  | 0, g => g
  | f + 1, g => lt_r k f (lt_a k 0 g)
theorem lt_r_fl {k : Nat} : ∀ (f : Nat) (g : LH), Fl g (lt_r k f g)
  | 0, _ => Fl.rf
  | f + 1, g => (lt_a_fl k 0 g).tr (lt_r_fl f _)
def lt (h : LH) (n k : Nat) : LH := lt_r k n (lt_l n 0 (lt_z 8 0 h))
theorem lt_fl {n k : Nat} : Fl h (lt h n k) := ((lt_z_fl 8 0 h).tr (lt_l_fl n 0 _)).tr (lt_r_fl n _)
theorem Fl.r {g : LH} (F : Fl h g) : g.1 271 = h.1 271 := F.1 271 (by decide)
theorem sx_lt_a1 {n k : Nat} {g : LH} (H : RM g n k) {a : Nat} (ha : a < k) {x1 : Int32} {x3 x4 : Value} {Q : tf_Q} (q : ∀ x3 x4 : Value, lx_X9_laysTree 298 (tf_Cd 298 (d + 2)) Q 122 [.ref 270, .int x1, .int (nI (a + 1)), x3, x4] [] (lt_a1 g a)) : lx_X9_laysTree 298 (tf_Cd 298 (d + 2)) Q 122 [.ref 270, .int x1, .int (nI a), x3, x4] [] g := by
  have hk := H.1
  have h14 : a < 14 := by omega
  obtain ⟨v0, v1⟩ := H.fr ha
  have e251 : ∀ x3 x4 : Int32, lx_X9_laysTree 298 (tf_Cd 298 (d + 2)) Q 251 [.ref 270, .int x1, .int (nI a), .int x3, .int x4] [] (lt_a1 g a) := fun x3 x4 => go_X9_laysTree_251 (by decide) (by rw [nI_1]; exact q _ _)
  unfold lt_a1 at e251
  have s0 := sx_of (h := g) (d := d + 1) (x := nI a) (y := 0) a 0 rfl rfl h14 (by omega)
  have s1 := sx_of (h := g) (d := d + 1) (x := nI a) (y := 1) a 1 rfl rfl h14 (by omega)
  have s3 := sx_of (h := g) (d := d + 1) (x := nI a) (y := 3) a 3 rfl rfl h14 (by omega)
  have sh := sx_hangs (h := g) (d := d) (x := nI a) a rfl h14
  generalize rm g a 0 = x at *
  generalize rm g a 1 = y at *
  generalize rm g a 3 = c at *
  refine go_X9_laysTree_122 (by decide) ⟨fun z => ?_, fun _ => s0 _ (go_X9_laysTree_138 (by decide) (s1 _ (go_X9_laysTree_145 (by decide) (sh _ (go_X9_laysTree_152 (by decide) ⟨fun b => ?_, fun b => ⟨v0, fun c1 => ?_, fun c1 => ⟨v1, fun c2 => ⟨v0, ?_⟩, fun c2 => ?_⟩⟩⟩)))))⟩
  · have z2 : g.1 271 1 ≤ nI a := z
    rw [H.2.2.1] at z2
    exact absurd z2 (nI_ge (by omega) (by omega))
  · have b' := b
    rw [bI_0] at b'
    rw [b'] at e251
    exact go_X9_laysTree_200 (by decide) (sh _ (go_X9_laysTree_205 (by decide) ⟨fun _ => e251 _ _, fun z => absurd b z⟩))
  · have b' := b
    rw [bI_0, Bool.not_eq_false] at b'
    rw [if_pos b', if_pos c1] at e251
    refine go_X9_laysTree_200 (by decide) (sh _ (go_X9_laysTree_205 (by decide) ⟨fun z => absurd z b, fun _ => ⟨v1, fun c2 => ?_, fun c2 => ⟨v0, fun _ => ⟨v1, ?_⟩, fun z => absurd c1 z⟩⟩⟩))
    · rw [if_pos c2] at e251
      exact e251 _ _
    · rw [if_neg c2] at e251
      exact s3 _ (go_X9_laysTree_247 (by decide) (sx_set (d := d + 1) v0 v1 _ _ _ (e251 _ _)))
  · have b' := b
    rw [bI_0, Bool.not_eq_false] at b'
    rw [if_pos b', if_neg c1, if_pos c2] at e251
    exact s3 _ (go_X9_laysTree_193 (by decide) (sx_set (d := d + 1) v1 v0 _ _ _ (go_X9_laysTree_197 (by decide) (e251 _ _))))
  · have b' := b
    rw [bI_0, Bool.not_eq_false] at b'
    rw [if_pos b', if_neg c1, if_neg c2] at e251
    exact go_X9_laysTree_200 (by decide) (sh _ (go_X9_laysTree_205 (by decide) ⟨fun z => absurd z b, fun _ => ⟨v1, fun z => absurd z c2, fun _ => ⟨v0, fun z => absurd z c1, fun _ => e251 _ _⟩⟩⟩))
theorem sx_lt_aL {n k : Nat} {x1 : Int32} {Q : tf_Q} : ∀ (f a : Nat) (g : LH) (x3 x4 : Value), RM g n k → a + f = k → (∀ (x2 : Int32) (x3 x4 : Value), lx_X9_laysTree 298 (tf_Cd 298 (d + 2)) Q 257 [.ref 270, .int x1, .int x2, x3, x4] [] (lt_a f a g)) → lx_X9_laysTree 298 (tf_Cd 298 (d + 2)) Q 122 [.ref 270, .int x1, .int (nI a), x3, x4] [] g
  | 0, a, g, x3, x4, H, ha, q => by
    have hk := H.1
    refine go_X9_laysTree_122 (by decide) ⟨fun _ => q _ _ _, fun z => absurd ?_ z⟩
    show g.1 271 1 ≤ nI a
    rw [H.2.2.1]
    exact nI_le (by omega) (by omega)
  | f + 1, a, g, x3, x4, H, ha, q => sx_lt_a1 H (by omega) (fun x3 x4 => sx_lt_aL f (a + 1) (lt_a1 g a) x3 x4 (H.fl lt_a1_fl.r) (by omega) q)
theorem sx_lt_rL {n k : Nat} {Q : tf_Q} : ∀ (f r : Nat) (g : LH) (x2 x3 x4 : Value), RM g n k → r + f = n → Q tf_z (lt_r k f g) → lx_X9_laysTree 298 (tf_Cd 298 (d + 2)) Q 110 [.ref 270, .int (nI r), x2, x3, x4] [] g
  | 0, r, g, x2, x3, x4, H, hr, q => by
    have hk := H.1
    refine go_X9_laysTree_110 (by decide) ⟨fun _ => go_X9_laysTree_263 (by decide) q, fun z => absurd ?_ z⟩
    show g.1 271 0 ≤ nI r
    rw [H.2.1]
    exact nI_le (by omega) (by omega)
  | f + 1, r, g, x2, x3, x4, H, hr, q => by
    have hk := H.1
    refine go_X9_laysTree_110 (by decide) ⟨fun z => ?_, fun _ => sx_lt_aL k 0 g _ _ H (by omega) (fun x2 x3 x4 => go_X9_laysTree_257 (by decide) ?_)⟩
    · have z2 : g.1 271 0 ≤ nI r := z
      rw [H.2.1] at z2
      exact absurd z2 (nI_ge (by omega) (by omega))
    · rw [nI_1]
      exact sx_lt_rL f (r + 1) (lt_a k 0 g) _ _ _ (H.fl (lt_a_fl k 0 g).r) (by omega) q
theorem sx_lt_lL {n k : Nat} {Q : tf_Q} : ∀ (f p : Nat) (g : LH), RM g n k → p + f = n → (∀ x1 : Int32, lx_X9_laysTree 298 (tf_Cd 298 (d + 2)) Q 108 [.ref 270, .int x1, tf_z, tf_z, tf_z] [] (lt_l f p g)) → lx_X9_laysTree 298 (tf_Cd 298 (d + 2)) Q 44 [.ref 270, .int (nI p), tf_z, tf_z, tf_z] [] g
  | 0, p, g, H, hp, q => by
    have hk := H.1
    refine go_X9_laysTree_44 (by decide) ⟨fun _ => q _, fun z => absurd ?_ z⟩
    show g.1 271 0 ≤ nI p
    rw [H.2.1]
    exact nI_le (by omega) (by omega)
  | f + 1, p, g, H, hp, q => by
    have hk := H.1
    have i51 : (51 : Int32) + nI p = nI (51 + p) := nI_add 51 p
    have i58 : (58 : Int32) + nI p = nI (58 + p) := nI_add 58 p
    have e102 : lx_X9_laysTree 298 (tf_Cd 298 (d + 2)) Q 102 [.ref 270, .int (nI p), tf_z, tf_z, tf_z] [] (lt_l1 g p) := go_X9_laysTree_102 (by decide) (by rw [nI_1]; exact sx_lt_lL f (p + 1) (lt_l1 g p) (H.fl lt_l1_fl.r) (by omega) q)
    unfold lt_l1 at e102
    refine go_X9_laysTree_44 (by decide) ⟨fun z => ?_, fun _ => ?_⟩
    · have z2 : g.1 271 0 ≤ nI p := z
      rw [H.2.1] at z2
      exact absurd z2 (nI_ge (by omega) (by omega))
    · rw [i51, nI_clamp (by omega)]
      refine ⟨vi_of (by omega) (by omega), fun c => ?_, fun c => by rw [if_neg c] at e102; exact e102⟩
      rw [if_pos c] at e102
      have vr : vp_in (g.1 271 0) 8 := by rw [H.2.1]; exact vi_of (by omega) (by omega)
      have vp : vp_in (nI p) 8 := vi_of (by omega) (by omega)
      refine sx_root (d := d + 1) _ (go_X9_laysTree_73 (by decide) ?_)
      rw [i58, nI_clamp (by omega)]
      refine ⟨vi_of (by omega) (by omega), fun c2 => go_X9_laysTree_99 (by decide) (sx_set (d := d + 1) vp vr _ _ _ ?_), fun c2 => go_X9_laysTree_96 (by decide) (go_X9_laysTree_99 (by decide) (sx_set (d := d + 1) vp vr _ _ _ ?_))⟩
      · rw [if_pos c2] at e102
        exact e102
      · rw [if_neg c2] at e102
        exact e102
theorem sx_lt_zL {Q : tf_Q} : ∀ (f p : Nat) (g : LH), p + f = 8 → (∀ x1 : Int32, lx_X9_laysTree 298 (tf_Cd 298 d) Q 42 [.ref 270, .int x1, tf_z, tf_z, tf_z] [] (lt_z f p g)) → lx_X9_laysTree 298 (tf_Cd 298 d) Q 2 [.ref 270, .int (nI p), tf_z, tf_z, tf_z] [] g
  | 0, p, g, hp, q => go_X9_laysTree_2 (by decide) ⟨fun _ => q _, fun z => absurd (nI_lt (a := 7) (by omega) (by omega)) z⟩
  | f + 1, p, g, hp, q => by
    have hcl : (nI p).toNatClampNeg = p := nI_clamp (by omega)
    have v : vp_in (nI p) 8 := vi_of (by omega) (by omega)
    refine go_X9_laysTree_2 (by decide) ⟨fun z => absurd z (nI_nlt (b := p) (a := 7) (by omega) (by omega)), fun _ => ⟨v, v, v, v, ?_⟩⟩
    rw [hcl, nI_1]
    exact sx_lt_zL f (p + 1) (w1 (w1 (w1 (w1 g 281 p (-1)) 282 p (-1)) 283 p 0) 284 p 0) (by omega) q
theorem sx_lt {n k : Nat} (H : RM h n k) : tf_Rt (d + 3) 30 [.ref 270] h tf_z (lt h n k) := by
  intro Q q
  have Hz : RM (lt_z 8 0 h) n k := H.fl (lt_z_fl 8 0 h).r
  exact en_X9_laysTree (by decide) (go_X9_laysTree_0 (by decide) (sx_lt_zL 8 0 h (by omega) (fun x1 => go_X9_laysTree_42 (by decide) (sx_lt_lL n 0 _ Hz (by omega) (fun x1 => go_X9_laysTree_108 (by decide) (sx_lt_rL n 0 _ _ _ _ (Hz.fl (lt_l_fl n 0 _).r) (by omega) q))))))
end RF2
