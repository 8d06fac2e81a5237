/-! ===== the reference's line of orders, whole ===== -/
def fl3 (v : Nat) : Int32 := if v = 14 ∨ v = 6 ∨ v = 7 ∨ v = 8 then 1 else 0
def fl4 (v : Nat) : Int32 := if v = 9 ∨ v = 5 ∨ v = 11 then 1 else 0
def fl5 (v : Nat) : Int32 := if v = 12 ∨ v = 13 ∨ v = 2 then 1 else 0
section RXA
variable {h g : LH} {d : Nat} {c : Nat → Int32}
theorem or_115 {L o b v k : Nat} {bad : Int32} {x3 x4 x5 : Int32} (hL : L ≤ 400) (hv : v < 15) (ho : o < 80) (S : SO h (w1 (w1 g 275 1 0) 275 2 0) c L o b bad v []) (h9 : v = 9 → x4 ≠ 0) (h10 : v = 10 → x3 = 0 ∧ x4 = 0) (hk : k = if x3 = 0 then (if x4 = 0 then (if v = 10 then 2 else 1) else 0) + 1 else 0) {Q : tf_Q} (q : ∀ x g2, LXo h g2 c L o v (px_ns c L k b) x bad → Q x g2) : lx_X9_orderLine 298 (tf_Cd 298 (d + 3)) Q 115 [.ref 270, .long (px_W.getD v 0), tf_z, .int x3, .int x4, .int x5, tf_z, tf_z] [] g := by
  have s10 : ∀ v, v < 15 → (lg_cmp (px_W.getD v 0) 495672977012 = 0 ↔ v = 10) := by decide
  have s9 : ∀ v, v < 15 → (lg_cmp (px_W.getD v 0) 482805706612 = 0 ↔ v = 9) := by decide
  have eb : ∀ r, px_ob v ([] : List (Int32 × Nat)).length r bad = px_ob v 0 ([] ++ r) bad := fun r => rfl
  have key : ∀ g1 : LH, SO h g1 c L o b bad v [] → (x3 = 0 → (lg_cmp (px_W.getD v 0) 482805706612 = 0 → tf_Cd 298 (d + 3) 13 [.ref 270, .int 0, .int 1, .int 60] g1 (fun r g => lx_X9_orderLine 298 (tf_Cd 298 (d + 3)) Q 149 [.ref 270, .long (px_W.getD v 0), tf_z, .int x3, .int x4, .int x5, tf_z, tf_z] (r :: []) g)) ∧ (¬ lg_cmp (px_W.getD v 0) 482805706612 = 0 → lx_X9_orderLine 298 (tf_Cd 298 (d + 3)) Q 155 [.ref 270, .long (px_W.getD v 0), tf_z, .int x3, .int x4, .int x5, tf_z, tf_z] [] g1)) ∧ (¬ x3 = 0 → lx_X9_orderLine 298 (tf_Cd 298 (d + 3)) Q 188 [.ref 270, .long (px_W.getD v 0), tf_z, .int x3, .int x4, .int x5, tf_z, tf_z] [] g1) := by
    intro g1 S
    have yes : ∀ g2, x3 = 0 → px_t c L b = 2 → SO h g2 c L o (px_nx c L b) (px_bt (px_num c L b) (px_olo v 0) (px_ohi v 0) b bad) v ([] ++ [(px_num c L b, b)]) → lx_X9_orderLine 298 (tf_Cd 298 (d + 3)) Q 188 [.ref 270, .long (px_W.getD v 0), tf_z, .int x3, .int x4, .int x5, tf_z, tf_z] [] g2 := by
      intro g2 z3 t S2
      rw [if_pos z3] at hk
      rw [hk, px_nsS t] at q
      refine go_X9_orderLine_188 (by decide) (or_193 (bad := bad) hL hv ho S2 (Nat.le_refl _) (fun _ => rfl) (fun r => rfl) h9 h10 ?_)
      by_cases z4 : x4 = 0
      · rw [if_pos ⟨z3, z4⟩]
        rw [if_pos z4] at q
        exact q
      · rw [if_neg (fun y => z4 y.2)]
        rw [if_neg z4] at q
        exact q
    have no : ∀ g2, x3 = 0 → px_t c L b ≠ 2 → FLn h g2 → RD g2 → g2.1 270 23 = nI o → g2.1 270 12 = nI b → lx_X9_orderLine 298 (tf_Cd 298 (d + 3)) Q 192 [.ref 270, .long (px_W.getD v 0), tf_z, .int x3, .int x4, .int x5, tf_z, tf_z] [] g2 := by
      intro g2 z3 t F2 R2 e23 e12
      rw [if_pos z3] at hk
      rw [hk, px_nsF t] at q
      exact go_X9_orderLine_192 (by decide) (or_193N ho F2 R2 e23 e12 q)
    refine ⟨fun z3 => ⟨fun z => ?_, fun z => go_X9_orderLine_155 (by decide) ⟨fun z1 => ?_, fun z1 => go_X9_orderLine_177 (by decide) ?_⟩⟩, fun z3 => go_X9_orderLine_188 (by decide) (or_193 (bad := bad) hL hv ho S (Nat.zero_le _) (fun y => absurd y.1 z3) eb h9 h10 ?_)⟩
    · have v9 := (s9 v hv).mp z
      refine S.takes (d := d) (k := 0) hL rfl (by omega) (by subst v9; rfl) (by subst v9; rfl) _ (fun x g2 p => ?_)
      by_cases t : px_t c L b = 2
      · obtain ⟨rfl, S2⟩ := p.2 t
        exact go_X9_orderLine_149 (by decide) ⟨fun z => absurd z (by decide), fun _ => yes g2 z3 t S2⟩
      · obtain ⟨rfl, F2, R2, e23, e12⟩ := p.1 t
        exact go_X9_orderLine_149 (by decide) ⟨fun _ => no g2 z3 t F2 R2 e23 e12, fun z => absurd rfl z⟩
    · have v10 := (s10 v hv).mp z1
      refine S.takes (d := d) (k := 0) hL rfl (by omega) (by subst v10; rfl) (by subst v10; rfl) _ (fun x g2 p => ?_)
      by_cases t : px_t c L b = 2
      · obtain ⟨rfl, S2⟩ := p.2 t
        exact go_X9_orderLine_171 (by decide) ⟨fun z => absurd z (by decide), fun _ => yes g2 z3 t S2⟩
      · obtain ⟨rfl, F2, R2, e23, e12⟩ := p.1 t
        exact go_X9_orderLine_171 (by decide) ⟨fun _ => no g2 z3 t F2 R2 e23 e12, fun z => absurd rfl z⟩
    · have v9 : ¬ v = 9 := fun y => z ((s9 v hv).mpr y)
      have v10 : ¬ v = 10 := fun y => z1 ((s10 v hv).mpr y)
      refine S.takes (d := d) (k := 0) hL rfl (by omega) (by unfold px_olo; rw [if_neg v9, if_neg (fun y => v10 y.1)]) (by unfold px_ohi; rw [if_neg v9, if_neg v10, if_pos rfl]) _ (fun x g2 p => ?_)
      by_cases t : px_t c L b = 2
      · obtain ⟨rfl, S2⟩ := p.2 t
        exact go_X9_orderLine_185 (by decide) ⟨fun z => absurd z (by decide), fun _ => yes g2 z3 t S2⟩
      · obtain ⟨rfl, F2, R2, e23, e12⟩ := p.1 t
        exact go_X9_orderLine_185 (by decide) ⟨fun _ => no g2 z3 t F2 R2 e23 e12, fun z => absurd rfl z⟩
    · rw [if_neg (fun y => z3 y.1)]
      rw [if_neg z3] at hk
      rw [hk] at q
      exact q
  exact go_X9_orderLine_115 (by decide) (key _ S)
theorem or_0 {v : Nat} (hv : v < 15) (hA : tv_o.getD v 0 ≠ -1) {Q : tf_Q} (q : lx_X9_orderLine 298 (tf_Cd 298 (d + 3)) Q 111 [.ref 270, .long (px_W.getD v 0), tf_z, .int (fl3 v), .int (fl4 v), .int (fl5 v), tf_z, tf_z] [] h) : tf_Cd 298 (d + 4) 19 [.ref 270, .long (px_W.getD v 0)] h Q := by
  have a : ∀ v, v < 15 → tv_o.getD v 0 ≠ -1 → (lg_cmp (px_W.getD v 0) 1668246628 = 0 → fl3 v = 1) ∧ (¬ lg_cmp (px_W.getD v 0) 1668246628 = 0 → px_ru (px_W.getD v 0) = -1 → fl3 v = 0) ∧ (¬ px_ru (px_W.getD v 0) = -1 → fl3 v = 1) := by decide
  have b : ∀ v, v < 15 → (lg_cmp (px_W.getD v 0) 482805706612 = 0 → fl4 v = 1) ∧ (lg_cmp (px_W.getD v 0) 422726034283 = 0 → fl4 v = 1) ∧ (lg_cmp (px_W.getD v 0) 1869636974 = 0 → fl4 v = 1) ∧ (¬ lg_cmp (px_W.getD v 0) 482805706612 = 0 → ¬ lg_cmp (px_W.getD v 0) 422726034283 = 0 → ¬ lg_cmp (px_W.getD v 0) 1869636974 = 0 → fl4 v = 0) := by decide
  have e : ∀ v, v < 15 → (lg_cmp (px_W.getD v 0) 512869295470 = 0 → fl5 v = 1) ∧ (lg_cmp (px_W.getD v 0) 109299962636133 = 0 → fl5 v = 1) ∧ (lg_cmp (px_W.getD v 0) 1734437230 = 0 → fl5 v = 1) ∧ (¬ lg_cmp (px_W.getD v 0) 512869295470 = 0 → ¬ lg_cmp (px_W.getD v 0) 109299962636133 = 0 → ¬ lg_cmp (px_W.getD v 0) 1734437230 = 0 → fl5 v = 0) := by decide
  have f : ∀ v, v < 15 → tv_o.getD v 0 ≠ -1 → fl3 v = 0 → fl4 v = 0 → fl5 v = 0 → lg_cmp (px_W.getD v 0) 495672977012 = 0 := by decide
  obtain ⟨a1, a2, a3⟩ := a v hv hA
  obtain ⟨b1, b2, b3, b4⟩ := b v hv
  obtain ⟨e1, e2, e3, e4⟩ := e v hv
  have f1 := f v hv hA
  have k82 : lx_X9_orderLine 298 (tf_Cd 298 (d + 3)) Q 82 [.ref 270, .long (px_W.getD v 0), tf_z, .int (fl3 v), .int (fl4 v), tf_z, tf_z, tf_z] [.int (fl5 v)] h := go_X9_orderLine_82 (by decide) ⟨fun z3 => ⟨fun z4 => ⟨fun z5 => ⟨fun _ => q, fun z => absurd (f1 z3 z4 z5) z⟩, fun _ => q⟩, fun _ => q⟩, fun _ => q⟩
  have k77 : fl5 v = 1 → lx_X9_orderLine 298 (tf_Cd 298 (d + 3)) Q 77 [.ref 270, .long (px_W.getD v 0), tf_z, .int (fl3 v), .int (fl4 v), tf_z, tf_z, tf_z] [] h := fun z => go_X9_orderLine_77 (by decide) (by rw [z] at k82; exact k82)
  have k51 : lx_X9_orderLine 298 (tf_Cd 298 (d + 3)) Q 51 [.ref 270, .long (px_W.getD v 0), tf_z, .int (fl3 v), tf_z, tf_z, tf_z, tf_z] [.int (fl4 v)] h := go_X9_orderLine_51 (by decide) ⟨fun z => k77 (e1 z), fun z1 => ⟨fun z => k77 (e2 z), fun z2 => ⟨fun z => k77 (e3 z), fun z => go_X9_orderLine_81 (by decide) (by rw [e4 z1 z2 z] at k82; exact k82)⟩⟩⟩
  have k46 : fl4 v = 1 → lx_X9_orderLine 298 (tf_Cd 298 (d + 3)) Q 46 [.ref 270, .long (px_W.getD v 0), tf_z, .int (fl3 v), tf_z, tf_z, tf_z, tf_z] [] h := fun z => go_X9_orderLine_46 (by decide) (by rw [z] at k51; exact k51)
  have k21 : lx_X9_orderLine 298 (tf_Cd 298 (d + 3)) Q 21 [.ref 270, .long (px_W.getD v 0), tf_z, tf_z, tf_z, tf_z, tf_z, tf_z] [.int (fl3 v)] h := go_X9_orderLine_21 (by decide) ⟨fun z => k46 (b1 z), fun z1 => ⟨fun z => k46 (b2 z), fun z2 => ⟨fun z => k46 (b3 z), fun z => go_X9_orderLine_50 (by decide) (by rw [b4 z1 z2 z] at k51; exact k51)⟩⟩⟩
  have k16 : fl3 v = 1 → lx_X9_orderLine 298 (tf_Cd 298 (d + 3)) Q 16 [.ref 270, .long (px_W.getD v 0), tf_z, tf_z, tf_z, tf_z, tf_z, tf_z] [] h := fun z => go_X9_orderLine_16 (by decide) (by rw [z] at k21; exact k21)
  exact en_X9_orderLine (by decide) (go_X9_orderLine_0 (by decide) ⟨fun z => k16 (a1 z), fun z => sx_ruleBy (d := d + 2) _ _ (go_X9_orderLine_12 (by decide) ⟨fun z2 => go_X9_orderLine_20 (by decide) (by rw [a2 z z2] at k21; exact k21), fun z2 => k16 (a3 z2)⟩)⟩)
theorem px_oark : ∀ v, v < 15 → tv_o.getD v 0 ≠ -1 → (tv_o.getD v 0).toNatClampNeg = (if fl3 v = 0 then (if fl4 v = 0 then (if v = 10 then 2 else 1) else 0) + 1 else 0) := by decide
theorem sx_orl {L o b v : Nat} (hL : L ≤ 400) (ec : (fun i => h.1 272 i &&& 255) = c) (P : PB h c L b) (t1 : px_t c L b = 1) (ho : o < 80) (e23 : h.1 270 23 = nI o) (R : RD h) (hv : v < 15) (hA : tv_o.getD v 0 ≠ -1) : tf_Sp (d + 4) 19 [.ref 270, .long (px_W.getD v 0)] h (fun x g => LXo h g c L o v (px_ns c L (tv_o.getD v 0).toNatClampNeg (px_nx c L b)) x (h.1 270 13)) := by
  intro Q q
  refine or_0 hv hA (go_X9_orderLine_111 (by decide) (P.tok (d := d + 1) hL ec (by rw [t1]; decide) _ (fun _ g1 p1 => ?_)))
  obtain ⟨F1, P1⟩ := p1
  have f9 : ∀ v, v < 15 → v = 9 → fl4 v ≠ 0 := by decide
  have f10 : ∀ v, v < 15 → v = 10 → fl3 v = 0 ∧ fl4 v = 0 := by decide
  have R1 : RD g1 := R.same (F1.1 275 (by decide))
  refine or_115 (h := h) (o := o) (bad := h.1 270 13) hL hv ho ⟨F1.ln.tr ((FLn.w (Or.inl (by decide))).tr (FLn.w (Or.inl (by decide)))), fun i hi => ?_, ?_, P1.same (fun i hi => by rw [w1_ne (by decide), w1_ne (by decide)]) rfl, ?_, ?_, ?_, fun j N hj => by cases hj⟩ (f9 v hv) (f10 v hv) (px_oark v hv hA) (fun x g2 p => q x g2 p)
  · by_cases h2 : i = 2
    · rw [h2, w1_eq]
      exact vi_of (j := 0) (by decide) (by decide)
    · rw [w1_at h2]
      by_cases h1 : i = 1
      · rw [h1, w1_eq]
        exact vi_of (j := 0) (by decide) (by decide)
      · rw [w1_at h1]
        exact R1 i hi
  · rw [w1_ne (by decide), w1_ne (by decide), F1.1 272 (by decide)]
    exact ec
  · rw [w1_ne (by decide), w1_ne (by decide), F1.2 23 (by decide) (by decide) (by decide) (by decide)]
    exact e23
  · rw [w1_ne (by decide), w1_ne (by decide), F1.1 280 (by decide)]
  · rw [w1_ne (by decide), w1_ne (by decide), F1.2 13 (by decide) (by decide) (by decide) (by decide)]
theorem orl_no {L b : Nat} {w : Int64} (P : PB h c L b) (R : RD h) (hw : ∀ v, v < 15 → tv_o.getD v 0 ≠ -1 → w ≠ px_W.getD v 0) : tf_Sp (d + 4) 19 [.ref 270, .long w] h (fun x g => FLn h g ∧ RD g ∧ x = .int 0 ∧ g.1 270 12 = nI b) := by
  intro Q q
  have n : ∀ v, v < 15 → tv_o.getD v 0 ≠ -1 → ∀ y : Int64, px_W.getD v 0 = y → ¬ lg_cmp w y = 0 := fun v hv hA y hy z => hw v hv hA (((lg_0 _ _).mp z).trans hy.symm)
  have r : px_ru w = -1 := by
    unfold px_ru
    rw [if_neg (hw 6 (by omega) (by decide)), if_neg (hw 7 (by omega) (by decide)), if_neg (hw 8 (by omega) (by decide))]
  exact en_X9_orderLine (by decide) (go_X9_orderLine_0 (by decide) ⟨fun z => absurd z (n 14 (by omega) (by decide) _ rfl), fun _ => sx_ruleBy (d := d + 2) _ _ (go_X9_orderLine_12 (by decide) ⟨fun _ => go_X9_orderLine_20 (by decide) (go_X9_orderLine_21 (by decide) ⟨fun z => absurd z (n 9 (by omega) (by decide) _ rfl), fun _ => ⟨fun z => absurd z (n 5 (by omega) (by decide) _ rfl), fun _ => ⟨fun z => absurd z (n 11 (by omega) (by decide) _ rfl), fun _ => go_X9_orderLine_50 (by decide) (go_X9_orderLine_51 (by decide) ⟨fun z => absurd z (n 12 (by omega) (by decide) _ rfl), fun _ => ⟨fun z => absurd z (n 13 (by omega) (by decide) _ rfl), fun _ => ⟨fun z => absurd z (n 2 (by omega) (by decide) _ rfl), fun _ => go_X9_orderLine_81 (by decide) (go_X9_orderLine_82 (by decide) ⟨fun _ => ⟨fun _ => ⟨fun _ => ⟨fun z => absurd z (n 10 (by omega) (by decide) _ rfl), fun _ => sx_fails (d := d + 2) _ (go_X9_orderLine_110 (by decide) ⟨rfl, q _ _ ⟨FLn.w (Or.inr ⟨rfl, by decide⟩), R.same (w1_ne (by decide)), rfl, w1_eq.trans P.2.2.1⟩⟩)⟩, fun z => absurd rfl z⟩, fun z => absurd rfl z⟩, fun z => absurd rfl z⟩)⟩⟩⟩)⟩⟩⟩), fun z => absurd r z⟩)⟩)
end RXA
