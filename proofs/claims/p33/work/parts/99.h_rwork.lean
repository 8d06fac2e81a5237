/-! ===== the reference: orders ===== -/
section RWK
variable {h g : LH} {d M n k : Nat}
/-- the numbers of orders -/
def NBo (h : LH) (o : Nat) : Prop := ∀ i, i < o → ∀ j, j < 3 → vp_in (h.1 280 (4 * i + j)) 100
theorem NBo.same {o : Nat} (N : NBo h o) (e : g.1 280 = h.1 280) : NBo g o := fun i hi j hj => by rw [e]; exact N i hi j hj
/-- orders are being read -/
def OPr (h g : LH) (L r o : Nat) : Prop := FLn h g ∧ RD g ∧ g.1 270 23 = nI o ∧ NBo g o ∧ ∃ b2 r2, r ≤ b2 ∧ TX g L b2 r2
theorem ot_takes {L r o k lo hi : Nat} {x yl yh : Int32} (P : OPr h g L r o) (hk : k < 4) (hx : x = nI k) (hl : lo ≤ hi) (hh : hi ≤ 99) (el : yl = nI lo) (eh : yh = nI hi) : tf_Sp (d + 3) 13 [.ref 270, .int x, .int yl, .int yh] g (fun v g2 => (v = .int 0 ∨ v = .int 1) ∧ OPr h g2 L r o) := by
  subst el
  subst eh
  obtain ⟨F, R, e23, N, b2, r2, hb, T⟩ := P
  refine (sp_takes (d := d) T hk hx).mp (fun v g2 p => ?_)
  obtain ⟨F2, p⟩ := p
  have e2 : g2.1 270 23 = nI o := (F2.2.1 23 (by decide) (by decide) (by decide) (by decide) (by decide) (by decide)).trans e23
  have N2 : NBo g2 o := N.same (F2.1 280 (by decide) (by decide))
  rcases p with ⟨rfl, T2, e5⟩ | ⟨rfl, ⟨b3, r3, hb3, T3⟩, o5, rg, -⟩
  · exact ⟨Or.inl rfl, F.tr F2.tb.ln, R.same e5, e2, N2, b2, r2, hb, T2⟩
  · obtain ⟨m, -, hm, em⟩ := rf_nat hl (by omega) rg
    have := T.2.2.2.2.1
    exact ⟨Or.inr rfl, F.tr F2.tb.ln, R.k o5 (by rw [em]; exact vi_of (by omega) (by omega)), e2, N2, b3, r3, by omega, T3⟩
theorem OPr.tok {L r o : Nat} (P : OPr h g L r o) : tf_Sp (d + 2) 10 [.ref 270] g (fun _ g2 => OPr h g2 L r o) := by
  obtain ⟨F, R, e23, N, b2, r2, hb, T⟩ := P
  refine (T.tok (d := d)).mp (fun _ g2 p => ?_)
  obtain ⟨F2, b3, r3, hb3, T3⟩ := p
  have := T.2.2.2.2.1
  exact ⟨F.tr F2.ln, R.same (F2.1 275 (by decide)), (F2.2 23 (by decide) (by decide) (by decide) (by decide)).trans e23, N.same (F2.1 280 (by decide)), b3, r3, by omega, T3⟩
/-- a long word's number -/
def BGw (w : Int64) : Prop := 2 ^ 24 ≤ w.toBitVec.toNat
theorem bg_c {w c : Int64} (hc : BGw c) (e : lg_cmp w c = 0) : BGw w := by rw [(lg_cmp_eq w c).mp e]; exact hc
theorem sp_rbw (w : Int64) : tf_Sp (d + 1) 17 [.long w] h (fun v g => g = h ∧ ∃ x, v = .int x ∧ (x ≠ -1 → BGw w)) := fun Q q => en_X9_ruleBy (by decide) (go_X9_ruleBy_0 (by decide) ⟨fun c => go_X9_ruleBy_37 (by decide) (q _ _ ⟨rfl, _, rfl, fun _ => bg_c (by unfold BGw; decide) c⟩), fun _ => go_X9_ruleBy_12 (by decide) ⟨fun c => go_X9_ruleBy_37 (by decide) (q _ _ ⟨rfl, _, rfl, fun _ => bg_c (by unfold BGw; decide) c⟩), fun _ => go_X9_ruleBy_24 (by decide) ⟨fun c => go_X9_ruleBy_37 (by decide) (q _ _ ⟨rfl, _, rfl, fun _ => bg_c (by unfold BGw; decide) c⟩), fun _ => go_X9_ruleBy_36 (by decide) (go_X9_ruleBy_37 (by decide) (q _ _ ⟨rfl, _, rfl, fun z => absurd rfl z⟩))⟩⟩⟩)
/-- an order's line was read -/
def LNo (h g : LH) (L b r o : Nat) (v : Value) : Prop := FLn h g ∧ RD g ∧ (v = .int 0 ∨ (v = .int 1 ∧ b + 4 ≤ r ∧ g.1 270 23 = nI (o + 1) ∧ NBo g (o + 1) ∧ ∃ b2 r2, r ≤ b2 ∧ TX g L b2 r2))
theorem i4k {o j : Nat} : (4 : Int32) * nI o + nI j = nI (4 * o + j) := by
  rw [show (4 : Int32) = nI 4 from rfl, nI_mul, nI_add]
theorem TX.l {L b r c i : Nat} {v : Int64} (T : TX h L b r) (hc : c ≠ 270) : TX (w2 h c i v) L b r := by
  obtain ⟨t1, t2, t3, t4, t5, t6, t7, t8⟩ := T
  have e : (w2 h c i v).2 270 = h.2 270 := by
    show tf_upL h.2 c i v 270 = h.2 270
    unfold tf_upL
    rw [if_neg (fun z => hc z.symm)]
  exact ⟨t1, t2, t3, t4, t5, t6, t7, by rw [e]; exact t8⟩
theorem ol_n {L b r o : Nat} {w : Int64} {x3 x4 x5 x6 : Int32} (hb : b + 4 ≤ r) (ho : o < 80) (h6 : x6 = 0 ∨ x6 = 1) {Q : tf_Q} (q : ∀ v g, LNo h g L b r o v → Q v g) : ∀ (f j : Nat) (g : LH), j + f = 3 → OPr h g L r o → (∀ i, i < j → vp_in (g.1 280 (4 * o + i)) 100) → lx_X9_orderLine 298 (tf_Cd 298 d) Q 293 [.ref 270, .long w, tf_z, .int x3, .int x4, .int x5, .int x6, .int (nI j)] [] g := by
  have n6 : vp_nar .boolean x6 = x6 := by rcases h6 with rfl | rfl <;> rfl
  intro f
  induction f with
  | zero =>
    intro j g hf P z
    obtain ⟨F, R, e23, N, b2, r2, hb2, T⟩ := P
    refine go_X9_orderLine_293 (by decide) ⟨fun _ => go_X9_orderLine_326 (by decide) ⟨n6, ?_⟩, fun c => absurd (show nI 3 ≤ nI j from nI_le (by omega) (by omega)) c⟩
    rw [e23, nI_1]
    refine q _ (w1 g 270 23 (nI (o + 1))) ⟨F.tr (FLn.w (Or.inr ⟨rfl, by decide⟩)), R.same (w1_ne (by decide)), ?_⟩
    rcases h6 with rfl | rfl
    · exact Or.inl rfl
    · refine Or.inr ⟨rfl, hb, w1_eq, fun i hi j2 hj2 => ?_, b2, r2, hb2, T.w (by omega)⟩
      rw [w1_ne (by decide)]
      by_cases hio : i = o
      · rw [hio]
        exact z j2 (by omega)
      · exact N i (by omega) j2 hj2
  | succ f ih =>
    intro j g hf P z
    obtain ⟨F, R, e23, N, b2, r2, hb2, T⟩ := id P
    refine go_X9_orderLine_293 (by decide) ⟨fun c => absurd (show nI 3 ≤ nI j from c) (nI_ge (by omega) (by omega)), fun _ => ?_⟩
    rw [e23, i4k, nI_1, nI_clamp (show 4 * o + j < 2 ^ 31 by omega), nI_clamp (show j < 2 ^ 31 by omega)]
    refine ⟨vi_of (by omega) (by omega), vi_of (by omega) (by omega), ih (j + 1) (w1 g 280 (4 * o + j) (g.1 275 j)) (by omega) ⟨F.tr (FLn.w (Or.inl (by decide))), R.same (w1_ne (by decide)), by rw [w1_ne (by decide)]; exact e23, fun i hi j2 hj2 => by rw [w1_at (by omega)]; exact N i hi j2 hj2, b2, r2, hb2, T.o (by decide)⟩ (fun i hi => ?_)⟩
    by_cases hij : i = j
    · rw [hij, w1_eq]
      exact R j (by omega)
    · rw [w1_at (by omega)]
      exact z i (by omega)
theorem sp_orl {L b r o : Nat} (w : Int64) (T : TX h L b r) (R : RD h) (e23 : h.1 270 23 = nI o) (N : NBo h o) (ho : 5 * o ≤ b) (hw : w = 0 ∨ (h.1 270 9 = 2 ∧ w = h.2 270 11)) : tf_Sp (d + 4) 19 [.ref 270, .long w] h (fun v g => LNo h g L b r o v) := by
  intro Q q
  have big : BGw w → b + 4 ≤ r := by
    intro B
    rcases hw with rfl | ⟨h9, rfl⟩
    · exact absurd B (by unfold BGw; decide)
    · rcases Nat.lt_or_ge r (b + 4) with z | z
      · have := T.2.2.2.2.2.2.2 h9 z
        unfold BGw at B
        omega
      · exact z
  have k278 : b + 4 ≤ r → ∀ (x3 x4 x5 : Int32) (x6 : Int32) (y : Int32) (g : LH), (y = 0 ∨ y = 1) → OPr h g L r o → lx_X9_orderLine 298 (tf_Cd 298 (d + 3)) Q 278 [.ref 270, .long w, tf_z, .int x3, .int x4, .int x5, .int x6, tf_z] [.int y] g := by
    intro hb x3 x4 x5 x6 y g hy P
    have o80 : o < 80 := by
      have := T.1
      have := T.2.2.2.2.2.1
      omega
    obtain ⟨F, R2, e2, N2, b2, r2, hb2, T2⟩ := id P
    refine go_X9_orderLine_278 (by decide) ⟨by rw [e2]; exact vi_of (by omega) (by omega), ?_⟩
    exact ol_n (h := h) hb o80 hy q 3 0 (w2 g 279 (g.1 270 23).toNatClampNeg w) (by omega) ⟨F, R2, e2, N2, b2, r2, hb2, T2.l (by decide)⟩ (fun i hi => absurd hi (by omega))
  have k247 : b + 4 ≤ r → ∀ (x3 x4 x5 : Int32) (x6 : Int32) (y : Int32) (g : LH), (y = 0 ∨ y = 1) → OPr h g L r o → lx_X9_orderLine 298 (tf_Cd 298 (d + 3)) Q 247 [.ref 270, .long w, tf_z, .int x3, .int x4, .int x5, .int x6, tf_z] [.int y] g := by
    intro hb x3 x4 x5 x6 y g hy P
    have k277 : ∀ g, OPr h g L r o → lx_X9_orderLine 298 (tf_Cd 298 (d + 3)) Q 277 [.ref 270, .long w, tf_z, .int x3, .int x4, .int x5, .int y, tf_z] [] g := fun g P => go_X9_orderLine_277 (by decide) (k278 hb x3 x4 x5 y 0 g (Or.inl rfl) P)
    have k273 : ∀ g, OPr h g L r o → lx_X9_orderLine 298 (tf_Cd 298 (d + 3)) Q 273 [.ref 270, .long w, tf_z, .int x3, .int x4, .int x5, .int y, tf_z] [] g := fun g P => go_X9_orderLine_273 (by decide) (k278 hb x3 x4 x5 y 1 g (Or.inr rfl) P)
    refine go_X9_orderLine_247 (by decide) ⟨fun _ => k277 g P, fun _ => ⟨fun _ => ot_takes (d := d) (k := 2) (lo := 1) (hi := 99) P (by decide) rfl (by omega) (by omega) rfl rfl _ (fun v g2 p => ?_), fun _ => k273 g P⟩⟩
    obtain ⟨rfl | rfl, P2⟩ := p
    · exact go_X9_orderLine_270 (by decide) ⟨fun _ => k277 g2 P2, fun z => absurd rfl z⟩
    · exact go_X9_orderLine_270 (by decide) ⟨fun z => absurd z (by decide), fun _ => k273 g2 P2⟩
  have k193 : b + 4 ≤ r → ∀ (x3 x4 x5 : Int32) (y : Int32) (g : LH), (y = 0 ∨ y = 1) → OPr h g L r o → lx_X9_orderLine 298 (tf_Cd 298 (d + 3)) Q 193 [.ref 270, .long w, tf_z, .int x3, .int x4, .int x5, tf_z, tf_z] [.int y] g := by
    intro hb x3 x4 x5 y g hy P
    have k246 : ∀ g, OPr h g L r o → lx_X9_orderLine 298 (tf_Cd 298 (d + 3)) Q 246 [.ref 270, .long w, tf_z, .int x3, .int x4, .int x5, .int y, tf_z] [] g := fun g P => go_X9_orderLine_246 (by decide) (k247 hb x3 x4 x5 y 0 g (Or.inl rfl) P)
    have k242 : ∀ g, OPr h g L r o → lx_X9_orderLine 298 (tf_Cd 298 (d + 3)) Q 242 [.ref 270, .long w, tf_z, .int x3, .int x4, .int x5, .int y, tf_z] [] g := fun g P => go_X9_orderLine_242 (by decide) (k247 hb x3 x4 x5 y 1 g (Or.inr rfl) P)
    refine go_X9_orderLine_193 (by decide) ⟨fun _ => k246 g P, fun _ => ⟨fun _ => ⟨fun _ => ⟨fun _ => ot_takes (d := d) (k := 1) (lo := 0) (hi := 6) P (by decide) rfl (by omega) (by omega) rfl rfl _ (fun v g2 p => ?_), fun _ => go_X9_orderLine_231 (by decide) (ot_takes (d := d) (k := 1) (lo := 0) (hi := 99) P (by decide) rfl (by omega) (by omega) rfl rfl _ (fun v g2 p => ?_))⟩, fun _ => k242 g P⟩, fun _ => k242 g P⟩⟩
    · obtain ⟨rfl | rfl, P2⟩ := p
      · exact go_X9_orderLine_225 (by decide) ⟨fun _ => k246 g2 P2, fun z => absurd rfl z⟩
      · exact go_X9_orderLine_225 (by decide) ⟨fun z => absurd z (by decide), fun _ => k242 g2 P2⟩
    · obtain ⟨rfl | rfl, P2⟩ := p
      · exact go_X9_orderLine_239 (by decide) ⟨fun _ => k246 g2 P2, fun z => absurd rfl z⟩
      · exact go_X9_orderLine_239 (by decide) ⟨fun z => absurd z (by decide), fun _ => k242 g2 P2⟩
  have P0 : OPr h h L r o → True := fun _ => trivial
  have k111 : BGw w → ∀ x3 x4 x5 : Int32, lx_X9_orderLine 298 (tf_Cd 298 (d + 3)) Q 111 [.ref 270, .long w, tf_z, .int x3, .int x4, .int x5, tf_z, tf_z] [] h := by
    intro B x3 x4 x5
    have hb := big B
    refine go_X9_orderLine_111 (by decide) (T.tok (d := d + 1) _ (fun _ g1 p1 => go_X9_orderLine_115 (by decide) ?_))
    obtain ⟨F1, b1, r1, hb1, T1⟩ := p1
    have P1 : OPr h (w1 (w1 g1 275 1 0) 275 2 0) L r o := by
      refine ⟨F1.ln.tr ((FLn.w (Or.inl (by decide))).tr (FLn.w (Or.inl (by decide)))), fun i hi => ?_, ?_, ?_, b1, r1, hb1, (T1.o (by decide)).o (by decide)⟩
      · by_cases h2 : i = 2
        · rw [h2, w1_eq]
          exact vi_of (j := 0) (by decide) (by decide)
        · rw [w1_at h2]
          by_cases h1 : i = 1
          · rw [h1, w1_eq]
            exact vi_of (j := 0) (by decide) (by decide)
          · rw [w1_at h1, F1.1 275 (by decide)]
            exact R i hi
      · rw [w1_ne (by decide), w1_ne (by decide)]
        exact (F1.2 23 (by decide) (by decide) (by decide) (by decide)).trans e23
      · exact N.same (by rw [w1_ne (by decide), w1_ne (by decide), F1.1 280 (by decide)])
    have k192 : ∀ g, OPr h g L r o → lx_X9_orderLine 298 (tf_Cd 298 (d + 3)) Q 192 [.ref 270, .long w, tf_z, .int x3, .int x4, .int x5, tf_z, tf_z] [] g := fun g P => go_X9_orderLine_192 (by decide) (k193 hb x3 x4 x5 0 g (Or.inl rfl) P)
    have k188 : ∀ g, OPr h g L r o → lx_X9_orderLine 298 (tf_Cd 298 (d + 3)) Q 188 [.ref 270, .long w, tf_z, .int x3, .int x4, .int x5, tf_z, tf_z] [] g := fun g P => go_X9_orderLine_188 (by decide) (k193 hb x3 x4 x5 1 g (Or.inr rfl) P)
    have key : ∀ h1 : LH, OPr h h1 L r o → (x3 = 0 → (lg_cmp w 482805706612 = 0 → tf_Cd 298 (d + 3) 13 [.ref 270, .int 0, .int 1, .int 60] h1 (fun r g => lx_X9_orderLine 298 (tf_Cd 298 (d + 3)) Q 149 [.ref 270, .long w, tf_z, .int x3, .int x4, .int x5, tf_z, tf_z] (r :: []) g)) ∧ (¬ lg_cmp w 482805706612 = 0 → lx_X9_orderLine 298 (tf_Cd 298 (d + 3)) Q 155 [.ref 270, .long w, tf_z, .int x3, .int x4, .int x5, tf_z, tf_z] [] h1)) ∧ (¬ x3 = 0 → lx_X9_orderLine 298 (tf_Cd 298 (d + 3)) Q 188 [.ref 270, .long w, tf_z, .int x3, .int x4, .int x5, tf_z, tf_z] [] h1) := by
      intro h1 P
      refine ⟨fun _ => ⟨fun _ => ot_takes (d := d) (k := 0) (lo := 1) (hi := 60) P (by decide) rfl (by omega) (by omega) rfl rfl _ (fun v g2 p => ?_), fun _ => go_X9_orderLine_155 (by decide) ⟨fun _ => ot_takes (d := d) (k := 0) (lo := 0) (hi := 6) P (by decide) rfl (by omega) (by omega) rfl rfl _ (fun v g2 p => ?_), fun _ => go_X9_orderLine_177 (by decide) (ot_takes (d := d) (k := 0) (lo := 0) (hi := 13) P (by decide) rfl (by omega) (by omega) rfl rfl _ (fun v g2 p => ?_))⟩⟩, fun _ => k188 h1 P⟩
      · obtain ⟨rfl | rfl, P2⟩ := p
        · exact go_X9_orderLine_149 (by decide) ⟨fun _ => k192 g2 P2, fun z => absurd rfl z⟩
        · exact go_X9_orderLine_149 (by decide) ⟨fun z => absurd z (by decide), fun _ => k188 g2 P2⟩
      · obtain ⟨rfl | rfl, P2⟩ := p
        · exact go_X9_orderLine_171 (by decide) ⟨fun _ => k192 g2 P2, fun z => absurd rfl z⟩
        · exact go_X9_orderLine_171 (by decide) ⟨fun z => absurd z (by decide), fun _ => k188 g2 P2⟩
      · obtain ⟨rfl | rfl, P2⟩ := p
        · exact go_X9_orderLine_185 (by decide) ⟨fun _ => k192 g2 P2, fun z => absurd rfl z⟩
        · exact go_X9_orderLine_185 (by decide) ⟨fun z => absurd z (by decide), fun _ => k188 g2 P2⟩
    exact key _ P1
  have kf : ∀ x3 x4 x5 : Int32, tf_Cd 298 (d + 3) 11 [.ref 270] h (fun r g => lx_X9_orderLine 298 (tf_Cd 298 (d + 3)) Q 110 [.ref 270, .long w, tf_z, .int x3, .int x4, .int x5, tf_z, tf_z] (r :: []) g) := fun x3 x4 x5 => sx_fails (d := d + 2) _ (go_X9_orderLine_110 (by decide) ⟨rfl, q _ _ ⟨FLn.w (Or.inr ⟨rfl, by decide⟩), R.same (w1_ne (by decide)), Or.inl rfl⟩⟩)
  have k82 : ∀ x3 x4 y : Int32, (x3 ≠ 0 → BGw w) → (x4 ≠ 0 → BGw w) → (y ≠ 0 → BGw w) → lx_X9_orderLine 298 (tf_Cd 298 (d + 3)) Q 82 [.ref 270, .long w, tf_z, .int x3, .int x4, tf_z, tf_z, tf_z] [.int y] h := fun x3 x4 y h3 h4 h5 => go_X9_orderLine_82 (by decide) ⟨fun _ => ⟨fun _ => ⟨fun _ => ⟨fun c => k111 (bg_c (by unfold BGw; decide) c) _ _ _, fun _ => kf _ _ _⟩, fun z => k111 (h5 z) _ _ _⟩, fun z => k111 (h4 z) _ _ _⟩, fun z => k111 (h3 z) _ _ _⟩
  have k51 : ∀ x3 y : Int32, (x3 ≠ 0 → BGw w) → (y ≠ 0 → BGw w) → lx_X9_orderLine 298 (tf_Cd 298 (d + 3)) Q 51 [.ref 270, .long w, tf_z, .int x3, tf_z, tf_z, tf_z, tf_z] [.int y] h := by
    intro x3 y h3 h4
    have one : BGw w → lx_X9_orderLine 298 (tf_Cd 298 (d + 3)) Q 77 [.ref 270, .long w, tf_z, .int x3, .int y, tf_z, tf_z, tf_z] [] h := fun B => go_X9_orderLine_77 (by decide) (k82 x3 y 1 h3 h4 (fun _ => B))
    exact go_X9_orderLine_51 (by decide) ⟨fun c => one (bg_c (by unfold BGw; decide) c), fun _ => ⟨fun c => one (bg_c (by unfold BGw; decide) c), fun _ => ⟨fun c => one (bg_c (by unfold BGw; decide) c), fun _ => go_X9_orderLine_81 (by decide) (k82 x3 y 0 h3 h4 (fun z => absurd rfl z))⟩⟩⟩
  have k21 : ∀ y : Int32, (y ≠ 0 → BGw w) → lx_X9_orderLine 298 (tf_Cd 298 (d + 3)) Q 21 [.ref 270, .long w, tf_z, tf_z, tf_z, tf_z, tf_z, tf_z] [.int y] h := by
    intro y h3
    have one : BGw w → lx_X9_orderLine 298 (tf_Cd 298 (d + 3)) Q 46 [.ref 270, .long w, tf_z, .int y, tf_z, tf_z, tf_z, tf_z] [] h := fun B => go_X9_orderLine_46 (by decide) (k51 y 1 h3 (fun _ => B))
    exact go_X9_orderLine_21 (by decide) ⟨fun c => one (bg_c (by unfold BGw; decide) c), fun _ => ⟨fun c => one (bg_c (by unfold BGw; decide) c), fun _ => ⟨fun c => one (bg_c (by unfold BGw; decide) c), fun _ => go_X9_orderLine_50 (by decide) (k51 y 0 h3 (fun z => absurd rfl z))⟩⟩⟩
  have k16 : BGw w → lx_X9_orderLine 298 (tf_Cd 298 (d + 3)) Q 16 [.ref 270, .long w, tf_z, tf_z, tf_z, tf_z, tf_z, tf_z] [] h := fun B => go_X9_orderLine_16 (by decide) (k21 1 (fun _ => B))
  refine en_X9_orderLine (by decide) (go_X9_orderLine_0 (by decide) ⟨fun c => k16 (bg_c (by unfold BGw; decide) c), fun _ => sp_rbw (d := d + 2) w _ (fun v g p => ?_)⟩)
  obtain ⟨rfl, x, rfl, hx⟩ := p
  exact go_X9_orderLine_12 (by decide) ⟨fun _ => go_X9_orderLine_20 (by decide) (k21 0 (fun z => absurd rfl z)), fun z => k16 (hx z)⟩
theorem al_O {L : Nat} {Q : tf_Q} (q : ∀ (v : Value) (g : LH), FLn h g → RD g → (v = .int 0 ∨ (v = .int 1 ∧ ∃ o, o ≤ 80 ∧ g.1 270 23 = nI o ∧ NBo g o)) → Q v g) : ∀ (f b r o : Nat) (g : LH) (x3 : Value), 401 ≤ b + f → TX g L b r → RD g → g.1 270 23 = nI o → NBo g o → 5 * o ≤ b → FLn h g → lx_X9_allLines 298 (tf_Cd 298 (d + 6)) Q 42 [.ref 270, .int 0, .int 1, x3, tf_z] [] g := by
  have no : ∀ (g : LH) (x3 : Int64), FLn h g → RD g → lx_X9_allLines 298 (tf_Cd 298 (d + 6)) Q 105 [.ref 270, .int 0, .int 0, .long x3, tf_z] [] g := fun g x3 F R => go_X9_allLines_105 (by decide) ⟨fun _ => go_X9_allLines_113 (by decide) (go_X9_allLines_42 (by decide) ⟨fun _ => go_X9_allLines_116 (by decide) ⟨rfl, q _ g F R (Or.inl rfl)⟩, fun z => absurd rfl z⟩), fun z => absurd rfl z⟩
  intro f
  induction f with
  | zero =>
    intro b r o g x3 hf T
    exfalso
    have := T.1
    have := T.2.2.2.2.1
    have := T.2.2.2.2.2.1
    omega
  | succ f ih =>
    intro b r o g x3 hf T R e23 N ho F
    have bL : b ≤ 400 := by
      have := T.1
      have := T.2.2.2.2.1
      have := T.2.2.2.2.2.1
      omega
    have k69 : ∀ y : Int64, (y = 0 ∨ (g.1 270 9 = 2 ∧ y = g.2 270 11)) → lx_X9_allLines 298 (tf_Cd 298 (d + 6)) Q 69 [.ref 270, .int 0, .int 1, x3, tf_z] [.long y] g := by
      intro y hy
      refine go_X9_allLines_69 (by decide) ⟨fun _ => go_X9_allLines_82 (by decide) (sp_orl (d := d + 2) y T R e23 N ho hy _ (fun v g2 p => ?_)), fun z => absurd rfl z⟩
      obtain ⟨F2, R2, rfl | ⟨rfl, hb4, e2, N2, b2, r2, hb2, T2⟩⟩ := p
      · exact go_X9_allLines_87 (by decide) ⟨fun _ => no g2 y (F.tr F2) R2, fun z => absurd rfl z⟩
      · refine go_X9_allLines_87 (by decide) ⟨fun z => absurd z (by decide), fun _ => ⟨fun z4 => go_X9_allLines_105 (by decide) ⟨fun z => absurd z (by decide), fun _ => T2.tok (d := d + 4) _ (fun _ g3 p3 => go_X9_allLines_113 (by decide) ?_)⟩, fun _ => sx_fails (d := d + 5) _ (go_X9_allLines_104 (by decide) (no _ y ((F.tr F2).tr (FLn.w (Or.inr ⟨rfl, by decide⟩))) (R2.same (w1_ne (by decide)))))⟩⟩
        obtain ⟨F3, b3, r3, hb3, T3⟩ := p3
        have h23 : b2 + 1 ≤ r2 := T2.2.2.2.2.2.2.1.resolve_left (fun z => by rw [z] at z4; exact absurd z4 (by decide))
        exact ih b3 r3 (o + 1) g3 _ (by omega) T3 (R2.same (F3.1 275 (by decide))) ((F3.2 23 (by decide) (by decide) (by decide) (by decide)).trans e2) (N2.same (F3.1 280 (by decide))) (by omega) ((F.tr F2).tr F3.ln)
    exact go_X9_allLines_42 (by decide) ⟨fun z => absurd z (by decide), fun _ => ⟨fun _ => go_X9_allLines_116 (by decide) ⟨rfl, q _ g F R (Or.inr ⟨rfl, o, by omega, e23, N⟩)⟩, fun n0 => ⟨fun z2 => k69 _ (Or.inr ⟨z2, rfl⟩), fun _ => go_X9_allLines_68 (by decide) (k69 _ (Or.inl rfl))⟩⟩⟩
end RWK
