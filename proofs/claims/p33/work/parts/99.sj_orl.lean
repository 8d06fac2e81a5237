/-! ===== an order's line: its word ===== -/
section SJO
variable {h g : LH} {d : Nat}
def OPs (h g : LH) (L r o : Nat) : Prop := OPr h g L r o ∧ g.2 279 = h.2 279
/-- an order's word was written, no other -/
def LNs (h g : LH) (o : Nat) (w : Int64) (v : Value) : Prop := (∀ i, i ≠ o → g.2 279 i = h.2 279 i) ∧ (v = .int 1 → g.2 279 o = w)
theorem os_takes {L r o k lo hi : Nat} {x yl yh : Int32} (P : OPs h g L r o) (hk : k < 4) (hx : x = nI k) (hl : lo ≤ hi) (hh : hi ≤ 99) (el : yl = nI lo) (eh : yh = nI hi) : tf_Sp (d + 3) 13 [.ref 270, .int x, .int yl, .int yh] g (fun v g2 => (v = .int 0 ∨ v = .int 1) ∧ OPs h g2 L r o) := by
  obtain ⟨F, R, e23, N, b2, r2, hb, T⟩ := id P.1
  exact ((ot_takes (d := d) P.1 hk hx hl hh el eh).cj (sr_takes (d := d) T hk hx)).mp (fun v g2 p => ⟨p.1.1, p.1.2, p.2.trans P.2⟩)
theorem ol_n9 {o : Nat} {w : Int64} {x3 x4 x5 x6 : Int32} (ho : o < 80) (h6 : x6 = 0 ∨ x6 = 1) {g0 : LH} {Q : tf_Q} (q : ∀ g : LH, g.2 = g0.2 → Q (.int x6) g) : ∀ (f j : Nat) (g : LH), j + f = 3 → g.1 270 23 = nI o → g.2 = g0.2 → lx_X9_orderLine 298 (tf_Cd 298 d) Q 293 [.ref 270, .long w, tf_z, .int x3, .int x4, .int x5, .int x6, .int (nI j)] [] g := by
  have n6 : vp_nar .boolean x6 = x6 := by rcases h6 with rfl | rfl <;> rfl
  intro f
  induction f with
  | zero =>
    intro j g hf e23 l
    refine go_X9_orderLine_293 (by decide) ⟨fun _ => go_X9_orderLine_326 (by decide) ⟨n6, ?_⟩, fun c => absurd (show nI 3 ≤ nI j from nI_le (by omega) (by omega)) c⟩
    rw [e23, nI_1]
    exact q (w1 g 270 23 (nI (o + 1))) l
  | succ f ih =>
    intro j g hf e23 l
    refine go_X9_orderLine_293 (by decide) ⟨fun c => absurd (show nI 3 ≤ nI j from c) (nI_ge (by omega) (by omega)), fun _ => ?_⟩
    rw [e23, i4k, nI_1, nI_clamp (show 4 * o + j < 2 ^ 31 by omega), nI_clamp (show j < 2 ^ 31 by omega)]
    exact ⟨vi_of (by omega) (by omega), vi_of (by omega) (by omega), ih (j + 1) (w1 g 280 (4 * o + j) (g.1 275 j)) (by omega) (by rw [w1_ne (by decide)]; exact e23) l⟩
theorem sr_orl {L b r o : Nat} (w : Int64) (T : TX h L b r) (R : RD h) (e23 : h.1 270 23 = nI o) (N : NBo h o) (ho : 5 * o ≤ b) (hw : w = 0 ∨ (h.1 270 9 = 2 ∧ w = h.2 270 11)) : tf_Sp (d + 4) 19 [.ref 270, .long w] h (fun v g => LNs h g o w v) := by
  intro Q q
  have big : BGw w → b + 4 ≤ r := by
    intro B
    rcases hw with rfl | ⟨h9, rfl⟩
    · exact absurd B (by unfold BGw; decide)
    · rcases Nat.lt_or_ge r (b + 4) with z | z
      · have := T.2.2.2.2.2.2.2 h9 z
        unfold BGw at B
        omega
      · exact z
  have k278 : b + 4 ≤ r → ∀ (x3 x4 x5 : Int32) (x6 : Int32) (y : Int32) (g : LH), (y = 0 ∨ y = 1) → OPs h g L r o → lx_X9_orderLine 298 (tf_Cd 298 (d + 3)) Q 278 [.ref 270, .long w, tf_z, .int x3, .int x4, .int x5, .int x6, tf_z] [.int y] g := by
    intro hb x3 x4 x5 x6 y g hy P
    have o80 : o < 80 := by
      have := T.1
      have := T.2.2.2.2.2.1
      omega
    obtain ⟨⟨F, R2, e2, N2, b2, r2, hb2, T2⟩, l2⟩ := id P
    refine go_X9_orderLine_278 (by decide) ⟨by rw [e2]; exact vi_of (by omega) (by omega), ?_⟩
    have ck : (g.1 270 23).toNatClampNeg = o := by rw [e2, nI_clamp (by omega)]
    rw [ck]
    refine ol_n9 (g0 := w2 g 279 o w) o80 hy (fun g3 l3 => q _ g3 ⟨fun i hi => ?_, fun _ => ?_⟩) 3 0 (w2 g 279 o w) (by omega) e2 rfl
    · rw [l3]
      show tf_upL g.2 279 o w 279 i = h.2 279 i
      rw [← l2]
      simp [tf_upL, vp_updL, hi]
    · rw [l3]
      exact w2_eq
  have k247 : b + 4 ≤ r → ∀ (x3 x4 x5 : Int32) (x6 : Int32) (y : Int32) (g : LH), (y = 0 ∨ y = 1) → OPs h g L r o → lx_X9_orderLine 298 (tf_Cd 298 (d + 3)) Q 247 [.ref 270, .long w, tf_z, .int x3, .int x4, .int x5, .int x6, tf_z] [.int y] g := by
    intro hb x3 x4 x5 x6 y g hy P
    have k277 : ∀ g, OPs h g L r o → lx_X9_orderLine 298 (tf_Cd 298 (d + 3)) Q 277 [.ref 270, .long w, tf_z, .int x3, .int x4, .int x5, .int y, tf_z] [] g := fun g P => go_X9_orderLine_277 (by decide) (k278 hb x3 x4 x5 y 0 g (Or.inl rfl) P)
    have k273 : ∀ g, OPs h g L r o → lx_X9_orderLine 298 (tf_Cd 298 (d + 3)) Q 273 [.ref 270, .long w, tf_z, .int x3, .int x4, .int x5, .int y, tf_z] [] g := fun g P => go_X9_orderLine_273 (by decide) (k278 hb x3 x4 x5 y 1 g (Or.inr rfl) P)
    refine go_X9_orderLine_247 (by decide) ⟨fun _ => k277 g P, fun _ => ⟨fun _ => os_takes (d := d) (k := 2) (lo := 1) (hi := 99) P (by decide) rfl (by omega) (by omega) rfl rfl _ (fun v g2 p => ?_), fun _ => k273 g P⟩⟩
    obtain ⟨rfl | rfl, P2⟩ := p
    · exact go_X9_orderLine_270 (by decide) ⟨fun _ => k277 g2 P2, fun z => absurd rfl z⟩
    · exact go_X9_orderLine_270 (by decide) ⟨fun z => absurd z (by decide), fun _ => k273 g2 P2⟩
  have k193 : b + 4 ≤ r → ∀ (x3 x4 x5 : Int32) (y : Int32) (g : LH), (y = 0 ∨ y = 1) → OPs h g L r o → lx_X9_orderLine 298 (tf_Cd 298 (d + 3)) Q 193 [.ref 270, .long w, tf_z, .int x3, .int x4, .int x5, tf_z, tf_z] [.int y] g := by
    intro hb x3 x4 x5 y g hy P
    have k246 : ∀ g, OPs h g L r o → lx_X9_orderLine 298 (tf_Cd 298 (d + 3)) Q 246 [.ref 270, .long w, tf_z, .int x3, .int x4, .int x5, .int y, tf_z] [] g := fun g P => go_X9_orderLine_246 (by decide) (k247 hb x3 x4 x5 y 0 g (Or.inl rfl) P)
    have k242 : ∀ g, OPs h g L r o → lx_X9_orderLine 298 (tf_Cd 298 (d + 3)) Q 242 [.ref 270, .long w, tf_z, .int x3, .int x4, .int x5, .int y, tf_z] [] g := fun g P => go_X9_orderLine_242 (by decide) (k247 hb x3 x4 x5 y 1 g (Or.inr rfl) P)
    refine go_X9_orderLine_193 (by decide) ⟨fun _ => k246 g P, fun _ => ⟨fun _ => ⟨fun _ => ⟨fun _ => os_takes (d := d) (k := 1) (lo := 0) (hi := 6) P (by decide) rfl (by omega) (by omega) rfl rfl _ (fun v g2 p => ?_), fun _ => go_X9_orderLine_231 (by decide) (os_takes (d := d) (k := 1) (lo := 0) (hi := 99) P (by decide) rfl (by omega) (by omega) rfl rfl _ (fun v g2 p => ?_))⟩, fun _ => k242 g P⟩, fun _ => k242 g P⟩⟩
    · obtain ⟨rfl | rfl, P2⟩ := p
      · exact go_X9_orderLine_225 (by decide) ⟨fun _ => k246 g2 P2, fun z => absurd rfl z⟩
      · exact go_X9_orderLine_225 (by decide) ⟨fun z => absurd z (by decide), fun _ => k242 g2 P2⟩
    · obtain ⟨rfl | rfl, P2⟩ := p
      · exact go_X9_orderLine_239 (by decide) ⟨fun _ => k246 g2 P2, fun z => absurd rfl z⟩
      · exact go_X9_orderLine_239 (by decide) ⟨fun z => absurd z (by decide), fun _ => k242 g2 P2⟩
  have P0 : OPs h h L r o → True := fun _ => trivial
  have k111 : BGw w → ∀ x3 x4 x5 : Int32, lx_X9_orderLine 298 (tf_Cd 298 (d + 3)) Q 111 [.ref 270, .long w, tf_z, .int x3, .int x4, .int x5, tf_z, tf_z] [] h := by
    intro B x3 x4 x5
    have hb := big B
    refine go_X9_orderLine_111 (by decide) (T.tol (d := d + 1) _ (fun _ g1 p1 => go_X9_orderLine_115 (by decide) ?_))
    obtain ⟨⟨F1, l1⟩, b1, r1, hb1, T1⟩ := p1
    have P1 : OPs h (w1 (w1 g1 275 1 0) 275 2 0) L r o := by
      refine ⟨?_, l1⟩
      refine ⟨F1.ln.tr ((FLn.w (Or.inl (by decide))).tr (FLn.w (Or.inl (by decide)))), fun i hi => ?_, ?_, ?_, b1, r1, hb1, (T1.o (by decide)).o (by decide)⟩
      · by_cases h2 : i = 2
        · rw [h2, w1_eq]
          exact vi_of (j := 0) (by decide) (by decide)
        · rw [w1_at h2]
          by_cases h1 : i = 1
          · rw [h1, w1_eq]
            exact vi_of (j := 0) (by decide) (by decide)
          · rw [w1_at h1, F1.1 275 (by decide)]
            exact R i hi
      · rw [w1_ne (by decide), w1_ne (by decide)]
        exact (F1.2 23 (by decide) (by decide) (by decide) (by decide)).trans e23
      · exact N.same (by rw [w1_ne (by decide), w1_ne (by decide), F1.1 280 (by decide)])
    have k192 : ∀ g, OPs h g L r o → lx_X9_orderLine 298 (tf_Cd 298 (d + 3)) Q 192 [.ref 270, .long w, tf_z, .int x3, .int x4, .int x5, tf_z, tf_z] [] g := fun g P => go_X9_orderLine_192 (by decide) (k193 hb x3 x4 x5 0 g (Or.inl rfl) P)
    have k188 : ∀ g, OPs h g L r o → lx_X9_orderLine 298 (tf_Cd 298 (d + 3)) Q 188 [.ref 270, .long w, tf_z, .int x3, .int x4, .int x5, tf_z, tf_z] [] g := fun g P => go_X9_orderLine_188 (by decide) (k193 hb x3 x4 x5 1 g (Or.inr rfl) P)
    have key : ∀ h1 : LH, OPs h h1 L r o → (x3 = 0 → (lg_cmp w 482805706612 = 0 → tf_Cd 298 (d + 3) 13 [.ref 270, .int 0, .int 1, .int 60] h1 (fun r g => lx_X9_orderLine 298 (tf_Cd 298 (d + 3)) Q 149 [.ref 270, .long w, tf_z, .int x3, .int x4, .int x5, tf_z, tf_z] (r :: []) g)) ∧ (¬ lg_cmp w 482805706612 = 0 → lx_X9_orderLine 298 (tf_Cd 298 (d + 3)) Q 155 [.ref 270, .long w, tf_z, .int x3, .int x4, .int x5, tf_z, tf_z] [] h1)) ∧ (¬ x3 = 0 → lx_X9_orderLine 298 (tf_Cd 298 (d + 3)) Q 188 [.ref 270, .long w, tf_z, .int x3, .int x4, .int x5, tf_z, tf_z] [] h1) := by
      intro h1 P
      refine ⟨fun _ => ⟨fun _ => os_takes (d := d) (k := 0) (lo := 1) (hi := 60) P (by decide) rfl (by omega) (by omega) rfl rfl _ (fun v g2 p => ?_), fun _ => go_X9_orderLine_155 (by decide) ⟨fun _ => os_takes (d := d) (k := 0) (lo := 0) (hi := 6) P (by decide) rfl (by omega) (by omega) rfl rfl _ (fun v g2 p => ?_), fun _ => go_X9_orderLine_177 (by decide) (os_takes (d := d) (k := 0) (lo := 0) (hi := 13) P (by decide) rfl (by omega) (by omega) rfl rfl _ (fun v g2 p => ?_))⟩⟩, fun _ => k188 h1 P⟩
      · obtain ⟨rfl | rfl, P2⟩ := p
        · exact go_X9_orderLine_149 (by decide) ⟨fun _ => k192 g2 P2, fun z => absurd rfl z⟩
        · exact go_X9_orderLine_149 (by decide) ⟨fun z => absurd z (by decide), fun _ => k188 g2 P2⟩
      · obtain ⟨rfl | rfl, P2⟩ := p
        · exact go_X9_orderLine_171 (by decide) ⟨fun _ => k192 g2 P2, fun z => absurd rfl z⟩
        · exact go_X9_orderLine_171 (by decide) ⟨fun z => absurd z (by decide), fun _ => k188 g2 P2⟩
      · obtain ⟨rfl | rfl, P2⟩ := p
        · exact go_X9_orderLine_185 (by decide) ⟨fun _ => k192 g2 P2, fun z => absurd rfl z⟩
        · exact go_X9_orderLine_185 (by decide) ⟨fun z => absurd z (by decide), fun _ => k188 g2 P2⟩
    exact key _ P1
  have kf : ∀ x3 x4 x5 : Int32, tf_Cd 298 (d + 3) 11 [.ref 270] h (fun r g => lx_X9_orderLine 298 (tf_Cd 298 (d + 3)) Q 110 [.ref 270, .long w, tf_z, .int x3, .int x4, .int x5, tf_z, tf_z] (r :: []) g) := fun x3 x4 x5 => sx_fails (d := d + 2) _ (go_X9_orderLine_110 (by decide) ⟨rfl, q _ _ ⟨fun _ _ => rfl, fun z => (by cases z)⟩⟩)
  have k82 : ∀ x3 x4 y : Int32, (x3 ≠ 0 → BGw w) → (x4 ≠ 0 → BGw w) → (y ≠ 0 → BGw w) → lx_X9_orderLine 298 (tf_Cd 298 (d + 3)) Q 82 [.ref 270, .long w, tf_z, .int x3, .int x4, tf_z, tf_z, tf_z] [.int y] h := fun x3 x4 y h3 h4 h5 => go_X9_orderLine_82 (by decide) ⟨fun _ => ⟨fun _ => ⟨fun _ => ⟨fun c => k111 (bg_c (by unfold BGw; decide) c) _ _ _, fun _ => kf _ _ _⟩, fun z => k111 (h5 z) _ _ _⟩, fun z => k111 (h4 z) _ _ _⟩, fun z => k111 (h3 z) _ _ _⟩
  have k51 : ∀ x3 y : Int32, (x3 ≠ 0 → BGw w) → (y ≠ 0 → BGw w) → lx_X9_orderLine 298 (tf_Cd 298 (d + 3)) Q 51 [.ref 270, .long w, tf_z, .int x3, tf_z, tf_z, tf_z, tf_z] [.int y] h := by
    intro x3 y h3 h4
    have one : BGw w → lx_X9_orderLine 298 (tf_Cd 298 (d + 3)) Q 77 [.ref 270, .long w, tf_z, .int x3, .int y, tf_z, tf_z, tf_z] [] h := fun B => go_X9_orderLine_77 (by decide) (k82 x3 y 1 h3 h4 (fun _ => B))
    exact go_X9_orderLine_51 (by decide) ⟨fun c => one (bg_c (by unfold BGw; decide) c), fun _ => ⟨fun c => one (bg_c (by unfold BGw; decide) c), fun _ => ⟨fun c => one (bg_c (by unfold BGw; decide) c), fun _ => go_X9_orderLine_81 (by decide) (k82 x3 y 0 h3 h4 (fun z => absurd rfl z))⟩⟩⟩
  have k21 : ∀ y : Int32, (y ≠ 0 → BGw w) → lx_X9_orderLine 298 (tf_Cd 298 (d + 3)) Q 21 [.ref 270, .long w, tf_z, tf_z, tf_z, tf_z, tf_z, tf_z] [.int y] h := by
    intro y h3
    have one : BGw w → lx_X9_orderLine 298 (tf_Cd 298 (d + 3)) Q 46 [.ref 270, .long w, tf_z, .int y, tf_z, tf_z, tf_z, tf_z] [] h := fun B => go_X9_orderLine_46 (by decide) (k51 y 1 h3 (fun _ => B))
    exact go_X9_orderLine_21 (by decide) ⟨fun c => one (bg_c (by unfold BGw; decide) c), fun _ => ⟨fun c => one (bg_c (by unfold BGw; decide) c), fun _ => ⟨fun c => one (bg_c (by unfold BGw; decide) c), fun _ => go_X9_orderLine_50 (by decide) (k51 y 0 h3 (fun z => absurd rfl z))⟩⟩⟩
  have k16 : BGw w → lx_X9_orderLine 298 (tf_Cd 298 (d + 3)) Q 16 [.ref 270, .long w, tf_z, tf_z, tf_z, tf_z, tf_z, tf_z] [] h := fun B => go_X9_orderLine_16 (by decide) (k21 1 (fun _ => B))
  refine en_X9_orderLine (by decide) (go_X9_orderLine_0 (by decide) ⟨fun c => k16 (bg_c (by unfold BGw; decide) c), fun _ => sp_rbw (d := d + 2) w _ (fun v g p => ?_)⟩)
  obtain ⟨rfl, x, rfl, hx⟩ := p
  exact go_X9_orderLine_12 (by decide) ⟨fun _ => go_X9_orderLine_20 (by decide) (k21 0 (fun z => absurd rfl z)), fun z => k16 (hx z)⟩
end SJO
