/-! ===== the reference: a grid's text ===== -/
section RGT
variable {h g : LH} {d : Nat}
/-- a number of an arc that was told -/
def td (h : LH) (a w : Nat) : Int32 := h.1 277 (7 * a + w)
/-- an arc that was told -/
def AT1 (h : LH) (a : Nat) : Prop := vp_in (td h a 0) 7 ∧ vp_in (td h a 1) 7 ∧ vp_in (td h a 2) 100 ∧ (∃ c, c ≤ 198 ∧ td h a 3 + 99 = nI c) ∧ (h.1 270 13 = -1 → td h a 0 ≠ td h a 1) ∧ h.1 278 (td h a 0).toNatClampNeg ≠ -1 ∧ h.1 278 (td h a 1).toNatClampNeg ≠ -1
/-- what was told of a grid so far -/
def GT (h : LH) (k : Nat) : Prop := k ≤ 14 ∧ h.1 270 19 = nI k ∧ (∃ m, 2 ≤ m ∧ m ≤ 7 ∧ h.1 270 18 = nI m) ∧ (∀ p, p < 7 → ∃ s, s ≤ 198 ∧ h.1 276 p + 99 = nI s) ∧ ∀ a, a < k → AT1 h a
theorem AT1.tb {a : Nat} (A : AT1 h a) (F : FTb h g) : AT1 g a := by
  have e : ∀ w, td g a w = td h a w := fun w => by unfold td; rw [F.1 277 (by decide) (by decide) (by decide)]
  unfold AT1
  rw [e, e, e, e]
  exact ⟨A.1, A.2.1, A.2.2.1, A.2.2.2.1, fun z => A.2.2.2.2.1 (F.2.2.1 z), F.2.2.2 _ A.2.2.2.2.2.1, F.2.2.2 _ A.2.2.2.2.2.2⟩
theorem GT.tb {k : Nat} (G : GT h k) (F : FTb h g) : GT g k := ⟨G.1, (F.2.1 19 (by decide) (by decide) (by decide) (by decide) (by decide) (by decide)).trans G.2.1, by rw [F.2.1 18 (by decide) (by decide) (by decide) (by decide) (by decide) (by decide)]; exact G.2.2.1, fun p hp => by rw [F.1 276 (by decide) (by decide) (by decide)]; exact G.2.2.2.1 p hp, fun a ha => (G.2.2.2.2 a ha).tb F⟩
theorem AT1.w {a c i : Nat} {v : Int32} (A : AT1 h a) (hc : c ≠ 277) (h8 : c ≠ 278) (h0 : c ≠ 270 ∨ i ≠ 13) : AT1 (w1 h c i v) a := by
  have e : ∀ w, td (w1 h c i v) a w = td h a w := fun w => by unfold td; rw [w1_ne (fun z => hc z.symm)]
  have e13 : (w1 h c i v).1 270 13 = h.1 270 13 := by
    by_cases hc0 : c = 270
    · rw [hc0, w1_at (by omega)]
    · rw [w1_ne (fun z => hc0 z.symm)]
  unfold AT1
  rw [e, e, e, e, e13, w1_ne (fun z => h8 z.symm)]
  exact A
theorem GT.w {k c i : Nat} {v : Int32} (G : GT h k) (hc : c = 275 ∨ (c = 270 ∧ (i = 20 ∨ i = 12))) : GT (w1 h c i v) k := by
  have e : ∀ j, j ≠ 20 → j ≠ 12 → (w1 h c i v).1 270 j = h.1 270 j := fun j h1 h2 => by
    rcases hc with rfl | ⟨rfl, hi⟩
    · rw [w1_ne (by decide)]
    · rw [w1_at (by omega)]
  exact ⟨G.1, (e 19 (by decide) (by decide)).trans G.2.1, by rw [e 18 (by decide) (by decide)]; exact G.2.2.1, fun p hp => by rw [w1_ne (by omega)]; exact G.2.2.2.1 p hp, fun a ha => (G.2.2.2.2 a ha).w (by omega) (by omega) (by omega)⟩
theorem GT.pts {k m : Nat} (G : GT h k) (m2 : 2 ≤ m) (m7 : m ≤ 7) : GT (w1 h 270 18 (nI m)) k := ⟨G.1, by rw [w1_at (by decide)]; exact G.2.1, ⟨m, m2, m7, w1_eq⟩, fun p hp => by rw [w1_ne (by decide)]; exact G.2.2.2.1 p hp, fun a ha => (G.2.2.2.2 a ha).w (by decide) (by decide) (Or.inr (by decide))⟩
theorem GT.sup {k p s : Nat} {v : Int32} (G : GT h k) (hs : s ≤ 198) (e : v + 99 = nI s) : GT (w1 h 276 p v) k := ⟨G.1, by rw [w1_ne (by decide)]; exact G.2.1, by rw [w1_ne (by decide)]; exact G.2.2.1, fun q hq => by
  by_cases hqp : q = p
  · rw [hqp, w1_eq]; exact ⟨s, hs, e⟩
  · rw [w1_at hqp]; exact G.2.2.2.1 q hq, fun a ha => (G.2.2.2.2 a ha).w (by decide) (by decide) (Or.inl (by decide))⟩
theorem GT.blk {k a2 : Nat} {v : Int32} (G : GT h k) : GT (w1 h 277 (7 * a2 + 6) v) k := ⟨G.1, by rw [w1_ne (by decide)]; exact G.2.1, by rw [w1_ne (by decide)]; exact G.2.2.1, fun q hq => by rw [w1_ne (by decide)]; exact G.2.2.2.1 q hq, fun a ha => by
  have e : ∀ w, w < 6 → td (w1 h 277 (7 * a2 + 6) v) a w = td h a w := fun w hw => by unfold td; rw [w1_at (by omega)]
  have A := G.2.2.2.2 a ha
  unfold AT1
  rw [e 0 (by decide), e 1 (by decide), e 2 (by decide), e 3 (by decide), w1_ne (by decide), w1_ne (by decide)]
  exact A⟩
/-- a line was read: either it fails, or what was told holds on, and the text goes on -/
def LNr (h g : LH) (L r : Nat) (v : Value) : Prop := FLn h g ∧ RD g ∧ (v = .int 0 ∨ (v = .int 1 ∧ (∃ k, GT g k) ∧ ∃ b2 r2, r ≤ b2 ∧ TX g L b2 r2))
theorem i7k {k w : Nat} : (7 : Int32) * nI k + nI w = nI (7 * k + w) := by
  rw [show (7 : Int32) = nI 7 from rfl, nI_mul, nI_add]
theorem m99_in {m : Nat} (hm : m ≤ 99) (sg : Int32) (hs : sg = 1 ∨ sg = -1) : ∃ c, c ≤ 198 ∧ sg * nI m + 99 = nI c := by
  have t := nI_toInt (n := m) (by omega)
  rcases hs with rfl | rfl
  · refine ⟨m + 99, by omega, ?_⟩
    rw [Int32.one_mul, show (99 : Int32) = nI 99 from rfl, nI_add]
  · refine ⟨99 - m, by omega, ?_⟩
    rw [Int32.neg_mul, Int32.one_mul, Int32.add_comm, show (99 : Int32) = nI 99 from rfl, nI_subneg hm]
/-- an arc is told anew at place k -/
theorem GT.arc {k p0 p1 m2 m3 : Nat} {sg : Int32} (G : GT h k) (hk : k < 14) (hs : sg = 1 ∨ sg = -1) (e0 : h.1 275 0 = nI p0) (e1 : h.1 275 1 = nI p1) (e2 : h.1 275 2 = nI m2) (e3 : h.1 275 3 = nI m3) (h0 : p0 < 7) (h1 : p1 < 7) (h2 : m2 ≤ 99) (h3 : m3 ≤ 99) (f0 : h.1 278 p0 ≠ -1) (f1 : h.1 278 p1 ≠ -1) (ne : h.1 270 13 = -1 → p0 ≠ p1) : GT (w1 (w1 (w1 (w1 (w1 h 277 (7 * k + 0) (nI p0)) 277 (7 * k + 1) (nI p1)) 277 (7 * k + 2) (nI m2)) 277 (7 * k + 3) (sg * nI m3)) 270 19 (nI (k + 1))) (k + 1) := by
  have n7 : ∀ e, e ≠ 277 → (w1 (w1 (w1 (w1 h 277 (7 * k + 0) (nI p0)) 277 (7 * k + 1) (nI p1)) 277 (7 * k + 2) (nI m2)) 277 (7 * k + 3) (sg * nI m3)).1 e = h.1 e := fun e he => by rw [w1_ne he, w1_ne he, w1_ne he, w1_ne he]
  have a0 : (w1 (w1 (w1 (w1 h 277 (7 * k + 0) (nI p0)) 277 (7 * k + 1) (nI p1)) 277 (7 * k + 2) (nI m2)) 277 (7 * k + 3) (sg * nI m3)).1 277 (7 * k + 0) = nI p0 := by rw [w1_at (by omega), w1_at (by omega), w1_at (by omega), w1_eq]
  have a1 : (w1 (w1 (w1 (w1 h 277 (7 * k + 0) (nI p0)) 277 (7 * k + 1) (nI p1)) 277 (7 * k + 2) (nI m2)) 277 (7 * k + 3) (sg * nI m3)).1 277 (7 * k + 1) = nI p1 := by rw [w1_at (by omega), w1_at (by omega), w1_eq]
  have a2 : (w1 (w1 (w1 (w1 h 277 (7 * k + 0) (nI p0)) 277 (7 * k + 1) (nI p1)) 277 (7 * k + 2) (nI m2)) 277 (7 * k + 3) (sg * nI m3)).1 277 (7 * k + 2) = nI m2 := by rw [w1_at (by omega), w1_eq]
  have a3 : (w1 (w1 (w1 (w1 h 277 (7 * k + 0) (nI p0)) 277 (7 * k + 1) (nI p1)) 277 (7 * k + 2) (nI m2)) 277 (7 * k + 3) (sg * nI m3)).1 277 (7 * k + 3) = sg * nI m3 := w1_eq
  have ao : ∀ j, j < 7 * k → (w1 (w1 (w1 (w1 h 277 (7 * k + 0) (nI p0)) 277 (7 * k + 1) (nI p1)) 277 (7 * k + 2) (nI m2)) 277 (7 * k + 3) (sg * nI m3)).1 277 j = h.1 277 j := fun j hj => by rw [w1_at (by omega), w1_at (by omega), w1_at (by omega), w1_at (by omega)]
  generalize w1 (w1 (w1 (w1 h 277 (7 * k + 0) (nI p0)) 277 (7 * k + 1) (nI p1)) 277 (7 * k + 2) (nI m2)) 277 (7 * k + 3) (sg * nI m3) = g1 at n7 a0 a1 a2 a3 ao
  refine ⟨by omega, w1_eq, by rw [w1_at (by decide), n7 _ (by decide)]; exact G.2.2.1, fun p hp => by rw [w1_ne (by decide), n7 _ (by decide)]; exact G.2.2.2.1 p hp, fun a ha => ?_⟩
  refine AT1.w ?_ (by decide) (by decide) (Or.inr (by decide))
  by_cases hak : a = k
  · subst hak
    have c0 : (nI p0).toNatClampNeg = p0 := nI_clamp (by omega)
    have c1 : (nI p1).toNatClampNeg = p1 := nI_clamp (by omega)
    unfold AT1 td
    rw [a0, a1, a2, a3, n7 _ (by decide), n7 _ (by decide), c0, c1]
    exact ⟨vi_of h0 (by omega), vi_of h1 (by omega), vi_of (by omega) (by omega), m99_in h3 sg hs, fun z y => ne z ((nI_eq (by omega) (by omega)).mp y), f0, f1⟩
  · have A := G.2.2.2.2 a (by omega)
    have e : ∀ w, w < 7 → td g1 a w = td h a w := fun w hw => ao _ (by omega)
    unfold AT1
    rw [e 0 (by decide), e 1 (by decide), e 2 (by decide), e 3 (by decide), n7 _ (by decide), n7 _ (by decide)]
    exact A
theorem sp_arcl {L b r k : Nat} {sg : Int32} (hs : sg = 1 ∨ sg = -1) (T : TX h L b r) (R : RD h) (G : GT h k) : tf_Sp (d + 5) 16 [.ref 270, .int sg] h (fun v g => LNr h g L r v) := by
  intro Q q
  have b4 : b ≤ 400 := by have := T.1; have := T.2.2.2.2.1; have := T.2.2.2.2.2.1; omega
  have k66 : ∀ g : LH, FLn h g → RD g → lx_X9_arcLine 298 (tf_Cd 298 (d + 4)) Q 66 [.ref 270, .int sg, tf_z] [] g := fun g F R => go_X9_arcLine_66 (by decide) (q _ g ⟨F, R, Or.inl rfl⟩)
  have k17 : ∀ g : LH, FTb h g → TX g L b r → RD g → GT g k → lx_X9_arcLine 298 (tf_Cd 298 (d + 4)) Q 17 [.ref 270, .int sg, tf_z] [] g := by
    intro g1 F1 T1 R1 G1
    refine go_X9_arcLine_17 (by decide) (T1.tok (d := d + 2) _ (fun _ g2 p2 => go_X9_arcLine_21 (by decide) ?_))
    obtain ⟨F2, b2, r2, hb2, T2⟩ := p2
    have R2 : RD g2 := R1.same (F2.1 275 (by decide))
    have G2 : GT g2 k := G1.tb F2.ta.tb
    refine sp_tpt (d := d) (k := 0) T2 (by decide) rfl _ (fun v g3 p3 => ?_)
    obtain ⟨F3, p3 | p3⟩ := p3
    · obtain ⟨rfl, e3⟩ := p3
      exact go_X9_arcLine_27 (by decide) ⟨fun _ => k66 g3 (F1.ln.tr (F2.ln.tr F3.ln)) (R2.same e3), fun z => absurd rfl z⟩
    · obtain ⟨rfl, ⟨b3, r3, hb3, T3⟩, o3, ⟨p0, hp0, ep0, fp0⟩, -⟩ := p3
      have R3 : RD g3 := R2.k o3 (by rw [ep0]; exact vi_of (by omega) (by omega))
      have G3 := G2.tb F3
      refine go_X9_arcLine_27 (by decide) ⟨fun z => absurd z (by decide), fun _ => sp_tpt (d := d) (k := 1) T3 (by decide) rfl _ (fun v g4 p4 => ?_)⟩
      obtain ⟨F4, p4 | p4⟩ := p4
      · obtain ⟨rfl, e4⟩ := p4
        exact go_X9_arcLine_41 (by decide) ⟨fun _ => k66 g4 (F1.ln.tr (F2.ln.tr (F3.ln.tr F4.ln))) (R3.same e4), fun z => absurd rfl z⟩
      · obtain ⟨rfl, ⟨b4, r4, hb4, T4⟩, o4, ⟨p1, hp1, ep1, fp1⟩, ne4⟩ := p4
        have R4 : RD g4 := R3.k o4 (by rw [ep1]; exact vi_of (by omega) (by omega))
        have G4 := G3.tb F4
        refine go_X9_arcLine_41 (by decide) ⟨fun z => absurd z (by decide), fun _ => sp_takes (d := d + 1) (k := 2) T4 (by decide) rfl _ (fun v g5 p5 => ?_)⟩
        obtain ⟨F5, p5 | p5⟩ := p5
        · obtain ⟨rfl, -, e5⟩ := p5
          exact go_X9_arcLine_52 (by decide) ⟨fun _ => k66 g5 (F1.ln.tr (F2.ln.tr (F3.ln.tr (F4.ln.tr F5.tb.ln)))) (R4.same e5), fun z => absurd rfl z⟩
        · obtain ⟨rfl, ⟨b5, r5, hb5, T5⟩, o5, rg5, -⟩ := p5
          obtain ⟨m2, -, hm2, em2⟩ := rf_nat (lo := 0) (hi := 99) (by omega) (by omega) rg5
          have R5 : RD g5 := R4.k o5 (by rw [em2]; exact vi_of (by omega) (by omega))
          have G5 := G4.tb F5.tb
          refine go_X9_arcLine_52 (by decide) ⟨fun z => absurd z (by decide), fun _ => sp_takes (d := d + 1) (k := 3) T5 (by decide) rfl _ (fun v g6 p6 => ?_)⟩
          obtain ⟨F6, p6 | p6⟩ := p6
          · obtain ⟨rfl, -, e6⟩ := p6
            exact go_X9_arcLine_63 (by decide) ⟨fun _ => k66 g6 (F1.ln.tr (F2.ln.tr (F3.ln.tr (F4.ln.tr (F5.tb.ln.tr F6.tb.ln))))) (R5.same e6), fun z => absurd rfl z⟩
          · obtain ⟨rfl, ⟨b6, r6, hb6, T6⟩, o6, rg6, -⟩ := p6
            obtain ⟨m3, -, hm3, em3⟩ := rf_nat (lo := 0) (hi := 99) (by omega) (by omega) rg6
            have R6 : RD g6 := R5.k o6 (by rw [em3]; exact vi_of (by omega) (by omega))
            have G6 := G5.tb F6.tb
            have FL6 := F1.ln.tr (F2.ln.tr (F3.ln.tr (F4.ln.tr (F5.tb.ln.tr F6.tb.ln))))
            have hr6 : r ≤ b6 := by
              have := T2.2.2.2.2.1
              have := T3.2.2.2.2.1
              have := T4.2.2.2.2.1
              have := T5.2.2.2.2.1
              omega
            have x0 : g6.1 275 0 = nI p0 := by rw [o6 0 (by decide), o5 0 (by decide), o4 0 (by decide)]; exact ep0
            have x1 : g6.1 275 1 = nI p1 := by rw [o6 1 (by decide), o5 1 (by decide)]; exact ep1
            have x2 : g6.1 275 2 = nI m2 := by rw [o6 2 (by decide)]; exact em2
            have f0 : g6.1 278 p0 ≠ -1 := F6.tb.2.2.2 _ (F5.tb.2.2.2 _ (F4.2.2.2 _ fp0))
            have f1 : g6.1 278 p1 ≠ -1 := F6.tb.2.2.2 _ (F5.tb.2.2.2 _ fp1)
            have ne : g6.1 270 13 = -1 → p0 ≠ p1 := fun z y => by
              have z4 := F5.2.2 (F6.2.2 z)
              refine ne4 z4 ?_
              rw [ep1, ← y]
              exact ep0.symm
            refine go_X9_arcLine_63 (by decide) ⟨fun z => absurd z (by decide), fun _ => go_X9_arcLine_68 (by decide) ⟨fun _ => go_X9_arcLine_153 (by decide) (q _ g6 ⟨FL6, R6, Or.inr ⟨rfl, ⟨k, G6⟩, b6, r6, hr6, T6⟩⟩), fun c14 => ?_⟩⟩
            have hk : k < 14 := by
              rw [G6.2.1] at c14
              rcases Nat.lt_or_ge k 14 with z | z
              · exact z
              · exact absurd (show nI 14 ≤ nI k from nI_le z (by have := G6.1; omega)) c14
            rw [G6.2.1]
            have i0 : (7 : Int32) * nI k + 0 = nI (7 * k + 0) := i7k (w := 0)
            have i1 : (7 : Int32) * nI k + 1 = nI (7 * k + 1) := i7k (w := 1)
            have i2 : (7 : Int32) * nI k + 2 = nI (7 * k + 2) := i7k (w := 2)
            have i3 : (7 : Int32) * nI k + 3 = nI (7 * k + 3) := i7k (w := 3)
            rw [i0, i1, i2, i3, nI_clamp (show 7 * k + 0 < 2 ^ 31 by omega), nI_clamp (show 7 * k + 1 < 2 ^ 31 by omega), nI_clamp (show 7 * k + 2 < 2 ^ 31 by omega), nI_clamp (show 7 * k + 3 < 2 ^ 31 by omega)]
            refine ⟨vi_of (by omega) (by omega), vi_of (by omega) (by omega), vi_of (by omega) (by omega), vi_of (by omega) (by omega), go_X9_arcLine_153 (by decide) ?_⟩
            have key : ∀ (a0 a1 a2 a3 a4 : Int32), a0 = nI p0 → a1 = nI p1 → a2 = nI m2 → a3 = nI m3 → a4 = nI k → Q (.int 1) (w1 (w1 (w1 (w1 (w1 g6 277 (7 * k + 0) a0) 277 (7 * k + 1) a1) 277 (7 * k + 2) a2) 277 (7 * k + 3) (sg * a3)) 270 19 (a4 + 1)) := by
              rintro a0 a1 a2 a3 a4 rfl rfl rfl rfl rfl
              rw [nI_1]
              refine q _ _ ⟨FL6.tr (((((FLn.w (Or.inl (by decide))).tr (FLn.w (Or.inl (by decide)))).tr (FLn.w (Or.inl (by decide)))).tr (FLn.w (Or.inl (by decide)))).tr (FLn.w (Or.inr ⟨rfl, by decide⟩))), R6.same (by rw [w1_ne (by decide), w1_ne (by decide), w1_ne (by decide), w1_ne (by decide), w1_ne (by decide)]), Or.inr ⟨rfl, ⟨k + 1, G6.arc hk hs x0 x1 x2 em3 hp0 hp1 hm2 hm3 f0 f1 ne⟩, b6, r6, hr6, ((((T6.o (by decide)).o (by decide)).o (by decide)).o (by decide)).w (by omega)⟩⟩
            exact key _ _ _ _ _ x0 x1 x2 em3 G6.2.1
  refine en_X9_arcLine (by decide) (go_X9_arcLine_0 (by decide) ⟨fun _ => ?_, fun _ => k17 h FTa.rf.tb T R G⟩)
  rw [T.2.2.2.1]
  refine sp_bad (d := d + 3) (nI_m1 (by omega)) _ (fun _ g2 p2 => ?_)
  obtain ⟨v, hv, rfl⟩ := p2
  exact k17 _ (FTa.bad hv).tb (T.w (by omega)) (R.same (w1_ne (by decide))) (G.tb (FTa.bad hv).tb)
end RGT
