/-! ===== the reference's line of an arc: told exactly ===== -/
section RX5
variable {h g : LH} {d : Nat} {c : Nat → Int32}
theorem FTq.ln {k : Nat} (F : FTq h g k) : FLn h g := ⟨fun e h1 h2 => F.1 e h2 (by omega), F.2.1 5 (by decide) (by decide) (by decide) (by decide) (by decide)⟩
theorem FTp.ln {k : Nat} (F : FTp h g k) : FLn h g := ⟨fun e h1 h2 => F.1 e h2 (by omega) (by omega), F.2.1 5 (by decide) (by decide) (by decide) (by decide) (by decide)⟩
theorem px_in99 {l p : Nat} (h : px_t c l p = 2) : rf_in (px_num c l p) 0 99 = true := by
  obtain ⟨m, hm, e⟩ := px_num99 h
  rw [e]
  unfold rf_in
  have a : ¬ nI m < 0 := nI_pos (by omega)
  have b : ¬ (99 : Int32) < nI m := nI_nlt (a := 99) (by omega) (by omega)
  simp [a, b]
theorem RD.tq {k : Nat} {v : Int32} (R : RD h) (o : ∀ i, i ≠ k → g.1 275 i = h.1 275 i) (e : g.1 275 k = v) (hv : vp_in v 100) : RD g := R.k o (by rw [e]; exact hv)
theorem px_rd100 {x lo hi : Int32} (hx : ∃ m, m ≤ 99 ∧ x = nI m) (hl : vp_in lo 100) : vp_in (px_rd x lo hi) 100 := by
  unfold px_rd
  split
  · obtain ⟨m, hm, e⟩ := hx
    rw [e]
    exact vi_of (by omega) (by omega)
  · exact hl
/-- what is bad behind a line of an arc -/
def px_ab (n b : Nat) (n0 n1 : Int32) (b1 b2 : Nat) (s : Int32) : Int32 :=
  if px_rd n1 0 6 = px_rd n0 0 6 then bd (px_bt n1 0 6 b2 (px_bt n0 0 6 b1 (if n = 14 then bd s b else s))) b2 else px_bt n1 0 6 b2 (px_bt n0 0 6 b1 (if n = 14 then bd s b else s))
/-- the first place of a point -/
def px_fa (f : Nat → Int32) (x : Int32) (b : Nat) : Nat → Int32 := fun i => if i = (px_rd x 0 6).toNatClampNeg then (if f i = -1 then nI b else f i) else f i
theorem px_rdm {x : Int32} : px_rd x 0 6 ≠ -1 := fun z => by
  have := px_rd7 x
  rw [z] at this
  exact this (Or.inl (by decide))
/-- two points and two numbers: the reference reads them, before it keeps the arc -/
theorem sx_arcN {L b n : Nat} {x1 : Int32} (hL : L ≤ 400) (ec : (fun i => h.1 272 i &&& 255) = c) (P : PB h c L b) (t1 : px_t c L b = 1) (hn : n ≤ 14) (e19 : h.1 270 19 = nI n) (R : RD h) {Q : tf_Q} (q0 : ∀ g, FLn h g → RD g → (px_ns c L 4 (px_nx c L b)).2.2 = false → g.1 270 12 = nI (px_ns c L 4 (px_nx c L b)).2.1 → Q (.int 0) g) (q1 : ∀ g, FLn h g → RD g → (px_ns c L 4 (px_nx c L b)).2.2 = true → PB g c L (px_ns c L 4 (px_nx c L b)).2.1 → g.1 270 19 = nI n → g.1 270 18 = h.1 270 18 → g.1 270 20 = h.1 270 20 → g.1 276 = h.1 276 → g.1 277 = h.1 277 → g.1 270 13 = px_ab n b (px_num c L (px_nx c L b)) (px_num c L (px_nx c L (px_nx c L b))) (px_nx c L b) (px_nx c L (px_nx c L b)) (h.1 270 13) → (∀ i, g.1 278 i = px_fa (px_fa (h.1 278) (px_num c L (px_nx c L b)) (px_nx c L b)) (px_num c L (px_nx c L (px_nx c L b))) (px_nx c L (px_nx c L b)) i) → g.1 275 0 = px_rd (px_num c L (px_nx c L b)) 0 6 → g.1 275 1 = px_rd (px_num c L (px_nx c L (px_nx c L b))) 0 6 → g.1 275 2 = px_num c L (px_nx c L (px_nx c L (px_nx c L b))) → g.1 275 3 = px_num c L (px_nx c L (px_nx c L (px_nx c L (px_nx c L b)))) → lx_X9_arcLine 298 (tf_Cd 298 (d + 4)) Q 68 [.ref 270, .int x1, tf_z] [] g) : lx_X9_arcLine 298 (tf_Cd 298 (d + 4)) Q 0 [.ref 270, .int x1, tf_z] [] h := by
  have k17 : ∀ g0 : LH, PB g0 c L b → FLn h g0 → RD g0 → (fun i => g0.1 272 i &&& 255) = c → (∀ e, 276 ≤ e → g0.1 e = h.1 e) → (∀ i, 14 ≤ i → g0.1 270 i = h.1 270 i) → g0.1 270 13 = (if n = 14 then bd (h.1 270 13) b else h.1 270 13) → lx_X9_arcLine 298 (tf_Cd 298 (d + 4)) Q 17 [.ref 270, .int x1, tf_z] [] g0 := by
    intro g0 P0 F0 R0 ec0 o0 i0 z0
    refine go_X9_arcLine_17 (by decide) (P0.tok (d := d + 2) hL ec0 (by rw [t1]; decide) _ (fun _ g1 p1 => go_X9_arcLine_21 (by decide) ?_))
    obtain ⟨F1, P1⟩ := p1
    generalize px_nx c L b = b1 at q0 q1 P1
    have ec1 : (fun i => g1.1 272 i &&& 255) = c := by rw [F1.1 272 (by decide)]; exact ec0
    have R1 : RD g1 := R0.same (F1.1 275 (by decide))
    have G1 : FLn h g1 := F0.tr F1.ln
    refine sx_tpt (d := d) (k := 0) hL ec1 P1 (by omega) _ (fun v g2 p2 => ?_)
    rw [px_ns] at q0 q1
    by_cases t : px_t c L b1 = 2
    · obtain ⟨rfl, P2, F2, a2, z2, w2'⟩ := p2.2 t
      rw [if_pos t] at q0 q1
      rw [if_neg px_rdm] at z2
      refine go_X9_arcLine_27 (by decide) ⟨fun z => absurd z (by decide), fun _ => ?_⟩
      have e00 : (0 : Int32).toNatClampNeg = 0 := rfl
      rw [e00, a2]
      generalize px_nx c L b1 = b2 at q0 q1 P2
      have ec2 : (fun i => g2.1 272 i &&& 255) = c := by rw [F2.1 272 (by decide) (by decide) (by decide)]; exact ec1
      have R2 : RD g2 := R1.tq F2.2.2 a2 (px_rd100 (px_num99 t) (vi_of (j := 0) (by omega) (by omega)))
      refine sx_tpt (d := d) (k := 1) hL ec2 P2 (by omega) _ (fun v g3 p3 => ?_)
      rw [px_ns] at q0 q1
      by_cases t' : px_t c L b2 = 2
      · obtain ⟨rfl, P3, F3, a3, z3, w3⟩ := p3.2 t'
        rw [if_pos t'] at q0 q1
        refine go_X9_arcLine_41 (by decide) ⟨fun z => absurd z (by decide), fun _ => ?_⟩
        generalize px_nx c L b2 = b3 at q0 q1 P3
        have ec3 : (fun i => g3.1 272 i &&& 255) = c := by rw [F3.1 272 (by decide) (by decide) (by decide)]; exact ec2
        have R3 : RD g3 := R2.tq F3.2.2 a3 (px_rd100 (px_num99 t') (vi_of (j := 0) (by omega) (by omega)))
        refine sx_takes (d := d + 1) (k := 2) hL ec3 P3 (by omega) _ (fun v g4 p4 => ?_)
        rw [px_ns] at q0 q1
        by_cases t3 : px_t c L b3 = 2
        · obtain ⟨rfl, P4, F4', a4, z4⟩ := p4.2 t3
          rw [if_pos (px_in99 t3)] at a4 z4
          rw [if_pos t3] at q0 q1
          refine go_X9_arcLine_52 (by decide) ⟨fun z => absurd z (by decide), fun _ => ?_⟩
          generalize px_nx c L b3 = b4 at q0 q1 P4
          have ec4 : (fun i => g4.1 272 i &&& 255) = c := by rw [F4'.1 272 (by decide) (by decide)]; exact ec3
          have R4 : RD g4 := by
            obtain ⟨m, hm, e⟩ := px_num99 t3
            exact R3.tq F4'.2.2 a4 (by rw [e]; exact vi_of (by omega) (by omega))
          refine sx_takes (d := d + 1) (k := 3) hL ec4 P4 (by omega) _ (fun v g5 p5 => ?_)
          rw [px_ns] at q0 q1
          by_cases t4 : px_t c L b4 = 2
          · obtain ⟨rfl, P5, F5, a5, z5⟩ := p5.2 t4
            rw [if_pos (px_in99 t4)] at a5 z5
            rw [if_pos t4] at q0 q1
            have R5 : RD g5 := by
              obtain ⟨m, hm, e⟩ := px_num99 t4
              exact R4.tq F5.2.2 a5 (by rw [e]; exact vi_of (by omega) (by omega))
            have up : ∀ i, 14 ≤ i → g5.1 270 i = h.1 270 i := fun i hi => by rw [F5.2.1 i (by omega) (by omega) (by omega) (by omega) (by omega), F4'.2.1 i (by omega) (by omega) (by omega) (by omega) (by omega), F3.2.1 i (by omega) (by omega) (by omega) (by omega) (by omega), F2.2.1 i (by omega) (by omega) (by omega) (by omega) (by omega), F1.2 i (by omega) (by omega) (by omega) (by omega)]; exact i0 i hi
            have oth : ∀ e, 276 ≤ e → e ≠ 278 → g5.1 e = h.1 e := fun e h1 h2 => by rw [F5.1 e (by omega) (by omega), F4'.1 e (by omega) (by omega), F3.1 e (by omega) (by omega) h2, F2.1 e (by omega) (by omega) h2, F1.1 e (by omega)]; exact o0 e h1
            refine go_X9_arcLine_63 (by decide) ⟨fun z => absurd z (by decide), fun _ => q1 g5 ((((G1.tr F2.ln).tr F3.ln).tr F4'.ln).tr F5.ln) R5 rfl P5 ((up 19 (by omega)).trans e19) (up 18 (by omega)) (up 20 (by omega)) (oth 276 (by omega) (by omega)) (oth 277 (by omega) (by omega)) ?_ (fun i => ?_) ?_ ?_ ?_ a5⟩
            · rw [z5, z4, z3, z2, F1.2 13 (by decide) (by decide) (by decide) (by decide), z0]
              rfl
            · rw [F5.1 278 (by decide) (by decide), F4'.1 278 (by decide) (by decide), w3 i]
              unfold px_fa
              rw [w2' i, F1.1 278 (by decide), o0 278 (by omega)]
            · rw [F5.2.2 0 (by decide), F4'.2.2 0 (by decide), F3.2.2 0 (by decide)]
              exact a2
            · rw [F5.2.2 1 (by decide), F4'.2.2 1 (by decide)]
              exact a3
            · rw [F5.2.2 2 (by decide)]
              exact a4
          · obtain ⟨rfl, rfl⟩ := p5.1 t4
            rw [if_neg t4] at q0
            exact go_X9_arcLine_63 (by decide) ⟨fun _ => go_X9_arcLine_66 (by decide) (q0 _ ((((G1.tr F2.ln).tr F3.ln).tr F4'.ln).tr (FLn.w (Or.inr ⟨rfl, by decide⟩))) (R4.same (w1_ne (by decide))) rfl w1_eq), fun z => absurd rfl z⟩
        · obtain ⟨rfl, rfl⟩ := p4.1 t3
          rw [if_neg t3] at q0
          exact go_X9_arcLine_52 (by decide) ⟨fun _ => go_X9_arcLine_66 (by decide) (q0 _ (((G1.tr F2.ln).tr F3.ln).tr (FLn.w (Or.inr ⟨rfl, by decide⟩))) (R3.same (w1_ne (by decide))) rfl w1_eq), fun z => absurd rfl z⟩
      · obtain ⟨rfl, rfl⟩ := p3.1 t'
        rw [if_neg t'] at q0
        exact go_X9_arcLine_41 (by decide) ⟨fun _ => go_X9_arcLine_66 (by decide) (q0 _ ((G1.tr F2.ln).tr (FLn.w (Or.inr ⟨rfl, by decide⟩))) (R2.same (w1_ne (by decide))) rfl w1_eq), fun z => absurd rfl z⟩
    · obtain ⟨rfl, rfl⟩ := p2.1 t
      rw [if_neg t] at q0
      exact go_X9_arcLine_27 (by decide) ⟨fun _ => go_X9_arcLine_66 (by decide) (q0 _ (G1.tr (FLn.w (Or.inr ⟨rfl, by decide⟩))) (R1.same (w1_ne (by decide))) rfl w1_eq), fun z => absurd rfl z⟩
  refine go_X9_arcLine_0 (by decide) ⟨fun z => ?_, fun z => k17 h P FLn.rf R ec (fun _ _ => rfl) (fun _ _ => rfl) ?_⟩
  · have n14 : n = 14 := by
      rw [e19] at z
      exact (nI_eq (a := n) (b := 14) (by omega) (by omega)).mp z
    rw [P.2.2.1]
    refine sx_bad (d := d + 3) _ (k17 _ (P.same (fun i hi => w1_at (by omega)) rfl) (FLn.w (Or.inr ⟨rfl, by decide⟩)) (R.same (w1_ne (by decide))) (by rw [w1_ne (by decide)]; exact ec) (fun e he => w1_ne (by omega)) (fun i hi => w1_at (by omega)) ?_)
    rw [w1_eq, if_pos n14]
  · rw [if_neg (fun y => z (by rw [e19, y]; rfl))]
end RX5
