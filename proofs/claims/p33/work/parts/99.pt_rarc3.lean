/-! ===== the reference's arcLine, whole ===== -/
section RX7
variable {h g : LH} {d : Nat} {c : Nat → Int32}
/-- what the reference has gathered of a grid's text: the first bad place, points' first places, how many points, arcs, the rule, supplies, arcs told -/
def RG (g : LH) (bad : Int32) (fa : Nat → Int32) (pts : Int32) (n : Nat) (ru : Int32) (su tl : Nat → Int32) : Prop := g.1 270 13 = bad ∧ g.1 278 = fa ∧ g.1 270 18 = pts ∧ g.1 270 19 = nI n ∧ g.1 270 20 = ru ∧ g.1 276 = su ∧ g.1 277 = tl
theorem sx_arcL {L b n : Nat} {x1 bad pts ru : Int32} {fa su tl : Nat → Int32} (hL : L ≤ 400) (ec : (fun i => h.1 272 i &&& 255) = c) (P : PB h c L b) (t1 : px_t c L b = 1) (hn : n ≤ 14) (G : RG h bad fa pts n ru su tl) (R : RD h) : tf_Sp (d + 5) 16 [.ref 270, .int x1] h (fun v g => FLn h g ∧ RD g ∧ ((px_ns c L 4 (px_nx c L b)).2.2 = false → v = .int 0 ∧ g.1 270 12 = nI (px_ns c L 4 (px_nx c L b)).2.1) ∧ ((px_ns c L 4 (px_nx c L b)).2.2 = true → v = .int 1 ∧ PB g c L (px_ns c L 4 (px_nx c L b)).2.1 ∧ RG g (px_ab n b (px_num c L (px_nx c L b)) (px_num c L (px_nx c L (px_nx c L b))) (px_nx c L b) (px_nx c L (px_nx c L b)) bad) (px_fa (px_fa fa (px_num c L (px_nx c L b)) (px_nx c L b)) (px_num c L (px_nx c L (px_nx c L b))) (px_nx c L (px_nx c L b))) pts (if n < 14 then n + 1 else n) ru su (if n < 14 then px_tl tl n (px_rd (px_num c L (px_nx c L b)) 0 6) (px_rd (px_num c L (px_nx c L (px_nx c L b))) 0 6) (px_num c L (px_nx c L (px_nx c L (px_nx c L b)))) (x1 * px_num c L (px_nx c L (px_nx c L (px_nx c L (px_nx c L b))))) else tl))) := by
  intro Q q
  obtain ⟨g1, g2, g3, g4, g5, g6, g7⟩ := G
  refine en_X9_arcLine (by decide) (sx_arcN hL ec P t1 hn g4 R (fun g F R2 o e => q _ g ⟨F, R2, fun _ => ⟨rfl, e⟩, fun y => by rw [o] at y; cases y⟩) (fun g F R2 o P2 a19 a18 a20 a276 a277 a13 a278 r0 r1 r2 r3 => ?_))
  refine sx_arcK hn a19 (fun k o1 o2 i1 b19 b277 => q _ k ⟨F.tr ⟨fun e h1 h2 => o1 e h2 (by omega), i1 5 (by decide)⟩, R2.same (o1 275 (by decide) (by decide)), fun y => (by rw [o] at y; cases y), fun _ => ⟨rfl, P2.same (fun i hi => i1 i (by omega)) (by rw [o2]), ?_, ?_, ?_, b19, ?_, ?_, ?_⟩⟩)
  · rw [i1 13 (by decide), a13, g1]
  · funext i
    rw [o1 278 (by decide) (by decide), a278 i, g2]
  · rw [i1 18 (by decide), a18, g3]
  · rw [i1 20 (by decide), a20, g5]
  · rw [o1 276 (by decide) (by decide), a276, g6]
  · rw [b277, a277, g7, r0, r1, r2, r3]
end RX7
