/-! ===== the reference reads all orders; allLines whole ===== -/
/-- what is bad behind all orders -/
def px_oS : List px_L → Int32 → Int32
  | [], s => s
  | L :: r, s => px_oS r (px_ob L.1 0 L.2.2 s)
section RXC
variable {h g : LH} {d : Nat} {c : Nat → Int32}
/-- the orders' numbers as the reference keeps them -/
def ONs (g : LH) (ls : List px_L) : Prop := ∀ i L, ls[i]? = some L → ∀ j N, j < 3 → L.2.2[j]? = some N → g.1 280 (4 * i + j) = px_ov L.1 j N.1
theorem ONs.same {ls : List px_L} (N : ONs h ls) (e : g.1 280 = h.1 280) : ONs g ls := fun i L hi j M hj hm => by rw [e]; exact N i L hi j M hj hm
theorem al_Ox {L : Nat} (hL : L ≤ 400) (ec : (fun i => h.1 272 i &&& 255) = c) {Q : tf_Q} : ∀ (f b : Nat) (acc : List px_L) (bad : Int32) (g : LH) (x3 : Value), 400 ≤ b + 5 * f → 5 * acc.length ≤ b → PB g c L b → RD g → g.1 270 13 = bad → g.1 270 23 = nI acc.length → ONs g acc → FLn h g → (∀ g p, (px_all c L 1 f b).2 = some p → g.1 270 12 = nI p → Q (.int 0) g) → (∀ g, (px_all c L 1 f b).2 = none → g.1 270 13 = px_oS (px_all c L 1 f b).1 bad → g.1 270 23 = nI (acc ++ (px_all c L 1 f b).1).length → ONs g (acc ++ (px_all c L 1 f b).1) → Q (.int 1) g) → lx_X9_allLines 298 (tf_Cd 298 (d + 6)) Q 42 [.ref 270, .int 0, .int 1, x3, tf_z] [] g := by
  intro f
  induction f with
  | zero =>
    intro b acc bad g x3 hf ho P R eb e23 N F q0 q1
    have t0 : px_t c L b = 0 := px_t400 (by omega)
    rw [px_all0 t0, List.append_nil] at q1
    have e9 : g.1 270 9 = 0 := P.2.2.2.1.trans (px_so_i.1.mpr t0)
    exact go_X9_allLines_42 (by decide) ⟨fun z => absurd z (by decide), fun _ => ⟨fun _ => go_X9_allLines_116 (by decide) ⟨rfl, q1 g rfl eb e23 N⟩, fun z => absurd e9 z⟩⟩
  | succ f ih =>
    intro b acc bad g x3 hf ho P R eb e23 N F q0 q1
    have ec1 : (fun i => g.1 272 i &&& 255) = c := by rw [F.1 272 (by decide) (by decide)]; exact ec
    by_cases t0 : px_t c L b = 0
    · rw [px_all0 t0, List.append_nil] at q1
      have e9 : g.1 270 9 = 0 := P.2.2.2.1.trans (px_so_i.1.mpr t0)
      exact go_X9_allLines_42 (by decide) ⟨fun z => absurd z (by decide), fun _ => ⟨fun _ => go_X9_allLines_116 (by decide) ⟨rfl, q1 g rfl eb e23 N⟩, fun z => absurd e9 z⟩⟩
    · have n9 : ¬ g.1 270 9 = 0 := fun y => t0 (px_so_i.1.mp (P.2.2.2.1.symm.trans y))
      by_cases t1 : px_t c L b = 1
      · have e9 : g.1 270 9 = 2 := P.2.2.2.1.trans (px_so_i.2.1.mpr t1)
        have ew : g.2 270 11 = px_wd c L b := P.2.2.2.2.2.2 t1
        have bl := (px_e_s (c := c) (l := L) (p := b) (Or.inl t1)).1
        refine go_X9_allLines_42 (by decide) ⟨fun z => absurd z (by decide), fun _ => ⟨fun z => absurd z n9, fun _ => ⟨fun _ => ?_, fun z => absurd e9 z⟩⟩⟩
        rw [ew]
        refine go_X9_allLines_69 (by decide) ⟨fun _ => go_X9_allLines_82 (by decide) ?_, fun z => absurd rfl z⟩
        cases z : px_vb c 1 b (px_e c L b) 15 0 with
        | none =>
          have no := px_vb_no 15 0 (by omega) z
          rw [px_allF t0 (px_lnN t1 z)] at q0
          refine orl_no (d := d + 2) P R (fun v hv hA y => ?_) _ (fun x g2 p => ?_)
          · exact no v (by omega) (by omega) hA ((px_is_W t1 (by omega)).mpr y)
          · obtain ⟨F2, R2, rfl, e12⟩ := p
            exact go_X9_allLines_87 (by decide) ⟨fun _ => al_no (q0 g2 b rfl e12), fun z => absurd rfl z⟩
        | some v =>
          obtain ⟨hv, hA, hi⟩ := px_vb_lt 15 0 (by omega) z
          have eW : px_wd c L b = px_W.getD v 0 := (px_is_W t1 hv).mp hi
          have eA : px_ar 1 v = tv_o.getD v 0 := rfl
          rw [eW]
          refine sx_orl (d := d + 2) (o := acc.length) hL ec1 P t1 (by omega) e23 R hv (by rw [← eA]; exact hA) _ (fun x g2 p => ?_)
          rw [← eA] at p
          obtain ⟨F2, R2, p0, p1⟩ := p
          by_cases o : (px_ns c L (px_ar 1 v).toNatClampNeg (px_nx c L b)).2.2 = true
          · obtain ⟨rfl, P2, b2, a23, lo2, hi2⟩ := p1 o
            by_cases t3 : px_t c L (px_ns c L (px_ar 1 v).toNatClampNeg (px_nx c L b)).2.1 = 3
            · have l5 := px_ln5 (c := c) (o := 1) P.1 (by rw [px_lnT t1 z ⟨o, t3⟩])
              rw [px_lnT t1 z ⟨o, t3⟩] at l5
              rw [px_allT t0 (px_lnT t1 z ⟨o, t3⟩)] at q0 q1
              have e4 : g2.1 270 9 = 4 := P2.2.2.2.1.trans (px_so_i.2.2.mpr t3)
              refine go_X9_allLines_87 (by decide) ⟨fun z => absurd z (by decide), fun _ => ⟨fun _ => go_X9_allLines_105 (by decide) ⟨fun z => absurd z (by decide), fun _ => P2.tok (d := d + 4) hL (by rw [F2.1 272 (by decide) (by decide)]; exact ec1) (by rw [t3]; decide) _ (fun _ g3 p3 => go_X9_allLines_113 (by decide) ?_)⟩, fun z => absurd e4 z⟩⟩
              obtain ⟨F3, P3⟩ := p3
              have l51 : b + 5 ≤ px_nx c L (px_ns c L (px_ar 1 v).toNatClampNeg (px_nx c L b)).2.1 := l5.1
              have la : (acc ++ [(v, b, (px_ns c L (px_ar 1 v).toNatClampNeg (px_nx c L b)).1)]).length = acc.length + 1 := by rw [List.length_append]; rfl
              have ap : ∀ r : List px_L, acc ++ ((v, b, (px_ns c L (px_ar 1 v).toNatClampNeg (px_nx c L b)).1) :: r) = (acc ++ [(v, b, (px_ns c L (px_ar 1 v).toNatClampNeg (px_nx c L b)).1)]) ++ r := fun r => by rw [List.append_assoc]; rfl
              refine ih _ (acc ++ [(v, b, (px_ns c L (px_ar 1 v).toNatClampNeg (px_nx c L b)).1)]) (px_ob v 0 (px_ns c L (px_ar 1 v).toNatClampNeg (px_nx c L b)).1 bad) g3 _ (by omega) (by rw [la]; omega) P3 (R2.same (F3.1 275 (by decide))) ?_ ?_ ?_ ((F.tr F2).tr F3.ln) q0 (fun g4 z a b' n => q1 g4 z a (by rw [ap]; exact b') (by rw [ap]; exact n))
              · rw [F3.2 13 (by decide) (by decide) (by decide) (by decide), b2, eb]
              · rw [F3.2 23 (by decide) (by decide) (by decide) (by decide), a23, la]
              · refine ONs.same (h := g2) (fun i M hM j K hj hK => ?_) (F3.1 280 (by decide))
                rcases Nat.lt_or_ge i acc.length with zi | zi
                · rw [List.getElem?_append_left zi] at hM
                  rw [lo2 _ (by omega)]
                  exact N i M hM j K hj hK
                · rw [List.getElem?_append_right zi] at hM
                  by_cases ei : i = acc.length
                  · subst ei
                    rw [Nat.sub_self] at hM
                    cases hM
                    exact hi2 j K hK
                  · obtain ⟨m, hm⟩ : ∃ m, i - acc.length = m + 1 := ⟨i - acc.length - 1, by omega⟩
                    rw [hm] at hM
                    cases hM
            · rw [px_allF t0 (px_lnF t1 z (fun y => t3 y.2))] at q0
              have n4 : ¬ g2.1 270 9 = 4 := fun y => t3 (px_so_i.2.2.mp (P2.2.2.2.1.symm.trans y))
              exact go_X9_allLines_87 (by decide) ⟨fun z => absurd z (by decide), fun _ => ⟨fun z => absurd z n4, fun _ => sx_fails (d := d + 5) _ (go_X9_allLines_104 (by decide) (al_no (q0 _ _ rfl (w1_eq.trans P2.2.2.1))))⟩⟩
          · have o' : (px_ns c L (px_ar 1 v).toNatClampNeg (px_nx c L b)).2.2 = false := Bool.eq_false_iff.mpr o
            obtain ⟨rfl, e12⟩ := p0 o'
            rw [px_allF t0 (px_lnF t1 z (fun y => o y.1))] at q0
            exact go_X9_allLines_87 (by decide) ⟨fun _ => al_no (q0 g2 _ rfl e12), fun z => absurd rfl z⟩
      · have n2 : ¬ g.1 270 9 = 2 := fun y => t1 (px_so_i.2.1.mp (P.2.2.2.1.symm.trans y))
        rw [px_allF t0 (px_lnW t1)] at q0
        refine go_X9_allLines_42 (by decide) ⟨fun z => absurd z (by decide), fun _ => ⟨fun z => absurd z n9, fun _ => ⟨fun z => absurd z n2, fun _ => go_X9_allLines_68 (by decide) (go_X9_allLines_69 (by decide) ⟨fun _ => go_X9_allLines_82 (by decide) (orl_no (d := d + 2) P R (fun v hv _ y => px_W0 v (by omega) y.symm) _ (fun x g2 p => ?_)), fun z => absurd rfl z⟩)⟩⟩⟩
        obtain ⟨F2, R2, rfl, e12⟩ := p
        exact go_X9_allLines_87 (by decide) ⟨fun _ => al_no (q0 g2 b rfl e12), fun z => absurd rfl z⟩
theorem al_st {L : Nat} {x1 : Int32} (hL : L ≤ 400) (es : h.1 271 170 = nI L) (ec : (fun i => h.1 272 i &&& 255) = c) (R : RD h) {Q : tf_Q} (q : ∀ h1 g2 : LH, (∀ e, e ≠ 270 → e ≠ 271 → h1.1 e = h.1 e) → (∀ i, i ≠ 7 → i ≠ 13 → i ≠ 6 → i ≠ 23 → h1.1 270 i = h.1 270 i) → h1.1 270 13 = -1 → h1.1 270 23 = 0 → FTk h1 g2 → PB g2 c L (px_p c L 0) → lx_X9_allLines 298 (tf_Cd 298 (d + 6)) Q 42 [.ref 270, .int x1, .int 1, tf_z, tf_z] [] g2) : tf_Cd 298 (d + 7) 20 [.ref 270, .int x1] h Q := by
  refine en_X9_allLines (by decide) (go_X9_allLines_0 (by decide) ?_)
  have key : ∀ a : Int32, a = nI L → tf_Cd 298 (d + 6) 10 [.ref 270] (w1 (w1 (w1 (w1 (w1 h 270 7 a) 271 170 0) 270 13 (-1)) 270 6 0) 270 23 0) (fun r g => lx_X9_allLines 298 (tf_Cd 298 (d + 6)) Q 40 [.ref 270, .int x1, tf_z, tf_z, tf_z] [] g) := by
    rintro a rfl
    have e7 : (w1 (w1 (w1 (w1 (w1 h 270 7 (nI L)) 271 170 0) 270 13 (-1)) 270 6 0) 270 23 0).1 270 7 = nI L := by rw [w1_at (by decide), w1_at (by decide), w1_at (by decide), w1_ne (by decide), w1_eq]
    have e6 : (w1 (w1 (w1 (w1 (w1 h 270 7 (nI L)) 271 170 0) 270 13 (-1)) 270 6 0) 270 23 0).1 270 6 = nI 0 := by rw [w1_at (by decide), w1_eq]; rfl
    have e13 : (w1 (w1 (w1 (w1 (w1 h 270 7 (nI L)) 271 170 0) 270 13 (-1)) 270 6 0) 270 23 0).1 270 13 = -1 := by rw [w1_at (by decide), w1_at (by decide), w1_eq]
    have e23 : (w1 (w1 (w1 (w1 (w1 h 270 7 (nI L)) 271 170 0) 270 13 (-1)) 270 6 0) 270 23 0).1 270 23 = 0 := w1_eq
    have eo : ∀ e, e ≠ 270 → e ≠ 271 → (w1 (w1 (w1 (w1 (w1 h 270 7 (nI L)) 271 170 0) 270 13 (-1)) 270 6 0) 270 23 0).1 e = h.1 e := fun e h1 h2 => by rw [w1_ne h1, w1_ne h1, w1_ne h1, w1_ne h2, w1_ne h1]
    have ei : ∀ i, i ≠ 7 → i ≠ 13 → i ≠ 6 → i ≠ 23 → (w1 (w1 (w1 (w1 (w1 h 270 7 (nI L)) 271 170 0) 270 13 (-1)) 270 6 0) 270 23 0).1 270 i = h.1 270 i := fun i h1 h2 h3 h4 => by rw [w1_at h4, w1_at h3, w1_at h2, w1_ne (by decide), w1_at h1]
    generalize w1 (w1 (w1 (w1 (w1 h 270 7 (nI L)) 271 170 0) 270 13 (-1)) 270 6 0) 270 23 0 = h1 at e7 e6 e13 e23 eo ei
    refine sx_tok (d := d + 4) hL (Nat.zero_le _) (by rw [eo 272 (by decide) (by decide)]; exact ec) e7 e6 _ (fun _ g2 p2 => go_X9_allLines_40 (by decide) (q h1 g2 eo ei e13 e23 p2.1 p2.2))
  exact key _ es
/-- all lines of a grid's text -/
theorem sx_alG {L : Nat} {s : px_S} (hL : L ≤ 400) (es : h.1 271 170 = nI L) (ec : (fun i => h.1 272 i &&& 255) = c) (R : RD h) (hn : s.n ≤ 14) (G : RGs h s) (sb : s.bad = -1) : tf_Sp (d + 7) 20 [.ref 270, .int 1] h (fun v g => (∀ p, (px_all c L 0 80 (px_p c L 0)).2 = some p → v = .int 0 ∧ g.1 270 12 = nI p) ∧ ((px_all c L 0 80 (px_p c L 0)).2 = none → v = .int 1 ∧ g.1 270 7 = nI L ∧ RGs g (px_sS (px_all c L 0 80 (px_p c L 0)).1 s))) := by
  intro Q q
  refine al_st hL es ec R (fun h1 g2 eo ei e13 e23 F2 P2 => ?_)
  have G1 : RGs h1 s := by
    obtain ⟨a1, a2, a3, a4, a5, a6, a7⟩ := G
    exact ⟨e13.trans sb.symm, (eo 278 (by decide) (by decide)).trans a2, (ei 18 (by decide) (by decide) (by decide) (by decide)).trans a3, (ei 19 (by decide) (by decide) (by decide) (by decide)).trans a4, (ei 20 (by decide) (by decide) (by decide) (by decide)).trans a5, (eo 276 (by decide) (by decide)).trans a6, (eo 277 (by decide) (by decide)).trans a7⟩
  refine al_Gx (h := h1) hL (by rw [eo 272 (by decide) (by decide)]; exact ec) 80 (px_p c L 0) s g2 _ (by omega) P2 ((R.same (eo 275 (by decide) (by decide))).same (F2.1 275 (by decide))) hn (F2.rg G1) F2.ln (fun g p z _ _ e => q _ g ⟨fun p2 hp => ?_, fun y => ?_⟩) (fun g z e7 G2 => q _ g ⟨fun p2 hp => ?_, fun _ => ⟨rfl, e7, G2⟩⟩)
  · rw [z] at hp
    cases hp
    exact ⟨rfl, e⟩
  · rw [z] at y
    cases y
  · rw [z] at hp
    cases hp
/-- all orders -/
theorem sx_alO {L : Nat} (hL : L ≤ 400) (es : h.1 271 170 = nI L) (ec : (fun i => h.1 272 i &&& 255) = c) (R : RD h) : tf_Sp (d + 7) 20 [.ref 270, .int 0] h (fun v g => (∀ p, (px_all c L 1 80 (px_p c L 0)).2 = some p → v = .int 0 ∧ g.1 270 12 = nI p) ∧ ((px_all c L 1 80 (px_p c L 0)).2 = none → v = .int 1 ∧ g.1 270 13 = px_oS (px_all c L 1 80 (px_p c L 0)).1 (-1) ∧ g.1 270 23 = nI (px_all c L 1 80 (px_p c L 0)).1.length ∧ ONs g (px_all c L 1 80 (px_p c L 0)).1)) := by
  intro Q q
  refine al_st hL es ec R (fun h1 g2 eo ei e13 e23 F2 P2 => ?_)
  refine al_Ox (h := h1) hL (by rw [eo 272 (by decide) (by decide)]; exact ec) 80 (px_p c L 0) [] (-1) g2 _ (by omega) (Nat.zero_le _) P2 ((R.same (eo 275 (by decide) (by decide))).same (F2.1 275 (by decide))) ((F2.2 13 (by decide) (by decide) (by decide) (by decide)).trans e13) ((F2.2 23 (by decide) (by decide) (by decide) (by decide)).trans e23) (fun i L hi => by cases hi) F2.ln (fun g p z e => q _ g ⟨fun p2 hp => ?_, fun y => ?_⟩) (fun g z a b n => q _ g ⟨fun p2 hp => ?_, fun _ => ⟨rfl, a, b, n⟩⟩)
  · rw [z] at hp
    cases hp
    exact ⟨rfl, e⟩
  · rw [z] at y
    cases y
  · rw [z] at hp
    cases hp
end RXC
