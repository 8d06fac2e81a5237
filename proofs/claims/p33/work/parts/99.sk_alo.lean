/-! ===== all lines of orders: their words ===== -/
section SKA
variable {h g : LH} {d : Nat} {c : Nat → Int32}
/-- the orders' words as the reference keeps them -/
def WDs (g : LH) (ls : List px_L) : Prop := ∀ i L, ls[i]? = some L → g.2 279 i = px_W.getD L.1 0
theorem al_Ow {L : Nat} (hL : L ≤ 400) (ec : (fun i => h.1 272 i &&& 255) = c) {Q : tf_Q} : ∀ (f b : Nat) (acc : List px_L) (bad : Int32) (g : LH) (x3 : Value), 400 ≤ b + 5 * f → 5 * acc.length ≤ b → PB g c L b → RD g → g.1 270 13 = bad → g.1 270 23 = nI acc.length → ONs g acc → (∃ bt r, 5 * acc.length ≤ bt ∧ TX g L bt r) → NBo g acc.length → WDs g acc → FLn h g → (∀ g p, (px_all c L 1 f b).2 = some p → g.1 270 12 = nI p → Q (.int 0) g) → (∀ g, (px_all c L 1 f b).2 = none → g.1 270 13 = px_oS (px_all c L 1 f b).1 bad → g.1 270 23 = nI (acc ++ (px_all c L 1 f b).1).length → ONs g (acc ++ (px_all c L 1 f b).1) → WDs g (acc ++ (px_all c L 1 f b).1) → Q (.int 1) g) → lx_X9_allLines 298 (tf_Cd 298 (d + 6)) Q 42 [.ref 270, .int 0, .int 1, x3, tf_z] [] g := by
  intro f
  induction f with
  | zero =>
    intro b acc bad g x3 hf ho P R eb e23 N TT NB WD F q0 q1
    have t0 : px_t c L b = 0 := px_t400 (by omega)
    rw [px_all0 t0, List.append_nil] at q1
    have e9 : g.1 270 9 = 0 := P.2.2.2.1.trans (px_so_i.1.mpr t0)
    exact go_X9_allLines_42 (by decide) ⟨fun z => absurd z (by decide), fun _ => ⟨fun _ => go_X9_allLines_116 (by decide) ⟨rfl, q1 g rfl eb e23 N WD⟩, fun z => absurd e9 z⟩⟩
  | succ f ih =>
    intro b acc bad g x3 hf ho P R eb e23 N TT NB WD F q0 q1
    have ec1 : (fun i => g.1 272 i &&& 255) = c := by rw [F.1 272 (by decide) (by decide)]; exact ec
    by_cases t0 : px_t c L b = 0
    · rw [px_all0 t0, List.append_nil] at q1
      have e9 : g.1 270 9 = 0 := P.2.2.2.1.trans (px_so_i.1.mpr t0)
      exact go_X9_allLines_42 (by decide) ⟨fun z => absurd z (by decide), fun _ => ⟨fun _ => go_X9_allLines_116 (by decide) ⟨rfl, q1 g rfl eb e23 N WD⟩, fun z => absurd e9 z⟩⟩
    · have n9 : ¬ g.1 270 9 = 0 := fun y => t0 (px_so_i.1.mp (P.2.2.2.1.symm.trans y))
      by_cases t1 : px_t c L b = 1
      · have e9 : g.1 270 9 = 2 := P.2.2.2.1.trans (px_so_i.2.1.mpr t1)
        have ew : g.2 270 11 = px_wd c L b := P.2.2.2.2.2.2 t1
        have bl := (px_e_s (c := c) (l := L) (p := b) (Or.inl t1)).1
        refine go_X9_allLines_42 (by decide) ⟨fun z => absurd z (by decide), fun _ => ⟨fun z => absurd z n9, fun _ => ⟨fun _ => ?_, fun z => absurd e9 z⟩⟩⟩
        rw [ew]
        refine go_X9_allLines_69 (by decide) ⟨fun _ => go_X9_allLines_82 (by decide) ?_, fun z => absurd rfl z⟩
        cases z : px_vb c 1 b (px_e c L b) 15 0 with
        | none =>
          have no := px_vb_no 15 0 (by omega) z
          rw [px_allF t0 (px_lnN t1 z)] at q0
          refine orl_no (d := d + 2) P R (fun v hv hA y => ?_) _ (fun x g2 p => ?_)
          · exact no v (by omega) (by omega) hA ((px_is_W t1 (by omega)).mpr y)
          · obtain ⟨F2, R2, rfl, e12⟩ := p
            exact go_X9_allLines_87 (by decide) ⟨fun _ => al_no (q0 g2 b rfl e12), fun z => absurd rfl z⟩
        | some v =>
          obtain ⟨hv, hA, hi⟩ := px_vb_lt 15 0 (by omega) z
          have eW : px_wd c L b = px_W.getD v 0 := (px_is_W t1 hv).mp hi
          have eA : px_ar 1 v = tv_o.getD v 0 := rfl
          rw [eW]
          obtain ⟨bt, rt, hbt, T⟩ := TT
          have hw : px_W.getD v 0 = 0 ∨ (g.1 270 9 = 2 ∧ px_W.getD v 0 = g.2 270 11) := Or.inr ⟨e9, (ew.trans eW).symm⟩
          refine ((sx_orl (d := d + 2) (o := acc.length) hL ec1 P t1 (by omega) e23 R hv (by rw [← eA]; exact hA)).cj ((sp_orl (d := d + 2) _ T R e23 NB hbt hw).cj (sr_orl (d := d + 2) _ T R e23 NB hbt hw))) _ (fun x g2 pp => ?_)
          obtain ⟨p, ⟨-, -, ps⟩, pw⟩ := pp
          rw [← eA] at p
          obtain ⟨F2, R2, p0, p1⟩ := p
          by_cases o : (px_ns c L (px_ar 1 v).toNatClampNeg (px_nx c L b)).2.2 = true
          · obtain ⟨rfl, P2, b2, a23, lo2, hi2⟩ := p1 o
            by_cases t3 : px_t c L (px_ns c L (px_ar 1 v).toNatClampNeg (px_nx c L b)).2.1 = 3
            · have l5 := px_ln5 (c := c) (o := 1) P.1 (by rw [px_lnT t1 z ⟨o, t3⟩])
              rw [px_lnT t1 z ⟨o, t3⟩] at l5
              rw [px_allT t0 (px_lnT t1 z ⟨o, t3⟩)] at q0 q1
              have e4 : g2.1 270 9 = 4 := P2.2.2.2.1.trans (px_so_i.2.2.mpr t3)
              obtain ⟨hb4, e2s, N2, b2t, r2t, hb2t, T2⟩ : bt + 4 ≤ rt ∧ g2.1 270 23 = nI (acc.length + 1) ∧ NBo g2 (acc.length + 1) ∧ ∃ b2 r2, rt ≤ b2 ∧ TX g2 L b2 r2 := by
                rcases ps with y | ⟨-, y⟩
                · cases y
                · exact y
              have h23 : b2t + 1 ≤ r2t := T2.2.2.2.2.2.2.1.resolve_left (fun z => by rw [z] at e4; exact absurd e4 (by decide))
              refine go_X9_allLines_87 (by decide) ⟨fun z => absurd z (by decide), fun _ => ⟨fun _ => go_X9_allLines_105 (by decide) ⟨fun z => absurd z (by decide), fun _ => ((P2.tok (d := d + 4) hL (by rw [F2.1 272 (by decide) (by decide)]; exact ec1) (by rw [t3]; decide)).cj (T2.tol (d := d + 4))) _ (fun _ g3 p3 => go_X9_allLines_113 (by decide) ?_)⟩, fun z => absurd e4 z⟩⟩
              obtain ⟨⟨F3, P3⟩, ⟨-, l3⟩, b3, r3, hb3, T3⟩ := p3
              have l51 : b + 5 ≤ px_nx c L (px_ns c L (px_ar 1 v).toNatClampNeg (px_nx c L b)).2.1 := l5.1
              have la : (acc ++ [(v, b, (px_ns c L (px_ar 1 v).toNatClampNeg (px_nx c L b)).1)]).length = acc.length + 1 := by rw [List.length_append]; rfl
              have ap : ∀ r : List px_L, acc ++ ((v, b, (px_ns c L (px_ar 1 v).toNatClampNeg (px_nx c L b)).1) :: r) = (acc ++ [(v, b, (px_ns c L (px_ar 1 v).toNatClampNeg (px_nx c L b)).1)]) ++ r := fun r => by rw [List.append_assoc]; rfl
              refine ih _ (acc ++ [(v, b, (px_ns c L (px_ar 1 v).toNatClampNeg (px_nx c L b)).1)]) (px_ob v 0 (px_ns c L (px_ar 1 v).toNatClampNeg (px_nx c L b)).1 bad) g3 _ (by omega) (by rw [la]; omega) P3 (R2.same (F3.1 275 (by decide))) ?_ ?_ ?_ ⟨b3, r3, by rw [la]; omega, T3⟩ (by rw [la]; exact N2.same (F3.1 280 (by decide))) ?_ ((F.tr F2).tr F3.ln) q0 (fun g4 z a b' n wd => q1 g4 z a (by rw [ap]; exact b') (by rw [ap]; exact n) (by rw [ap]; exact wd))
              · rw [F3.2 13 (by decide) (by decide) (by decide) (by decide), b2, eb]
              · rw [F3.2 23 (by decide) (by decide) (by decide) (by decide), a23, la]
              · refine ONs.same (h := g2) (fun i M hM j K hj hK => ?_) (F3.1 280 (by decide))
                rcases Nat.lt_or_ge i acc.length with zi | zi
                · rw [List.getElem?_append_left zi] at hM
                  rw [lo2 _ (by omega)]
                  exact N i M hM j K hj hK
                · rw [List.getElem?_append_right zi] at hM
                  by_cases ei : i = acc.length
                  · subst ei
                    rw [Nat.sub_self] at hM
                    cases hM
                    exact hi2 j K hK
                  · obtain ⟨m, hm⟩ : ∃ m, i - acc.length = m + 1 := ⟨i - acc.length - 1, by omega⟩
                    rw [hm] at hM
                    cases hM
              · intro i M hM
                rw [l3]
                rcases Nat.lt_or_ge i acc.length with zi | zi
                · rw [List.getElem?_append_left zi] at hM
                  rw [pw.1 i (by omega)]
                  exact WD i M hM
                · rw [List.getElem?_append_right zi] at hM
                  by_cases ei : i = acc.length
                  · subst ei
                    rw [Nat.sub_self] at hM
                    cases hM
                    exact pw.2 rfl
                  · obtain ⟨m, hm⟩ : ∃ m, i - acc.length = m + 1 := ⟨i - acc.length - 1, by omega⟩
                    rw [hm] at hM
                    cases hM
            · rw [px_allF t0 (px_lnF t1 z (fun y => t3 y.2))] at q0
              have n4 : ¬ g2.1 270 9 = 4 := fun y => t3 (px_so_i.2.2.mp (P2.2.2.2.1.symm.trans y))
              exact go_X9_allLines_87 (by decide) ⟨fun z => absurd z (by decide), fun _ => ⟨fun z => absurd z n4, fun _ => sx_fails (d := d + 5) _ (go_X9_allLines_104 (by decide) (al_no (q0 _ _ rfl (w1_eq.trans P2.2.2.1))))⟩⟩
          · have o' : (px_ns c L (px_ar 1 v).toNatClampNeg (px_nx c L b)).2.2 = false := Bool.eq_false_iff.mpr o
            obtain ⟨rfl, e12⟩ := p0 o'
            rw [px_allF t0 (px_lnF t1 z (fun y => o y.1))] at q0
            exact go_X9_allLines_87 (by decide) ⟨fun _ => al_no (q0 g2 _ rfl e12), fun z => absurd rfl z⟩
      · have n2 : ¬ g.1 270 9 = 2 := fun y => t1 (px_so_i.2.1.mp (P.2.2.2.1.symm.trans y))
        rw [px_allF t0 (px_lnW t1)] at q0
        refine go_X9_allLines_42 (by decide) ⟨fun z => absurd z (by decide), fun _ => ⟨fun z => absurd z n9, fun _ => ⟨fun z => absurd z n2, fun _ => go_X9_allLines_68 (by decide) (go_X9_allLines_69 (by decide) ⟨fun _ => go_X9_allLines_82 (by decide) (orl_no (d := d + 2) P R (fun v hv _ y => px_W0 v (by omega) y.symm) _ (fun x g2 p => ?_)), fun z => absurd rfl z⟩)⟩⟩⟩
        obtain ⟨F2, R2, rfl, e12⟩ := p
        exact go_X9_allLines_87 (by decide) ⟨fun _ => al_no (q0 g2 b rfl e12), fun z => absurd rfl z⟩
end SKA
