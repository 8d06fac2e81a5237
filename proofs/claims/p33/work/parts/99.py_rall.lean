/-! ===== the reference reads all lines: told exactly ===== -/
section PXP
variable {c : Nat → Int32}
theorem px_e_s {l p : Nat} (hp : px_t c l p = 1 ∨ px_t c l p = 2 ∨ px_t c l p = 3) : p < l ∧ p + 1 ≤ px_e c l p := by
  have hk : px_k c l p = px_t c l p := by
    unfold px_t
    split
    · rename_i z
      unfold px_t at hp
      rw [if_pos z] at hp
      rcases hp with y | y | y <;> exact absurd y (by decide)
    · rfl
  have pl : p < l := by
    rcases Nat.lt_or_ge p l with z | z
    · exact z
    · exfalso
      unfold px_k at hk
      rw [if_neg (by omega)] at hk
      rw [← hk] at hp
      rcases hp with y | y | y <;> exact absurd y (by decide)
  refine ⟨pl, ?_⟩
  have kk : px_k c l p = px_kd (c p) := by
    unfold px_k
    rw [if_pos pl]
  unfold px_e
  by_cases z : px_k c l p = 1 ∨ px_k c l p = 2
  · rw [if_pos z]
    obtain ⟨f, hf⟩ : ∃ f, l - p = f + 1 := ⟨l - p - 1, by omega⟩
    rw [hf, px_rn, if_pos kk.symm]
    exact (px_rn_le f (p + 1)).1
  · rw [if_neg z]
    rw [hk] at z ⊢
    rcases hp with y | y | y
    · exact absurd (Or.inl y) z
    · exact absurd (Or.inr y) z
    · rw [if_pos y]
      exact Nat.le_refl _
theorem px_nx_s {l p : Nat} (pl : p ≤ l) : px_e c l p ≤ px_nx c l p ∧ px_nx c l p ≤ l := by
  unfold px_nx
  exact px_p_le (px_e_le pl).2
theorem px_ns_s {l : Nat} : ∀ (k p : Nat), p ≤ l → p ≤ (px_ns c l k p).2.1 ∧ (px_ns c l k p).2.1 ≤ l ∧ ((px_ns c l k p).2.2 = true → p + k ≤ (px_ns c l k p).2.1 ∧ (px_ns c l k p).1.length = k)
  | 0, p, hp => ⟨Nat.le_refl _, hp, fun _ => ⟨Nat.le_refl _, rfl⟩⟩
  | k + 1, p, hp => by
    by_cases t : px_t c l p = 2
    · have s := px_e_s (c := c) (l := l) (p := p) (Or.inr (Or.inl t))
      have n := px_nx_s (c := c) hp
      obtain ⟨a, b, d⟩ := px_ns_s k (px_nx c l p) n.2
      rw [px_nsS t]
      refine ⟨by show p ≤ (px_ns c l k (px_nx c l p)).2.1; omega, b, fun o => ?_⟩
      obtain ⟨d1, d2⟩ := d o
      exact ⟨by show p + (k + 1) ≤ (px_ns c l k (px_nx c l p)).2.1; omega, by rw [List.length_cons, d2]⟩
    · rw [px_nsF t]
      exact ⟨Nat.le_refl _, hp, fun o => by cases o⟩
theorem px_len5 : ∀ v, v < 15 → (tv_g.getD v 0 ≠ -1 → 5 ≤ tv_len.getD v 0 + (tv_g.getD v 0).toNatClampNeg + 1) ∧ (tv_o.getD v 0 ≠ -1 → 5 ≤ tv_len.getD v 0 + (tv_o.getD v 0).toNatClampNeg + 1) := by decide
theorem px_vb_no {o : Int32} {p e : Nat} : ∀ (f i : Nat), i + f = 15 → px_vb c o p e f i = none → ∀ v, i ≤ v → v < 15 → px_ar o v ≠ -1 → ¬ px_is c p e v = true
  | 0, i, hf, q, v, h1, h2 => by omega
  | f + 1, i, hf, q, v, h1, h2 => by
    intro ha
    unfold px_vb at q
    split at q
    · cases q
    · rename_i hc
      by_cases vi : v = i
      · subst vi
        exact fun y => hc ⟨ha, y⟩
      · exact px_vb_no f (i + 1) (by omega) q v (by omega) h2 ha
/-- a line is five signs long, or more -/
theorem px_ln5 {l p : Nat} {o : Int32} {L : px_L} (hp : p ≤ l) (e : (px_ln c l o p).1 = some L) : p + 5 ≤ (px_ln c l o p).2 ∧ (px_ln c l o p).2 ≤ l := by
  unfold px_ln at e ⊢
  by_cases t : px_t c l p = 1
  · rw [if_pos t] at e ⊢
    cases z : px_vb c o p (px_e c l p) 15 0 with
    | none =>
      rw [z] at e
      cases e
    | some v =>
      rw [z] at e
      obtain ⟨hv, ha, hi⟩ := px_vb_lt 15 0 (by omega) z
      simp only at e ⊢
      split at e
      · rename_i o2
        rw [if_pos o2]
        have n := px_nx_s (c := c) hp
        obtain ⟨a, b, d⟩ := px_ns_s (c := c) (px_ar o v).toNatClampNeg (px_nx c l p) n.2
        obtain ⟨d1, -⟩ := d o2.1
        have s := px_e_s (c := c) (Or.inr (Or.inr o2.2))
        have n2 := px_nx_s (c := c) b
        have le : tv_len.getD v 0 = px_e c l p - p := by
          unfold px_is at hi
          rw [Bool.and_eq_true, decide_eq_true_eq] at hi
          exact hi.1
        have e1 := px_e_le (c := c) hp
        have l5 : 5 ≤ tv_len.getD v 0 + (px_ar o v).toNatClampNeg + 1 := by
          unfold px_ar at ha ⊢
          split at ha
          · rename_i y
            rw [if_pos y]
            exact (px_len5 v hv).1 ha
          · rename_i y
            rw [if_neg y]
            exact (px_len5 v hv).2 ha
        show p + 5 ≤ px_nx c l (px_ns c l (px_ar o v).toNatClampNeg (px_nx c l p)).2.1 ∧ px_nx c l (px_ns c l (px_ar o v).toNatClampNeg (px_nx c l p)).2.1 ≤ l
        omega
      · cases e
  · rw [if_neg t] at e
    cases e
theorem px_so_i {t : Int32} : (px_so t = 0 ↔ t = 0) ∧ (px_so t = 2 ↔ t = 1) ∧ (px_so t = 4 ↔ t = 3) := by
  unfold px_so
  by_cases t0 : t = 0
  · subst t0; decide
  · rw [if_neg t0]
    by_cases t1 : t = 1
    · subst t1; decide
    · rw [if_neg t1]
      by_cases t2 : t = 2
      · subst t2; decide
      · rw [if_neg t2]
        by_cases t3 : t = 3
        · subst t3; decide
        · rw [if_neg t3]
          exact ⟨⟨fun y => absurd y (by decide), fun y => absurd y t0⟩, ⟨fun y => absurd y (by decide), fun y => absurd y t1⟩, ⟨fun y => absurd y (by decide), fun y => absurd y t3⟩⟩
theorem px_t400 {l p : Nat} (h : l ≤ p) : px_t c l p = 0 := by
  have k : px_k c l p = 0 := by
    unfold px_k
    rw [if_neg (by omega)]
  unfold px_t
  rw [if_neg (fun y => by rw [k] at y; exact absurd y.1 (by decide)), k]
end PXP
/-- all lines of a grid's text -/
def px_sS : List px_L → px_S → px_S
  | [], s => s
  | L :: r, s => px_sS r (px_sl L.1 L.2.1 L.2.2 s)
theorem px_sl_n {v b : Nat} {l : List (Int32 × Nat)} {s : px_S} (h : s.n ≤ 14) : (px_sl v b l s).n ≤ 14 := by
  unfold px_sl
  split
  · exact h
  · split
    · show (if s.n < 14 then s.n + 1 else s.n) ≤ 14
      split <;> omega
    · split
      · exact h
      · split
        · exact h
        · exact h
section RXB
variable {h g : LH} {d : Nat} {c : Nat → Int32}
theorem px_gv : ∀ v, v < 15 → tv_g.getD v 0 ≠ -1 → (v = 0 ∧ (tv_g.getD v 0).toNatClampNeg = 1) ∨ ((v = 1 ∨ v = 2) ∧ (tv_g.getD v 0).toNatClampNeg = 4) ∨ ((v = 3 ∨ v = 4) ∧ (tv_g.getD v 0).toNatClampNeg = 2) ∨ (v = 5 ∧ (tv_g.getD v 0).toNatClampNeg = 1) ∨ ((v = 6 ∨ v = 7 ∨ v = 8) ∧ (tv_g.getD v 0).toNatClampNeg = 0) := by decide
theorem sx_grl {L b v : Nat} {s : px_S} (hL : L ≤ 400) (ec : (fun i => h.1 272 i &&& 255) = c) (P : PB h c L b) (t1 : px_t c L b = 1) (hn : s.n ≤ 14) (G : RGs h s) (R : RD h) (hv : v < 15) (hA : tv_g.getD v 0 ≠ -1) : tf_Sp (d + 6) 18 [.ref 270, .long (px_W.getD v 0)] h (fun x g => LX h g c L (px_ns c L (tv_g.getD v 0).toNatClampNeg (px_nx c L b)) x (px_sl v b (px_ns c L (tv_g.getD v 0).toNatClampNeg (px_nx c L b)).1 s)) := by
  rcases px_gv v hv hA with ⟨rfl, e⟩ | ⟨y, e⟩ | ⟨y, e⟩ | ⟨rfl, e⟩ | ⟨y, e⟩
  · rw [e]; exact grl_pts hL ec P t1 G R
  · rw [e]; exact grl_arc hL ec P t1 hn G R y
  · rw [e]; exact grl_sup hL ec P t1 G R y
  · rw [e]; exact grl_blk hL ec P t1 hn G R
  · rw [e]; exact grl_rule hL ec P t1 G R y
/-- a loop that failed ends -/
theorem al_no {x1 : Int32} {Q : tf_Q} {x3 : Int64} (q : Q (.int 0) g) : lx_X9_allLines 298 (tf_Cd 298 (d + 6)) Q 105 [.ref 270, .int x1, .int 0, .long x3, tf_z] [] g := go_X9_allLines_105 (by decide) ⟨fun _ => go_X9_allLines_113 (by decide) (go_X9_allLines_42 (by decide) ⟨fun _ => go_X9_allLines_116 (by decide) ⟨rfl, q⟩, fun z => absurd rfl z⟩), fun z => absurd rfl z⟩
theorem px_lnW {L b : Nat} {o : Int32} (t1 : px_t c L b ≠ 1) : px_ln c L o b = (none, b) := by
  unfold px_ln
  rw [if_neg t1]
theorem px_lnN {L b : Nat} {o : Int32} (t1 : px_t c L b = 1) (z : px_vb c o b (px_e c L b) 15 0 = none) : px_ln c L o b = (none, b) := by
  unfold px_ln
  rw [if_pos t1, z]
theorem px_lnF {L b v : Nat} {o : Int32} (t1 : px_t c L b = 1) (z : px_vb c o b (px_e c L b) 15 0 = some v) (n : ¬ ((px_ns c L (px_ar o v).toNatClampNeg (px_nx c L b)).2.2 = true ∧ px_t c L (px_ns c L (px_ar o v).toNatClampNeg (px_nx c L b)).2.1 = 3)) : px_ln c L o b = (none, (px_ns c L (px_ar o v).toNatClampNeg (px_nx c L b)).2.1) := by
  unfold px_ln
  rw [if_pos t1, z]
  show (if _ then _ else _) = _
  rw [if_neg n]
theorem px_lnT {L b v : Nat} {o : Int32} (t1 : px_t c L b = 1) (z : px_vb c o b (px_e c L b) 15 0 = some v) (n : (px_ns c L (px_ar o v).toNatClampNeg (px_nx c L b)).2.2 = true ∧ px_t c L (px_ns c L (px_ar o v).toNatClampNeg (px_nx c L b)).2.1 = 3) : px_ln c L o b = (some (v, b, (px_ns c L (px_ar o v).toNatClampNeg (px_nx c L b)).1), px_nx c L (px_ns c L (px_ar o v).toNatClampNeg (px_nx c L b)).2.1) := by
  unfold px_ln
  rw [if_pos t1, z]
  show (if _ then _ else _) = _
  rw [if_pos n]
theorem px_allF {L b f p : Nat} {o : Int32} (t0 : px_t c L b ≠ 0) (e : px_ln c L o b = (none, p)) : px_all c L o (f + 1) b = ([], some p) := by
  rw [px_all, if_neg t0, e]
theorem px_allT {L b f p : Nat} {o : Int32} {ln : px_L} (t0 : px_t c L b ≠ 0) (e : px_ln c L o b = (some ln, p)) : px_all c L o (f + 1) b = (ln :: (px_all c L o f p).1, (px_all c L o f p).2) := by
  rw [px_all, if_neg t0, e]
theorem px_all0 {L b f : Nat} {o : Int32} (t0 : px_t c L b = 0) : px_all c L o f b = ([], none) := by
  cases f with
  | zero => rw [px_all, if_pos t0]
  | succ f => rw [px_all, if_pos t0]
/-- all lines of a grid's text, by the reference -/
theorem al_Gx {L : Nat} (hL : L ≤ 400) (ec : (fun i => h.1 272 i &&& 255) = c) {Q : tf_Q} : ∀ (f b : Nat) (s : px_S) (g : LH) (x3 : Value), 400 ≤ b + 5 * f → PB g c L b → RD g → s.n ≤ 14 → RGs g s → FLn h g → (∀ g p, (px_all c L 0 f b).2 = some p → FLn h g → RD g → g.1 270 12 = nI p → Q (.int 0) g) → (∀ g, (px_all c L 0 f b).2 = none → g.1 270 7 = nI L → RGs g (px_sS (px_all c L 0 f b).1 s) → Q (.int 1) g) → lx_X9_allLines 298 (tf_Cd 298 (d + 6)) Q 42 [.ref 270, .int 1, .int 1, x3, tf_z] [] g := by
  intro f
  induction f with
  | zero =>
    intro b s g x3 hf P R hn G F q0 q1
    have t0 : px_t c L b = 0 := px_t400 (by omega)
    rw [px_all0 t0] at q1
    have e9 : g.1 270 9 = 0 := P.2.2.2.1.trans (px_so_i.1.mpr t0)
    exact go_X9_allLines_42 (by decide) ⟨fun z => absurd z (by decide), fun _ => ⟨fun _ => go_X9_allLines_116 (by decide) ⟨rfl, q1 g rfl P.2.1 G⟩, fun z => absurd e9 z⟩⟩
  | succ f ih =>
    intro b s g x3 hf P R hn G F q0 q1
    have ec1 : (fun i => g.1 272 i &&& 255) = c := by rw [F.1 272 (by decide) (by decide)]; exact ec
    by_cases t0 : px_t c L b = 0
    · rw [px_all0 t0] at q1
      have e9 : g.1 270 9 = 0 := P.2.2.2.1.trans (px_so_i.1.mpr t0)
      exact go_X9_allLines_42 (by decide) ⟨fun z => absurd z (by decide), fun _ => ⟨fun _ => go_X9_allLines_116 (by decide) ⟨rfl, q1 g rfl P.2.1 G⟩, fun z => absurd e9 z⟩⟩
    · have n9 : ¬ g.1 270 9 = 0 := fun y => t0 (px_so_i.1.mp (P.2.2.2.1.symm.trans y))
      by_cases t1 : px_t c L b = 1
      · have e9 : g.1 270 9 = 2 := P.2.2.2.1.trans (px_so_i.2.1.mpr t1)
        have ew : g.2 270 11 = px_wd c L b := P.2.2.2.2.2.2 t1
        refine go_X9_allLines_42 (by decide) ⟨fun z => absurd z (by decide), fun _ => ⟨fun z => absurd z n9, fun _ => ⟨fun _ => ?_, fun z => absurd e9 z⟩⟩⟩
        rw [ew]
        refine go_X9_allLines_69 (by decide) ⟨fun z => absurd z (by decide), fun _ => ?_⟩
        cases z : px_vb c 0 b (px_e c L b) 15 0 with
        | none =>
          have no := px_vb_no 15 0 (by omega) z
          rw [px_allF t0 (px_lnN t1 z)] at q0
          refine grl_no (d := d) P R (fun v hv y => ?_) _ (fun x g2 p => ?_)
          · have hA : ∀ v, v < 9 → px_ar 0 v ≠ -1 := by decide
            exact no v (by omega) (by omega) (hA v hv) ((px_is_W t1 (by omega)).mpr y)
          · obtain ⟨F2, R2, rfl, e12⟩ := p
            exact go_X9_allLines_79 (by decide) (go_X9_allLines_87 (by decide) ⟨fun _ => al_no (q0 g2 b rfl (F.tr F2) R2 e12), fun z => absurd rfl z⟩)
        | some v =>
          obtain ⟨hv, hA, hi⟩ := px_vb_lt 15 0 (by omega) z
          have eW : px_wd c L b = px_W.getD v 0 := (px_is_W t1 hv).mp hi
          have eA : px_ar 0 v = tv_g.getD v 0 := rfl
          rw [eW]
          refine sx_grl (d := d) hL ec1 P t1 hn G R hv (by rw [← eA]; exact hA) _ (fun x g2 p => ?_)
          rw [← eA] at p
          obtain ⟨F2, R2, p0, p1⟩ := p
          by_cases o : (px_ns c L (px_ar 0 v).toNatClampNeg (px_nx c L b)).2.2 = true
          · obtain ⟨rfl, P2, G2⟩ := p1 o
            by_cases t3 : px_t c L (px_ns c L (px_ar 0 v).toNatClampNeg (px_nx c L b)).2.1 = 3
            · have l5 := px_ln5 (c := c) (o := 0) P.1 (by rw [px_lnT t1 z ⟨o, t3⟩])
              rw [px_lnT t1 z ⟨o, t3⟩] at l5
              rw [px_allT t0 (px_lnT t1 z ⟨o, t3⟩)] at q0 q1
              have e4 : g2.1 270 9 = 4 := P2.2.2.2.1.trans (px_so_i.2.2.mpr t3)
              refine go_X9_allLines_79 (by decide) (go_X9_allLines_87 (by decide) ⟨fun z => absurd z (by decide), fun _ => ⟨fun _ => go_X9_allLines_105 (by decide) ⟨fun z => absurd z (by decide), fun _ => P2.tok (d := d + 4) hL (by rw [F2.1 272 (by decide) (by decide)]; exact ec1) (by rw [t3]; decide) _ (fun _ g3 p3 => go_X9_allLines_113 (by decide) ?_)⟩, fun z => absurd e4 z⟩⟩)
              obtain ⟨F3, P3⟩ := p3
              exact ih _ (px_sl v b (px_ns c L (px_ar 0 v).toNatClampNeg (px_nx c L b)).1 s) g3 _ (by have := l5.1; simp only at this; omega) P3 (R2.same (F3.1 275 (by decide))) (px_sl_n hn) (F3.rg G2) ((F.tr F2).tr F3.ln) q0 q1
            · rw [px_allF t0 (px_lnF t1 z (fun y => t3 y.2))] at q0
              have n4 : ¬ g2.1 270 9 = 4 := fun y => t3 (px_so_i.2.2.mp (P2.2.2.2.1.symm.trans y))
              exact go_X9_allLines_79 (by decide) (go_X9_allLines_87 (by decide) ⟨fun z => absurd z (by decide), fun _ => ⟨fun z => absurd z n4, fun _ => sx_fails (d := d + 5) _ (go_X9_allLines_104 (by decide) (al_no (q0 _ _ rfl ((F.tr F2).tr (FLn.w (Or.inr ⟨rfl, by decide⟩))) (R2.same (w1_ne (by decide))) (w1_eq.trans P2.2.2.1))))⟩⟩)
          · have o' : (px_ns c L (px_ar 0 v).toNatClampNeg (px_nx c L b)).2.2 = false := Bool.eq_false_iff.mpr o
            obtain ⟨rfl, e12⟩ := p0 o'
            rw [px_allF t0 (px_lnF t1 z (fun y => o y.1))] at q0
            exact go_X9_allLines_79 (by decide) (go_X9_allLines_87 (by decide) ⟨fun _ => al_no (q0 g2 _ rfl (F.tr F2) R2 e12), fun z => absurd rfl z⟩)
      · have n2 : ¬ g.1 270 9 = 2 := fun y => t1 (px_so_i.2.1.mp (P.2.2.2.1.symm.trans y))
        rw [px_allF t0 (px_lnW t1)] at q0
        refine go_X9_allLines_42 (by decide) ⟨fun z => absurd z (by decide), fun _ => ⟨fun z => absurd z n9, fun _ => ⟨fun z => absurd z n2, fun _ => go_X9_allLines_68 (by decide) (go_X9_allLines_69 (by decide) ⟨fun z => absurd z (by decide), fun _ => grl_no (d := d) P R (fun v hv y => px_W0 v (by omega) y.symm) _ (fun x g2 p => ?_)⟩)⟩⟩⟩
        obtain ⟨F2, R2, rfl, e12⟩ := p
        exact go_X9_allLines_79 (by decide) (go_X9_allLines_87 (by decide) ⟨fun _ => al_no (q0 g2 b rfl (F.tr F2) R2 e12), fun z => absurd rfl z⟩)
end RXB
