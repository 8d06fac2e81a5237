/-! ===== worth on both sides ===== -/
section WFW
variable {h g g2 r r2 T T2 : LH} {b n k m M t d : Nat}
theorem LVi.cg {cap c sup : Nat → Int32} {cap2 c2 sup2 : Nat → Int32} {x : Int32} (e : T.1 271 = r.1 271) (ea : cap2 = cap) (eb : c2 = c) (ec : sup2 = sup) (X : LVi T n k cap2 c2 sup2 x) : LVi r n k cap c sup x := by
  obtain ⟨-, -, -, a4, a5⟩ := rw_fr e
  unfold LVi at *
  rw [a4, a5, ea, eb, ec] at X
  exact X
/-- the row changed at one arc, and what its least is called -/
theorem lv_rp {a w : Nat} {v x y : Int32} (hw : w < 7) (h0 : 2 ≤ w) (n7 : n ≤ 7) (k14 : k ≤ 14) (ha : a < 14) (e : ∀ c, c < k → capW r y a c = capI (rp r a w v) c ∧ cosW r y a c = cosI (rp r a w v) c) (X : LV0 (rp r a w v) n k x) : LVi r n k (capW r y a) (cosW r y a) (supI r) x := by
  have en : ∀ i, i ≠ 72 + 7 * a + w → (rp r a w v).1 271 i = r.1 271 i := fun i hi => rp_ne hi
  unfold LV0 LVi at *
  refine LVs.c X (fun c hc => ?_) (fun p hp => ?_)
  · obtain ⟨e1, e2⟩ := e c hc
    refine ⟨?_, ?_, by rw [e1], by rw [e2]⟩
    · unfold tlv rm; rw [en _ (by omega)]
    · unfold hdv rm; rw [en _ (by omega)]
  · unfold supI
    rw [en _ (by omega)]
theorem in02 {y : Int32} : rf_in y 0 2 = true ↔ ¬ y < 0 ∧ y ≤ 2 := by
  unfold rf_in
  simp only [Bool.and_eq_true, Bool.not_eq_true', decide_eq_false_iff_not]
  exact ⟨fun z => ⟨z.1, Int32.not_lt.mp z.2⟩, fun z => ⟨z.1, Int32.not_lt.mpr z.2⟩⟩
theorem ze_30 (I : IZ h t) (ht : t ≤ 511) (x y : Int32) : lk_eq h 209 [.ref 240, .int x, .int y] 105 [.ref 270, .int x, .int y] (fun g => IZ g (t + 1)) := by
  obtain ⟨n, k, m, hm, H, G, N⟩ := I.1.1
  have X : XA h (2000000 * t) := I.2.1.1.1.1
  have n7 := G.1.1.2.1
  have k14 := G.1.1.2.2
  have s0 := sx_hasArc (h := h) (d := 9) H.1.1 x
  have ar : nt_hasArc h 0 x = rf_isArc h x := arc_eq N.1 G.1 x
  by_cases e : rf_isArc h x = true
  · have e2 : nt_hasArc h 0 x = true := ar.trans e
    have enz : ¬ bI (nt_hasArc h 0 x) = 0 := by rw [bI_0, e2]; decide
    by_cases c1 : y < 0
    · refine ze_q (g := h) (v := -1000000) (iz_30 I ht x y) (fun Q q => en_X8_worth (by decide) (go_X8_worth_0 (by decide) (s0 _ (go_X8_worth_8 (by decide) ⟨fun z => absurd z enz, fun _ => ⟨fun _ => go_X8_worth_20 (by decide) q, fun z => absurd c1 z⟩⟩)))) ((xr_worth G x y).mp (fun w _ p => p.1 (Or.inr ?_)))
      rw [← Bool.not_eq_true, in02]
      exact fun z => z.1 c1
    · by_cases c2 : y ≤ 2
      · have yin : rf_in y 0 2 = true := in02.mpr ⟨c1, c2⟩
        obtain ⟨a, ha, ea⟩ := rf_arc_t G.1 e
        have hx21 : vp_in x 21 := by rw [ea]; exact vi_of (by omega) (by omega)
        have ca : x.toNatClampNeg = a := by rw [ea]; exact nI_clamp (by omega)
        obtain ⟨g1, s1, X1, H1, N1, L1, E1⟩ := try_cp (d := 8) X hm H N n7 k14
        obtain ⟨v, g2, s2, X2, F2, L2, lv⟩ := try_lv (d := 4) X1 hm (by omega) H1 N1 G (by omega)
        have H2 : NT g2 0 n k m := H.same (fun e h1 h2 => by rw [L2 e (by omega), L1 e (by omega)])
        have N2 : NR g2 0 h n k m := N.eq n7 k14 (fun o ho => by rw [L2 _ (by omega), L1 _ (by omega)])
        obtain ⟨g3, s3, X3, H3, N3, L3, E3⟩ := try_cp (d := 8) X2 (by omega) H2 N2 n7 k14
        have G3 : GIW h n k (8000 * t) := GIW.wk G
        have B3 := N3.1.nb
        have main : ∃ (w : Int32) (g : LH), (∀ Q : tf_Q, Q (.int (qv_less w v)) g → lx_X8_worth 298 (tf_Cd 298 10) Q 51 [.ref 240, .int x, .int y, .int v] [] g3) ∧ Fr g3 g ∧ LVi h n k (capW h y a) (cosW h y a) (supI h) w := by
          have fin : ∀ g4 r4 : LH, NT g4 15 n k m → (∀ e, ¬ (15 ≤ e ∧ e < 30) → g4.1 e = g3.1 e) → g4.2 = g3.2 → BIW r4 n k → NB g4 15 r4 n k → TA g4 15 r4 m → (∀ z, LV0 r4 n k z → LVi h n k (capW h y a) (cosW h y a) (supI h) z) → ∃ (w : Int32) (g : LH), (∀ Q : tf_Q, Q (.int (qv_less w v)) g → lx_X8_worth 298 (tf_Cd 298 10) Q 102 [.ref 240, .int x, .int y, .int v] [] g4) ∧ Fr g3 g ∧ LVi h n k (capW h y a) (cosW h y a) (supI h) w := by
            intro g4 r4 H4 L4 E4 B4 NB4 A4 up
            obtain ⟨w, g5, g6, s5, s6, X6, F6, lw⟩ := try_lvW (d := 8) (d2 := 4) X3 (by omega) (by omega) H4 L4 E4 B4 NB4 A4
            have s7 := sx_less (d := 9) (h := g6) w v
            exact ⟨w, g6, fun Q q => go_X8_worth_102 (by decide) (s5 _ (go_X8_worth_110 (by decide) (s6 _ (go_X8_worth_114 (by decide) (s7 _ (go_X8_worth_118 (by decide) q)))))), F6, up w lw⟩
          have w15 : ∀ (c i : Nat) (u : Int32), 15 ≤ c → c < 30 → ∀ e, ¬ (15 ≤ e ∧ e < 30) → (w1 g3 c i u).1 e = g3.1 e := fun c i u h1 h2 e he => w1_ne (by omega)
          by_cases c3 : y = 0
          · have ev : g3.1 19 a + 1 = rm h a 2 + 1 := by rw [show g3.1 19 a = rm h a 2 from (N3.1.2.2.2.1.1 a ha).1]
            obtain ⟨bd, hbd, eb⟩ := vi_nI (G.2.2.2.1 a ha).1
            have up : ∀ c, c < k → capW h y a c = capI (rp h a 2 (rm h a 2 + 1)) c ∧ cosW h y a c = cosI (rp h a 2 (rm h a 2 + 1)) c := by
              refine fun c hc => ⟨?_, ?_⟩
              · have r6 : rm (rp h a 2 (rm h a 2 + 1)) c 6 = rm h c 6 := rp_ne (by omega)
                unfold capW capI
                rw [r6]
                by_cases z : c = a
                · have r2 : rm (rp h a 2 (rm h a 2 + 1)) a 2 = rm h a 2 + 1 := rp_at
                  rw [if_pos z, if_neg (by rw [c3]; decide), if_neg (by rw [c3]; decide), z, r2]
                  rcases N.1.2.2.2.2.2 a ha with ⟨s6, -, -⟩ | ⟨s6, -, -⟩
                  · rw [s6, if_pos rfl, if_neg (by decide), if_neg (by decide)]
                  · rw [s6, if_neg (by decide), if_pos rfl, if_pos rfl]
                · have r2 : rm (rp h a 2 (rm h a 2 + 1)) c 2 = rm h c 2 := rp_ne (by omega)
                  rw [if_neg z, r2]
              · have r3 : rm (rp h a 2 (rm h a 2 + 1)) c 3 = rm h c 3 := rp_ne (by omega)
                unfold cosW cosI
                rw [r3, if_neg (show ¬ y = 2 by rw [c3]; decide)]
                split <;> rfl
            obtain ⟨w, g, k1, k2⟩ := fin (w1 g3 19 a (rm h a 2 + 1)) (rp h a 2 (rm h a 2 + 1)) (H3.w6 (by decide) (by decide) (by decide) (by decide) (by decide) (by decide)) (w15 _ _ _ (by decide) (by decide)) rfl (G3.bi.arc (by omega) (Or.inl ⟨rfl, by rw [eb, nI_1]; exact vi_of (by omega) (by omega)⟩)) (NB.bound B3 k14 n7) (N3.2.2.bx (fun o h1 h2 => w1_ne (by omega))) (fun z lz => lv_rp (by omega) (by omega) n7 k14 (by omega) up lz)
            exact ⟨w, g, fun Q q => go_X8_worth_51 (by decide) ⟨fun _ => ⟨hx21, hx21, by rw [ca, ev]; exact k1 Q q⟩, fun z => absurd c3 z⟩, k2⟩
          · by_cases c4 : y = 1
            · have nb := NB.opn B3 (a := a) (y := 0) k14 n7
              rw [if_pos rfl, if_pos rfl] at nb
              have up : ∀ c, c < k → capW h y a c = capI (rp h a 6 1) c ∧ cosW h y a c = cosI (rp h a 6 1) c := by
                refine fun c hc => ⟨?_, ?_⟩
                · have r2 : rm (rp h a 6 1) c 2 = rm h c 2 := rp_ne (by omega)
                  unfold capW capI
                  rw [r2]
                  by_cases z : c = a
                  · have r6 : rm (rp h a 6 1) a 6 = 1 := rp_at
                    rw [if_pos z, if_neg (by rw [c4]; decide), if_pos c4, z, r6, if_pos rfl]
                  · have r6 : rm (rp h a 6 1) c 6 = rm h c 6 := rp_ne (by omega)
                    rw [if_neg z, r6]
                · have r3 : rm (rp h a 6 1) c 3 = rm h c 3 := rp_ne (by omega)
                  unfold cosW cosI
                  rw [r3, if_neg (show ¬ y = 2 by rw [c4]; decide)]
                  split <;> rfl
              obtain ⟨w, g, k1, k2⟩ := fin (w1 g3 22 a 3) (rp h a 6 1) (H3.w6 (by decide) (by decide) (by decide) (by decide) (by decide) (by decide)) (w15 _ _ _ (by decide) (by decide)) rfl (G3.bi.arc (by omega) (Or.inr rfl)) nb (N3.2.2.bx (fun o h1 h2 => w1_ne (by omega))) (fun z lz => lv_rp (by omega) (by omega) n7 k14 (by omega) up lz)
              exact ⟨w, g, fun Q q => go_X8_worth_51 (by decide) ⟨fun z => absurd z c3, fun _ => go_X8_worth_71 (by decide) ⟨fun _ => ⟨hx21, by rw [ca]; exact k1 Q q⟩, fun z => absurd c4 z⟩⟩, k2⟩
            · have c5 : y = 2 := by
                have h1 := Int32.not_lt.mp c1
                rw [Int32.le_iff_toInt_le] at h1 c2
                have n0 : y.toInt ≠ 0 := fun z => c3 (Int32.toInt_inj.mp z)
                have n1 : y.toInt ≠ 1 := fun z => c4 (Int32.toInt_inj.mp z)
                have t0 : (0 : Int32).toInt = 0 := rfl
                have t2 : (2 : Int32).toInt = 2 := rfl
                exact Int32.toInt_inj.mp (by omega)
              have ev : g3.1 20 a + 1 = rm h a 3 + 1 := by rw [show g3.1 20 a = rm h a 3 from N3.1.2.2.2.2.1.1 a ha]
              obtain ⟨c0, hc0, ec0⟩ := G.2.2.2.2.1.2.2.1 a ha
              have up : ∀ c, c < k → capW h y a c = capI (rp h a 3 (rm h a 3 + 1)) c ∧ cosW h y a c = cosI (rp h a 3 (rm h a 3 + 1)) c := by
                refine fun c hc => ⟨?_, ?_⟩
                · have r2 : rm (rp h a 3 (rm h a 3 + 1)) c 2 = rm h c 2 := rp_ne (by omega)
                  have r6 : rm (rp h a 3 (rm h a 3 + 1)) c 6 = rm h c 6 := rp_ne (by omega)
                  unfold capW capI
                  rw [r2, r6, if_pos c5]
                  split <;> rfl
                · unfold cosW cosI
                  rw [if_pos c5]
                  by_cases z : c = a
                  · have r3 : rm (rp h a 3 (rm h a 3 + 1)) a 3 = rm h a 3 + 1 := rp_at
                    rw [if_pos z, z, r3]
                  · have r3 : rm (rp h a 3 (rm h a 3 + 1)) c 3 = rm h c 3 := rp_ne (by omega)
                    rw [if_neg z, r3]
              obtain ⟨w, g, k1, k2⟩ := fin (w1 g3 20 a (rm h a 3 + 1)) (rp h a 3 (rm h a 3 + 1)) (H3.w6 (by decide) (by decide) (by decide) (by decide) (by decide) (by decide)) (w15 _ _ _ (by decide) (by decide)) rfl (G3.bi.cost (c := c0 + 1) (by omega) (by omega) (by rw [Int32.add_assoc, Int32.add_comm 1 99, ← Int32.add_assoc, ec0, nI_1])) (NB.cost B3 k14 n7) (N3.2.2.bx (fun o h1 h2 => w1_ne (by omega))) (fun z lz => lv_rp (by omega) (by omega) n7 k14 (by omega) up lz)
              exact ⟨w, g, fun Q q => go_X8_worth_51 (by decide) ⟨fun z => absurd z c3, fun _ => go_X8_worth_71 (by decide) ⟨fun z => absurd z c4, fun _ => go_X8_worth_89 (by decide) ⟨hx21, hx21, by rw [ca, ev]; exact k1 Q q⟩⟩⟩, k2⟩
        obtain ⟨w, g, k1, k2, lw⟩ := main
        have e271 : g.1 271 = h.1 271 := by rw [k2.1 271 (by omega), L3 271 (by omega), F2.1 271 (by omega), L1 271 (by omega)]
        have Gg : GI g n k (8000 * t) := G.cong (fun i _ => by rw [e271])
        refine ze_q (g := g) (v := qv_less w v) (iz_30 I ht x y) (fun Q q => en_X8_worth (by decide) (go_X8_worth_0 (by decide) (s0 _ (go_X8_worth_8 (by decide) ⟨fun z => absurd z enz, fun _ => ⟨fun z => absurd z c1, fun _ => ⟨fun _ => go_X8_worth_24 (by decide) (s1 _ (go_X8_worth_35 (by decide) (s2 _ (go_X8_worth_39 (by decide) (s3 _ (k1 Q q)))))), fun z => absurd c2 z⟩⟩⟩)))) ((xr_worth Gg x y).mp (fun u _ p => ?_))
        obtain ⟨z1, z2, eu, l1, l2⟩ := p.2 a ha ea yin
        have cw : capW g y a = capW h y a := funext fun c => by unfold capW capI rm; rw [e271]
        have cs : cosW g y a = cosW h y a := funext fun c => by unfold cosW cosI rm; rw [e271]
        have su : supI g = supI h := funext fun c => by unfold supI; rw [e271]
        rw [eu, (LV0.cg e271 l1).uni lv, (LVi.cg e271 cw cs su l2).uni lw]
      · refine ze_q (g := h) (v := -1000000) (iz_30 I ht x y) (fun Q q => en_X8_worth (by decide) (go_X8_worth_0 (by decide) (s0 _ (go_X8_worth_8 (by decide) ⟨fun z => absurd z enz, fun _ => ⟨fun z => absurd z c1, fun _ => ⟨fun z => absurd z c2, fun _ => go_X8_worth_20 (by decide) q⟩⟩⟩)))) ((xr_worth G x y).mp (fun w _ p => p.1 (Or.inr ?_)))
        rw [← Bool.not_eq_true, in02]
        exact fun z => c2 z.2
  · refine ze_q (g := h) (v := -1000000) (iz_30 I ht x y) (fun Q q => en_X8_worth (by decide) (go_X8_worth_0 (by decide) (s0 _ (go_X8_worth_8 (by decide) ⟨fun _ => go_X8_worth_20 (by decide) q, fun z => absurd (by rw [bI_0, ar]; exact Bool.eq_false_iff.mpr e) z⟩)))) ((xr_worth G x y).mp (fun w _ p => p.1 (Or.inl (Bool.eq_false_iff.mpr e))))
end WFW
