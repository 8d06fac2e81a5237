/-! ===== toll on both sides ===== -/
section WGT
variable {h g g2 r r2 T T2 : LH} {b n k m M t d : Nat}
theorem ze_31 (I : IZ h t) (ht : t ≤ 511) (x y : Int32) : lk_eq h 210 [.ref 240, .int x, .int y] 106 [.ref 270, .int x, .int y] (fun g => IZ g (t + 1)) := by
  obtain ⟨n, k, m, hm, H, G, N⟩ := I.1.1
  have X : XA h (2000000 * t) := I.2.1.1.1.1
  have n7 := G.1.1.2.1
  have k14 := G.1.1.2.2
  have s0 := sx_two (h := h) (d := 8) H.1.1 x y
  have tw : nt_two h 0 x y = rf_two h x y := two_eq N.1 G.1 x y
  by_cases e : rf_two h x y = true
  · have e2 : nt_two h 0 x y = true := tw.trans e
    obtain ⟨hx, hy⟩ := two_in H.1 e2
    obtain ⟨p, o, hp, ho, hpo, ep, eo⟩ := rf_two_t G.1 e
    have cp : x.toNatClampNeg = p := by rw [ep]; exact nI_clamp (by omega)
    have co : y.toNatClampNeg = o := by rw [eo]; exact nI_clamp (by omega)
    obtain ⟨g1, s1, X1, H1, N1, L1, E1⟩ := try_cp (d := 8) X hm H N n7 k14
    obtain ⟨v, g2, s2, X2, F2, L2, lv⟩ := try_lv (d := 4) X1 hm (by omega) H1 N1 G (by omega)
    have H2 : NT g2 0 n k m := H.same (fun e h1 h2 => by rw [L2 e (by omega), L1 e (by omega)])
    have N2 : NR g2 0 h n k m := N.eq n7 k14 (fun o ho => by rw [L2 _ (by omega), L1 _ (by omega)])
    obtain ⟨g3, s3, X3, H3, N3, L3, E3⟩ := try_cp (d := 8) X2 (by omega) H2 N2 n7 k14
    have G3 : GIW h n k (8000 * t) := GIW.wk G
    have B3 := N3.1.nb
    obtain ⟨g4, hg4⟩ : ∃ g4 : LH, g4 = w1 (w1 g3 16 p (g3.1 16 p + 1)) 16 o ((w1 g3 16 p (g3.1 16 p + 1)).1 16 o - 1) := ⟨_, rfl⟩
    have H4 : NT g4 15 n k m := by
      rw [hg4]
      exact (H3.w6 (by decide) (by decide) (by decide) (by decide) (by decide) (by decide)).w6 (by decide) (by decide) (by decide) (by decide) (by decide) (by decide)
    have L4 : ∀ e, e ≠ 16 → g4.1 e = g3.1 e := fun e he => by rw [hg4, w1_ne he, w1_ne he]
    have E4 : g4.2 = g3.2 := by rw [hg4]
    obtain ⟨r4, hr4⟩ : ∃ r4 : LH, r4 = w1 (w1 h 271 (44 + p) (h.1 271 (44 + p) + 1)) 271 (44 + o) (h.1 271 (44 + o) - 1) := ⟨_, rfl⟩
    have er : ∀ i, i ≠ 44 + p → i ≠ 44 + o → r4.1 271 i = h.1 271 i := fun i h1 h2 => by rw [hr4, w1_at h2, w1_at h1]
    have erp : r4.1 271 (44 + p) = h.1 271 (44 + p) + 1 := by rw [hr4, w1_at (by omega), w1_eq]
    have ero : r4.1 271 (44 + o) = h.1 271 (44 + o) - 1 := by rw [hr4, w1_eq]
    have B4 : BIW r4 n k := by
      obtain ⟨c1, h1, e1⟩ := G.2.2.2.2.1.2.2.2 p hp
      obtain ⟨c2, h2, e2⟩ := G.2.2.2.2.1.2.2.2 o ho
      rw [hr4]
      refine (G3.bi.sup (p := p) (s := c1 + 2) (by omega) (by omega) ?_).sup (p := o) (s := c2) (by omega) (by omega) ?_
      · rw [Int32.add_assoc, show (1 : Int32) + 100 = 99 + 1 + 1 from rfl, ← Int32.add_assoc, ← Int32.add_assoc, e1, nI_1, nI_1]
      · rw [Int32.sub_eq_add_neg, Int32.add_assoc, show (-1 : Int32) + 100 = 99 from rfl, e2]
    have su : ∀ q, q < n → g4.1 (15 + 1) q = r4.1 271 (44 + q) := by
      intro q hq
      have q3 : g3.1 (15 + 1) q = h.1 271 (44 + q) := N3.1.2.1 q hq
      have p3 : g3.1 (15 + 1) p = h.1 271 (44 + p) := N3.1.2.1 p hp
      have o3 : g3.1 (15 + 1) o = h.1 271 (44 + o) := N3.1.2.1 o ho
      rw [hg4]
      show (w1 (w1 g3 16 p (g3.1 16 p + 1)) 16 o ((w1 g3 16 p (g3.1 16 p + 1)).1 16 o - 1)).1 16 q = _
      by_cases z1 : q = o
      · rw [z1, w1_eq, w1_at (Ne.symm hpo), ero]
        rw [show g3.1 16 o = h.1 271 (44 + o) from o3]
      · rw [w1_at z1]
        by_cases z2 : q = p
        · rw [z2, w1_eq, erp, show g3.1 16 p = h.1 271 (44 + p) from p3]
        · rw [w1_at z2, er _ (by omega) (by omega)]
          exact q3
    have NB4 : NB g4 15 r4 n k := B3.mv n7 k14 (L4 15 (by omega)) su (fun o h1 h2 => L4 _ (by omega)) (er 2 (by omega) (by omega)) (fun i h1 h2 => er i (by omega) (by omega))
    have A4 : TA g4 15 r4 m := N3.2.2.mv (fun o h1 h2 => L4 _ (by omega)) (fun i h1 h2 => er i (by omega) (by omega))
    obtain ⟨w, g5, g6, s5, s6, X6, F6, lw⟩ := try_lvW (d := 8) (d2 := 4) X3 (by omega) (by omega) H4 (fun e he => L4 e (by omega)) E4 B4 NB4 A4
    have s7 := sx_less (d := 9) (h := g6) w v
    have lw2 : LVi h n k (capI h) (cosI h) (supW h p o) w := by
      unfold LV0 LVi at lw
      unfold LVi
      refine LVs.c lw (fun c hc => ?_) (fun q hq => ?_)
      · have rr : ∀ u, u < 7 → rm r4 c u = rm h c u := fun u hu => er _ (by omega) (by omega)
        refine ⟨?_, ?_, ?_, ?_⟩
        · unfold tlv; rw [rr 0 (by omega)]
        · unfold hdv; rw [rr 1 (by omega)]
        · unfold capI; rw [rr 2 (by omega), rr 6 (by omega)]
        · unfold cosI; rw [rr 3 (by omega)]
      · unfold supW supI
        by_cases z1 : q = o
        · rw [if_pos z1, z1, ero]
        · rw [if_neg z1]
          by_cases z2 : q = p
          · rw [if_pos z2, z2, erp]
          · rw [if_neg z2, er _ (by omega) (by omega)]
    have e271 : g6.1 271 = h.1 271 := by rw [F6.1 271 (by omega), L3 271 (by omega), F2.1 271 (by omega), L1 271 (by omega)]
    have Gg : GI g6 n k (8000 * t) := G.cong (fun i _ => by rw [e271])
    refine ze_q (g := g6) (v := qv_less w v) (iz_31 I ht x y) (fun Q q => en_X8_toll (by decide) (go_X8_toll_0 (by decide) (s0 _ (go_X8_toll_9 (by decide) ⟨fun z => absurd z (by rw [bI_0, e2]; decide), fun _ => go_X8_toll_16 (by decide) (s1 _ (go_X8_toll_27 (by decide) (s2 _ (go_X8_toll_31 (by decide) (s3 _ (go_X8_toll_43 (by decide) ⟨hx, hx, hy, hy, ?_⟩))))))⟩)))) ((xr_toll Gg x y).mp (fun u _ q => ?_))
    · have := s5 (fun r g => lx_X8_toll 298 (tf_Cd 298 10) Q 77 [.ref 240, .int x, .int y, .int v] [] g) (go_X8_toll_77 (by decide) (s6 _ (go_X8_toll_81 (by decide) (s7 _ (go_X8_toll_85 (by decide) q)))))
      rw [hg4, ← cp, ← co] at this
      exact this
    · obtain ⟨z1, z2, eu, l1, l2⟩ := q.2 p o hp ho hpo ep eo
      have cw : capI g6 = capI h := funext fun c => by unfold capI rm; rw [e271]
      have cs : cosI g6 = cosI h := funext fun c => by unfold cosI rm; rw [e271]
      have sw : supW g6 p o = supW h p o := funext fun c => by unfold supW supI; rw [e271]
      rw [eu, (LV0.cg e271 l1).uni lv, (LVi.cg e271 cw cs sw l2).uni lw2]
  · have ef : rf_two h x y = false := Bool.eq_false_iff.mpr e
    exact ze_q (g := h) (v := -1000000) (iz_31 I ht x y) (fun Q q => en_X8_toll (by decide) (go_X8_toll_0 (by decide) (s0 _ (go_X8_toll_9 (by decide) ⟨fun _ => q, fun z => absurd (by rw [bI_0, tw]; exact ef) z⟩)))) ((xr_toll G x y).mp (fun w _ p => p.1 ef))
end WGT
