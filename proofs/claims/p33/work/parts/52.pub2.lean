/-! ===== more of the class's acts ===== -/
section PV2
variable {h : LH} {M : Nat}
theorem w1_fr {g : LH} {c i : Nat} {v : Int32} (hc : c < 244) : Fr g (w1 g c i v) := Fr.rf.w hc
/-- what an act on the net leaves -/
theorem act_fr {g : LH} (hs : ∀ e, ¬ e < 15 → g.1 e = h.1 e) (h2 : g.2 = h.2) : Fr h g := ⟨fun e he => hs e (by omega), h2⟩
theorem pu_rule (X : XA h M) (x : Int32) : ∃ g : LH, tf_Rt 11 186 [.ref 240, .int x] h (.int (bI (nt_isR x))) g ∧ XA g M ∧ Fr h g := by
  obtain ⟨X1, F1, -⟩ := sv_ok X
  have s1 := sx_sv (d := 7) X
  generalize ac_sv h = h1 at X1 F1 s1
  have s2 := sx_setRule (d := 8) (h := h1) (b := 0) (by decide +kernel) x
  obtain ⟨h2, e2, X2, F2⟩ : ∃ h2, h2 = (if nt_isR x = true then w1 h1 0 2 x else h1) ∧ XA h2 M ∧ Fr h1 h2 := by
    refine ⟨_, rfl, ?_⟩
    split
    · obtain ⟨n, k, m, hm, H⟩ := X1.net
      have H2 : NT (w1 h1 0 2 x) 0 n k m := by
        obtain ⟨⟨K, hb, h0, hk, hu, hue, ht, hh⟩, hm2, hs⟩ := H
        refine ⟨⟨K, hb, by rw [w1_at (by decide)]; exact h0, by rw [w1_at (by decide)]; exact hk, fun p hp => ?_, fun p hp => ?_, fun a ha => ?_, fun a ha => ?_⟩, by rw [w1_ne (by decide)]; exact hm2, by rw [w1_ne (by decide)]; exact hs⟩
        · rw [w1_ne (by decide)]; exact hu p hp
        · rw [w1_ne (by decide)]; exact hue p hp
        · rw [w1_ne (by decide)]; exact ht a ha
        · rw [w1_ne (by decide)]; exact hh a ha
      exact ⟨act_ok X1 hm H2 (fun e he => w1_ne (by omega)), w1_fr (by decide)⟩
    · exact ⟨X1, Fr.rf⟩
  rw [← e2] at s2
  have s3 := sx_ca (d := 9) (h := h2) (nt_isR x)
  obtain ⟨X3, F3, -⟩ := ca_ok X2 (bI (nt_isR x))
  exact ⟨_, fun Q q => en_X8_rule (by decide) (go_X8_rule_0 (by decide) (s1 _ (go_X8_rule_4 (by decide) (s2 _ (go_X8_rule_13 (by decide) (s3 _ (go_X8_rule_16 (by decide) ⟨bI_nar _, q⟩))))))), X3, (F1.tr F2).tr F3⟩
theorem NT.w6 {b n k m c i : Nat} {v : Int32} (H : NT h b n k m) (h0 : c ≠ b) (h11 : c ≠ b + 11) (h2 : c ≠ b + 2) (h3 : c ≠ b + 3) (h8 : c ≠ b + 8) (h9 : c ≠ b + 9) : NT (w1 h c i v) b n k m :=
  ⟨H.1.w h0 (fun z => absurd z h2) (fun z => absurd z h3) (fun z => absurd z h8) (fun z => absurd z h9), by rw [w1_ne (Ne.symm h11)]; exact H.2.1, by rw [w1_ne (Ne.symm h11)]; exact H.2.2⟩
theorem pu_shift (X : XA h M) (x y z : Int32) : ∃ (v : Int32) (g : LH), tf_Rt 11 187 [.ref 240, .int x, .int y, .int z] h (.int v) g ∧ XA g M ∧ Fr h g := by
  obtain ⟨X1, F1, -⟩ := sv_ok X
  have s1 := sx_sv (d := 7) X
  generalize ac_sv h = h1 at X1 F1 s1
  obtain ⟨n, k, m, hm, H⟩ := X1.net
  have s2 := sx_move (d := 7) H.1 x y z
  obtain ⟨h2, e2, X2, F2⟩ : ∃ h2, h2 = (if nt_canMove h1 0 x y z = true then nt_beg (nt_mv h1 0 x y z) 0 n k 1 else h1) ∧ XA h2 M ∧ Fr h1 h2 := by
    refine ⟨_, rfl, ?_⟩
    split
    · have HM : NT (nt_mv h1 0 x y z) 0 n k m := (H.w6 (by decide) (by decide) (by decide) (by decide) (by decide) (by decide)).w6 (by decide) (by decide) (by decide) (by decide) (by decide) (by decide)
      have eM : ∀ e, ¬ e < 15 → (nt_mv h1 0 x y z).1 e = h1.1 e := fun e he => by unfold nt_mv; rw [w1_ne (by omega), w1_ne (by omega)]
      have e2 : (nt_mv h1 0 x y z).2 = h1.2 := rfl
      generalize nt_mv h1 0 x y z = g at HM eM e2
      obtain ⟨HB, LB, B2⟩ := beg_ok HM 1
      generalize nt_beg g 0 n k 1 = g2 at HB LB B2
      have L : ∀ e, ¬ e < 15 → g2.1 e = h1.1 e := fun e he => by rw [LB e (by omega), eM e he]
      exact ⟨act_ok X1 hm HB L, act_fr L (by rw [B2, e2])⟩
    · exact ⟨X1, Fr.rf⟩
  rw [← e2] at s2
  have s3 := sx_ca (d := 9) (h := h2) (nt_canMove h1 0 x y z)
  obtain ⟨X3, F3, -⟩ := ca_ok X2 (bI (nt_canMove h1 0 x y z))
  exact ⟨_, _, fun Q q => en_X8_shift (by decide) (go_X8_shift_0 (by decide) (s1 _ (go_X8_shift_4 (by decide) (s2 _ (go_X8_shift_15 (by decide) (s3 _ (go_X8_shift_18 (by decide) ⟨bI_nar _, q⟩))))))), X3, (F1.tr F2).tr F3⟩
theorem beg_fr {g : LH} {n k m : Nat} (X1 : XA h M) (hm : m ≤ M) (HM : NT g 0 n k m) (eM : ∀ e, ¬ e < 15 → g.1 e = h.1 e) (e2 : g.2 = h.2) (w : Int32) : XA (nt_beg g 0 n k w) M ∧ Fr h (nt_beg g 0 n k w) := by
  obtain ⟨HB, LB, B2⟩ := beg_ok HM w
  generalize nt_beg g 0 n k w = g2 at HB LB B2
  have L : ∀ e, ¬ e < 15 → g2.1 e = h.1 e := fun e he => by rw [LB e (by omega), eM e he]
  exact ⟨act_ok X1 hm HB L, act_fr L (by rw [B2, e2])⟩
theorem pu_block (X : XA h M) (x y : Int32) : ∃ (v : Int32) (g : LH), tf_Rt 11 188 [.ref 240, .int x, .int y] h (.int v) g ∧ XA g M ∧ Fr h g := by
  obtain ⟨X1, F1, -⟩ := sv_ok X
  have s1 := sx_sv (d := 7) X
  generalize ac_sv h = h1 at X1 F1 s1
  obtain ⟨n, k, m, hm, H⟩ := X1.net
  have s2 := sx_open (d := 7) H.1 x y
  obtain ⟨h2, e2, X2, F2⟩ : ∃ h2, h2 = (if nt_canOpen h1 0 x y = true then nt_beg (nt_op h1 0 x y) 0 n k 1 else h1) ∧ XA h2 M ∧ Fr h1 h2 := by
    refine ⟨_, rfl, ?_⟩
    split
    · exact beg_fr X1 hm (H.w6 (by decide) (by decide) (by decide) (by decide) (by decide) (by decide)) (fun e he => by rw [w1_ne (by omega)]) rfl 1
    · exact ⟨X1, Fr.rf⟩
  rw [← e2] at s2
  have s3 := sx_ca (d := 9) (h := h2) (nt_canOpen h1 0 x y)
  obtain ⟨X3, F3, -⟩ := ca_ok X2 (bI (nt_canOpen h1 0 x y))
  exact ⟨_, _, fun Q q => en_X8_block (by decide) (go_X8_block_0 (by decide) (s1 _ (go_X8_block_4 (by decide) (s2 _ (go_X8_block_14 (by decide) (s3 _ (go_X8_block_17 (by decide) ⟨bI_nar _, q⟩))))))), X3, (F1.tr F2).tr F3⟩
theorem pu_widen (X : XA h M) (x y : Int32) : ∃ (v : Int32) (g : LH), tf_Rt 11 189 [.ref 240, .int x, .int y] h (.int v) g ∧ XA g M ∧ Fr h g := by
  obtain ⟨X1, F1, -⟩ := sv_ok X
  have s1 := sx_sv (d := 7) X
  generalize ac_sv h = h1 at X1 F1 s1
  obtain ⟨n, k, m, hm, H⟩ := X1.net
  have s2 := sx_bound (d := 7) H.1 x y
  obtain ⟨h2, e2, X2, F2⟩ : ∃ h2, h2 = (if nt_canB h1 0 x y = true then nt_beg (w1 h1 (0 + 4) x.toNatClampNeg y) 0 n k 1 else h1) ∧ XA h2 M ∧ Fr h1 h2 := by
    refine ⟨_, rfl, ?_⟩
    split
    · exact beg_fr X1 hm (H.w6 (by decide) (by decide) (by decide) (by decide) (by decide) (by decide)) (fun e he => by rw [w1_ne (by omega)]) rfl 1
    · exact ⟨X1, Fr.rf⟩
  rw [← e2] at s2
  have s3 := sx_ca (d := 9) (h := h2) (nt_canB h1 0 x y)
  obtain ⟨X3, F3, -⟩ := ca_ok X2 (bI (nt_canB h1 0 x y))
  exact ⟨_, _, fun Q q => en_X8_widen (by decide) (go_X8_widen_0 (by decide) (s1 _ (go_X8_widen_4 (by decide) (s2 _ (go_X8_widen_14 (by decide) (s3 _ (go_X8_widen_17 (by decide) ⟨bI_nar _, q⟩))))))), X3, (F1.tr F2).tr F3⟩
theorem prs_ok {b n k m : Nat} (H : NT h b n k m) : NT (nt_prs h b n) b n k m ∧ (∀ e, ¬ e = b + 10 → (nt_prs h b n).1 e = h.1 e) ∧ (nt_prs h b n).2 = h.2 := by
  refine ⟨⟨H.1.prs, by rw [nt_prs_lo (by omega)]; exact H.2.1, by rw [nt_prs_lo (by omega)]; exact H.2.2⟩, fun e he => nt_prs_lo he, ?_⟩
  unfold nt_prs
  rw [nt_pl_2]
theorem pu_charge (X : XA h M) (x y : Int32) : ∃ (v : Int32) (g : LH), tf_Rt 11 190 [.ref 240, .int x, .int y] h (.int v) g ∧ XA g M ∧ Fr h g := by
  obtain ⟨X1, F1, -⟩ := sv_ok X
  have s1 := sx_sv (d := 7) X
  generalize ac_sv h = h1 at X1 F1 s1
  obtain ⟨n, k, m, hm, H⟩ := X1.net
  have s2 := sx_cost (d := 8) H.1 x y
  obtain ⟨h2, e2, X2, F2⟩ : ∃ h2, h2 = (if nt_canC h1 0 x y = true then nt_prs (w1 h1 (0 + 5) x.toNatClampNeg y) 0 n else h1) ∧ XA h2 M ∧ Fr h1 h2 := by
    refine ⟨_, rfl, ?_⟩
    split
    · have HM : NT (w1 h1 (0 + 5) x.toNatClampNeg y) 0 n k m := H.w6 (by decide) (by decide) (by decide) (by decide) (by decide) (by decide)
      obtain ⟨HP, LP, P2⟩ := prs_ok HM
      have L : ∀ e, ¬ e < 15 → (nt_prs (w1 h1 (0 + 5) x.toNatClampNeg y) 0 n).1 e = h1.1 e := fun e he => by rw [LP e (by omega), w1_ne (by omega)]
      exact ⟨act_ok X1 hm HP L, act_fr L P2⟩
    · exact ⟨X1, Fr.rf⟩
  rw [← e2] at s2
  have s3 := sx_ca (d := 9) (h := h2) (nt_canC h1 0 x y)
  obtain ⟨X3, F3, -⟩ := ca_ok X2 (bI (nt_canC h1 0 x y))
  exact ⟨_, _, fun Q q => en_X8_charge (by decide) (go_X8_charge_0 (by decide) (s1 _ (go_X8_charge_4 (by decide) (s2 _ (go_X8_charge_14 (by decide) (s3 _ (go_X8_charge_17 (by decide) ⟨bI_nar _, q⟩))))))), X3, (F1.tr F2).tr F3⟩
theorem pu_cold (X : XA h M) : ∃ g : LH, tf_Rt 11 191 [.ref 240] h tf_z g ∧ XA g M ∧ Fr h g := by
  obtain ⟨X1, F1, -⟩ := sv_ok X
  have s1 := sx_sv (d := 7) X
  generalize ac_sv h = h1 at X1 F1 s1
  obtain ⟨n, k, m, hm, H⟩ := X1.net
  have s2 := sx_beg (d := 8) H.1 0
  obtain ⟨X2, F2⟩ := beg_fr X1 hm H (fun _ _ => rfl) rfl 0
  generalize nt_beg h1 0 n k 0 = h2 at s2 X2 F2
  have s3 := sx_ca (d := 9) (h := h2) true
  obtain ⟨X3, F3, -⟩ := ca_ok X2 (bI true)
  exact ⟨_, fun Q q => en_X8_cold (by decide) (go_X8_cold_0 (by decide) (s1 _ (go_X8_cold_4 (by decide) (s2 _ (go_X8_cold_12 (by decide) (s3 _ (go_X8_cold_17 (by decide) q))))))), X3, (F1.tr F2).tr F3⟩
theorem pu_undo (X : XA h M) : ∃ (v : Int32) (g : LH), tf_Rt 11 193 [.ref 240] h (.int v) g ∧ XA g M ∧ Fr h g := by
  by_cases c9 : h.1 240 9 = 0
  · exact ⟨_, _, fun Q q => en_X8_undo (by decide) (go_X8_undo_0 (by decide) ⟨fun _ => q, fun z => absurd c9 z⟩), X, Fr.rf⟩
  · obtain ⟨XN1, ⟨c, R⟩, u8, u9⟩ := id X
    obtain ⟨i, hi, e8⟩ := vi_nI u8
    obtain ⟨j, hj, e9⟩ := vi_nI u9
    have hj0 : j ≠ 0 := fun z => c9 (by rw [e9, z]; rfl)
    have key : ∀ (t : Nat), t < 11 → ∃ (v : Int32) (g : LH), (∀ Q : tf_Q, Q (.int v) g → lx_X8_undo 298 (tf_Cd 298 10) Q 28 [.ref 240] [.int (nI t), .ref 240] h) ∧ XA g M ∧ Fr h g := by
      intro t ht
      have e9a : (tf_up h.1 240 8 (nI t)) 240 9 = h.1 240 9 := w1_at (h := h) (c := 240) (i := 8) (j := 9) (v := nI t) (by decide)
      have e8a : (tf_up (tf_up h.1 240 8 (nI t)) 240 9 (h.1 240 9 - 1)) 240 8 = nI t := by
        have a1 : (w1 (w1 h 240 8 (nI t)) 240 9 (h.1 240 9 - 1)).1 240 8 = nI t := by rw [w1_at (by decide), w1_eq]
        exact a1
      have ej : h.1 240 9 - 1 = nI (j - 1) := by
        rw [e9]
        obtain ⟨j1, rfl⟩ : ∃ j1, j = j1 + 1 := ⟨j - 1, by omega⟩
        rw [nI_pred]
        rfl
      have X2 : XA (w1 (w1 h 240 8 (nI t)) 240 9 (h.1 240 9 - 1)) M := by
        refine ⟨(XN1.hi (by decide)).hi (by decide), ⟨c, R.same (by rw [w1_ne (by decide), w1_ne (by decide)]) (by rw [w1_ne (by decide), w1_ne (by decide)])⟩, ?_, ?_⟩
        · rw [w1_at (by decide), w1_eq]
          exact vi_of ht (by omega)
        · rw [w1_eq, ej]
          exact vi_of (by omega) (by omega)
      have F2 : Fr h (w1 (w1 h 240 8 (nI t)) 240 9 (h.1 240 9 - 1)) := (Fr.rf.w (by decide)).w (by decide)
      have s2 := sx_ncp (d := 8) (h := w1 (w1 h 240 8 (nI t)) 240 9 (h.1 240 9 - 1)) (b := 0) (c := 15 * (t + 2)) (by decide +kernel) (tf_K15 (r := t + 2) (by omega)) (by omega)
      have C := nt_cp_ok (h := w1 (w1 h 240 8 (nI t)) 240 9 (h.1 240 9 - 1)) (b := 0) (c := 15 * (t + 2)) (by decide +kernel) (tf_K15 (r := t + 2) (by omega)) (by omega)
      obtain ⟨n, k, m, hm, H⟩ := X2.1 (t + 2) (by omega)
      have X3 := X2.put (r0 := 0) (by omega) hm (C.nt (by decide +kernel) H) (fun e he => C.1 e (by omega))
      generalize nt_cp (w1 (w1 h 240 8 (nI t)) 240 9 (h.1 240 9 - 1)) 0 (15 * (t + 2)) = g at s2 C X3
      refine ⟨g.1 240 9, g, fun Q q => go_X8_undo_28 (by decide) ?_, X3, F2.tr ⟨fun e he => C.1 e (by omega), C.2.1⟩⟩
      rw [e9a, e8a]
      refine ⟨vi_of ht (by omega), ?_⟩
      rw [nI_clamp (by omega), tf_R266 t ht]
      exact s2 _ (go_X8_undo_57 (by decide) q)
    by_cases c8 : h.1 240 8 = 0
    · obtain ⟨v, g, s, X3, F3⟩ := key 10 (by omega)
      exact ⟨v, g, fun Q q => en_X8_undo (by decide) (go_X8_undo_0 (by decide) ⟨fun z => absurd z c9, fun _ => go_X8_undo_9 (by decide) ⟨fun _ => s Q q, fun z => absurd c8 z⟩⟩), X3, F3⟩
    · have hi0 : i ≠ 0 := fun z => c8 (by rw [e8, z]; rfl)
      have ei : h.1 240 8 - 1 = nI (i - 1) := by
        rw [e8]
        obtain ⟨i1, rfl⟩ : ∃ i1, i = i1 + 1 := ⟨i - 1, by omega⟩
        rw [nI_pred]
        rfl
      obtain ⟨v, g, s, X3, F3⟩ := key (i - 1) (by omega)
      refine ⟨v, g, fun Q q => en_X8_undo (by decide) (go_X8_undo_0 (by decide) ⟨fun z => absurd z c9, fun _ => go_X8_undo_9 (by decide) ⟨fun z => absurd z c8, fun _ => go_X8_undo_22 (by decide) ?_⟩⟩), X3, F3⟩
      rw [ei]
      exact s Q q
end PV2
