/-! ===== the four acts ===== -/
section RQA
variable {h g h2 h3 g1 g3 r r2 T T2 : LH} {b n k m t u M d : Nat}
/-- the tree alone, where costs are others -/
theorem ct_mv (L : LT T n k) (C : CT h b T n) (S : TS T n k) (L2 : LT T2 n k) (A2 : ∀ a, a < k → rm T2 a 0 ≠ rm T2 a 1) (E1 : ∀ p q id, p < n → EG T n k p q id → EG T2 n k p q id) (E2 : ∀ p q id, p < n → EG T2 n k p q id → EG T n k p q id) : CT h b T2 n ∧ TS T2 n k := by
  have n7 := L.1.1.2.1
  have k14 := L.1.1.2.2
  have C2 : CT h b T2 n := ct_uni L2 A2 (fun p hp => ⟨uf T p, T.1 282 p, (L.up hp).1, (C p hp).1, (C p hp).2, E1 p _ _ hp (L.at hp).2.2.2.2.2⟩) (fun p q id hp E => by
    obtain ⟨s, hs, e⟩ := S p q id hp (E2 p q id hp E)
    exact ⟨s, hs, by rw [(C s hs).2, e]⟩)
  have same : ∀ p, p < n → T2.1 282 p = T.1 282 p := fun p hp => eK_inj n7 k14 ((L2.at hp).2.2.2.2.2.ed hp) ((L.at hp).2.2.2.2.2.ed hp) ((C2 p hp).2.symm.trans (C p hp).2)
  exact ⟨C2, fun p q id hp E => by
    obtain ⟨s, hs, e⟩ := S p q id hp (E2 p q id hp E)
    exact ⟨s, hs, by rw [same s hs, e]⟩⟩
theorem EG.ex {p q : Nat} {id : Int32} (x1 : ∀ p, p < n → T2.1 271 (51 + p) = T.1 271 (51 + p)) (x2 : ∀ c, c < k → rm T2 c 0 = rm T c 0 ∧ rm T2 c 1 = rm T c 1 ∧ rm T2 c 5 = rm T c 5) (hp : p < n) (E : EG T n k p q id) : EG T2 n k p q id := by
  rcases E with ⟨a1, a2, a3⟩ | ⟨a1, a, ha, a2, a3, a4⟩
  · exact Or.inl ⟨a1, a2, by rw [x1 p hp]; exact a3⟩
  · obtain ⟨m1, m2, m4⟩ := x2 a ha
    exact Or.inr ⟨a1, a, ha, a2, by unfold rf_hangs at a3 ⊢; rw [m4]; exact a3, by rw [m1, m2]; exact a4⟩
/-- one arc's cost is another -/
theorem NR.cost (hb : b ≤ 225) (N : NR h b r n k m) (A : ∀ a, a < k → rm r a 0 ≠ rm r a 1) {a : Nat} (ha : a < k) {v : Int32} (G2 : GI (rp r a 3 v) n k M) : NR (nt_prs (w1 h (b + 5) a v) b n) b (rp r a 3 v) n k m := by
  have n7 := G2.1.1.2.1
  have k14 := G2.1.1.2.2
  have e : ∀ i, i ≠ 72 + 7 * a + 3 → (rp r a 3 v).1 271 i = r.1 271 i := fun i hi => rp_ne hi
  have ev : rm (rp r a 3 v) a 3 = v := rp_at
  have er : ∀ c w, w < 7 → w ≠ 3 → rm (rp r a 3 v) c w = rm r c w := fun c w h1 h2 => e _ (by omega)
  have e3 : ∀ c, c ≠ a → rm (rp r a 3 v) c 3 = rm r c 3 := fun c hc => e _ (by omega)
  have hc : ∀ x, x ≠ b + 5 → (w1 h (b + 5) a v).1 x = h.1 x := fun x hx => w1_ne hx
  have hv : (w1 h (b + 5) a v).1 (b + 5) a = v := w1_eq
  have hv2 : ∀ c, c ≠ a → (w1 h (b + 5) a v).1 (b + 5) c = h.1 (b + 5) c := fun c hc => w1_at hc
  generalize rp r a 3 v = r2 at G2 e ev er e3
  generalize w1 h (b + 5) a v = h2 at hc hv hv2
  obtain ⟨⟨⟨a1, a2, a3⟩, a4, a5, a6, a7, a8⟩, t, ⟨b1, b2⟩, ⟨b3, b4, b5⟩, b6, b7⟩ := N
  have TL2 : TLe h2 b r2 n k := ⟨fun c hk => by rw [hc _ (by omega), hc _ (by omega), er c 0 (by omega) (by omega), er c 1 (by omega) (by omega)]; exact a5.1 c hk, fun p hp => by rw [hc _ (by omega), hc _ (by omega), e _ (by omega)]; exact a5.2 p hp⟩
  have CO2 : COe h2 b r2 n k := by
    refine ⟨fun c hk => ?_, fun p hp => ?_⟩
    · by_cases z : c = a
      · rw [z, hv, ev]
      · rw [hv2 c z, e3 c z]
        exact a7.1 c hk
    · rw [hv2 _ (by omega)]
      exact a7.2 p hp
  obtain ⟨T, L, P, R1, C, Pe, S, KK⟩ := t
  have L2 := G2.lt
  have P2 := lt_pr G2.1
  have R2 : RW r2 (lt r2 n k) := fun i _ => by rw [lt_fl.r]
  generalize lt r2 n k = T2 at L2 P2 R2
  have A2 : ∀ c, c < k → rm T2 c 0 ≠ rm T2 c 1 := fun c hk => by rw [R2.rm (by omega) (by omega), R2.rm (by omega) (by omega), er c 0 (by omega) (by omega), er c 1 (by omega) (by omega)]; exact A c hk
  have x1 : ∀ p, p < n → T2.1 271 (51 + p) = T.1 271 (51 + p) := fun p hp => by rw [R2 _ (by omega), R1 _ (by omega), e _ (by omega)]
  have x2 : ∀ c, c < k → rm T2 c 0 = rm T c 0 ∧ rm T2 c 1 = rm T c 1 ∧ rm T2 c 5 = rm T c 5 := fun c hk => by
    rw [R2.rm (by omega) (by omega), R2.rm (by omega) (by omega), R2.rm (by omega) (by omega), R1.rm (by omega) (by omega), R1.rm (by omega) (by omega), R1.rm (by omega) (by omega)]
    exact ⟨er c 0 (by omega) (by omega), er c 1 (by omega) (by omega), er c 5 (by omega) (by omega)⟩
  obtain ⟨C2, S2⟩ := ct_mv L C S L2 A2 (fun p q id hp E => EG.ex x1 x2 hp E) (fun p q id hp E => EG.ex (fun p hp => (x1 p hp).symm) (fun c hk => ⟨(x2 c hk).1.symm, (x2 c hk).2.1.symm, (x2 c hk).2.2.symm⟩) hp E)
  have KK2 : KSx T2 n k := KK.to n7 k14 (fun i z1 z2 z3 => by rw [R2 i z2, R1 i z2]; exact e i (z3 a)) (fun p hp => eK_inj n7 k14 ((L2.at hp).2.2.2.2.2.ed hp) ((L.at hp).2.2.2.2.2.ed hp) ((C2 p hp).2.symm.trans (C p hp).2))
  have C3 : CT h2 b T2 n := C2.same (hc _ (by omega)) (hc _ (by omega))
  obtain ⟨pr, po⟩ := prs_eq L2 P2 A2 hb C3 (TL2.rw R2 n7 k14) (CO2.rw R2 k14)
  have v : ∀ x, x ≠ b + 10 → x ≠ b + 5 → (nt_prs h2 b n).1 x = h.1 x := fun x h1 h2 => by rw [po x h1, hc x h2]
  refine ⟨⟨⟨by rw [v b (by omega) (by omega)]; exact a1, by rw [v b (by omega) (by omega)]; exact a2, by rw [v b (by omega) (by omega), e 2 (by omega)]; exact a3⟩, fun p hp => by rw [v _ (by omega) (by omega), e _ (by omega)]; exact a4 p hp, ?_, ⟨fun c hk => ?_, fun p hp => ?_⟩, ?_, fun c hk => ?_⟩, ⟨T2, L2, P2, R2, C3.same (po _ (by omega)) (po _ (by omega)), pr, S2, KK2⟩, ⟨by rw [v _ (by omega) (by omega)]; exact b1, by rw [e _ (by omega)]; exact b2⟩, ⟨by rw [v _ (by omega) (by omega), e _ (by omega)]; exact b3, by rw [v _ (by omega) (by omega), e _ (by omega)]; exact b4, by rw [v _ (by omega) (by omega), e _ (by omega)]; exact b5⟩, by rw [e _ (by omega)]; exact b6, fun j z1 z2 => ?_⟩
  · unfold TLe at TL2 ⊢
    rw [po _ (by omega), po _ (by omega)]
    exact TL2
  · rw [v _ (by omega) (by omega), v _ (by omega) (by omega), er c 2 (by omega) (by omega), er c 4 (by omega) (by omega)]
    exact a6.1 c hk
  · rw [v _ (by omega) (by omega), e _ (by omega)]
    exact a6.2 p hp
  · unfold COe at CO2 ⊢
    rw [po _ (by omega)]
    exact CO2
  · rw [v _ (by omega) (by omega), er c 5 (by omega) (by omega), er c 6 (by omega) (by omega)]
    exact a8 c hk
  · rw [v _ (by omega) (by omega), v _ (by omega) (by omega), v _ (by omega) (by omega), e _ (by omega), e _ (by omega), e _ (by omega)]
    exact b7 j z1 z2
theorem TA.bx (A : TA h b r m) (ec : ∀ o, 11 ≤ o → o ≤ 14 → h2.1 (b + o) = h.1 (b + o)) {a w : Nat} {v : Int32} : TA h2 b (rp r a w v) m := A.mv ec (fun i _ h2 => rp_ne (by omega))
theorem zz_8 (I : IZ h t) (ht : t ≤ 511) (x y : Int32) : lk_eq h 189 [.ref 240, .int x, .int y] 64 [.ref 270, .int x, .int y] (fun g => NZ g (t + 1)) := by
  have X := I.2.1.1.1.1
  obtain ⟨n, k, m, c, hm, H, R, G, N, e15, X1, C1⟩ := I.net ht
  have n7 := G.1.1.2.1
  have k14 := G.1.1.2.2
  have s1 := sx_sv (d := 7) X
  have s2 := sx_bound (d := 7) H.1 x y
  have s3 := fun g2 => sx_ca (d := 9) (h := g2) (nt_canB (ac_sv h) 0 x y)
  have rC : tf_Rt 11 189 [.ref 240, .int x, .int y] h (.int (bI (nt_canB (ac_sv h) 0 x y))) (ac_ca (if nt_canB (ac_sv h) 0 x y = true then nt_beg (w1 (ac_sv h) (0 + 4) x.toNatClampNeg y) 0 n k 1 else ac_sv h) (bI (nt_canB (ac_sv h) 0 x y))) := fun Q q => en_X8_widen (by decide) (go_X8_widen_0 (by decide) (s1 _ (go_X8_widen_4 (by decide) (s2 _ (go_X8_widen_14 (by decide) (s3 _ _ (go_X8_widen_17 (by decide) ⟨bI_nar _, q⟩)))))))
  refine rC.sp ⟨_, rfl, ?_⟩
  have HM : NT (w1 (ac_sv h) (0 + 4) x.toNatClampNeg y) 0 n k m := H.w6 (by decide) (by decide) (by decide) (by decide) (by decide) (by decide)
  obtain ⟨HB, LB, -⟩ := beg_ok HM 1
  intro Q q
  refine en_X9_widen (by decide) (go_X9_widen_0 (by decide) (zz_tl (d := 0) (w := 2) (low := 0) I ht hm G C1 (Or.inl ⟨rfl, rfl⟩) (cb_eq N.1 G.1 x y) (fun _ => ⟨HB, fun e he => by rw [LB e (by omega), w1_ne (by omega)]⟩) (fun _ r er a ha ea => ⟨fun z => absurd z (by decide), fun _ => ⟨_, rfl, ?_, ?_⟩⟩) _ (fun v4 g4 p4 => ?_)))
  · rw [ea, nI_clamp (by omega)]
    exact (N.rw (RW.of er) n7 k14).1.nb.bound k14 n7
  · exact (N.rw (RW.of er) n7 k14).2.2.bx (fun o h1 h2 => w1_ne (by omega))
  · obtain ⟨e, Z⟩ := p4
    subst e
    exact go_X9_widen_8 (by decide) ⟨bI_nar _, q _ _ ⟨rfl, Z⟩⟩
theorem zz_9 (I : IZ h t) (ht : t ≤ 511) (x y : Int32) : lk_eq h 190 [.ref 240, .int x, .int y] 65 [.ref 270, .int x, .int y] (fun g => NZ g (t + 1)) := by
  have X := I.2.1.1.1.1
  obtain ⟨n, k, m, c, hm, H, R, G, N, e15, X1, C1⟩ := I.net ht
  have n7 := G.1.1.2.1
  have k14 := G.1.1.2.2
  have s1 := sx_sv (d := 7) X
  have s2 := sx_cost (d := 8) H.1 x y
  have s3 := fun g2 => sx_ca (d := 9) (h := g2) (nt_canC (ac_sv h) 0 x y)
  have rC : tf_Rt 11 190 [.ref 240, .int x, .int y] h (.int (bI (nt_canC (ac_sv h) 0 x y))) (ac_ca (if nt_canC (ac_sv h) 0 x y = true then nt_prs (w1 (ac_sv h) (0 + 5) x.toNatClampNeg y) 0 n else ac_sv h) (bI (nt_canC (ac_sv h) 0 x y))) := fun Q q => en_X8_charge (by decide) (go_X8_charge_0 (by decide) (s1 _ (go_X8_charge_4 (by decide) (s2 _ (go_X8_charge_14 (by decide) (s3 _ _ (go_X8_charge_17 (by decide) ⟨bI_nar _, q⟩)))))))
  refine rC.sp ⟨_, rfl, ?_⟩
  have HM : NT (w1 (ac_sv h) (0 + 5) x.toNatClampNeg y) 0 n k m := H.w6 (by decide) (by decide) (by decide) (by decide) (by decide) (by decide)
  obtain ⟨HP, LP, -⟩ := prs_ok HM
  have ec := cc_eq N.1 G.1 x y
  intro Q q
  refine en_X9_charge (by decide) (go_X9_charge_0 (by decide) (zz_tl (d := 0) (w := 3) (low := -99) I ht hm G C1 (Or.inr (Or.inr ⟨rfl, rfl⟩)) ec (fun _ => ⟨HP, fun e he => by rw [LP e (by omega), w1_ne (by omega)]⟩) (fun cn r er a ha ea => ⟨fun _ => ?_, fun z => absurd rfl z⟩) _ (fun v4 g4 p4 => ?_)))
  · rw [ea, nI_clamp (by omega)]
    have cr : rf_cb h x 3 y (-99) = true := ec.symm.trans cn
    unfold rf_cb at cr
    rw [if_neg (by decide)] at cr
    unfold rf_in at cr
    simp only [Bool.and_eq_true, Bool.not_eq_true', decide_eq_false_iff_not] at cr
    obtain ⟨-, cr2, -⟩ := cr
    have t1 := Int32.not_lt.mp cr2.1
    have t2 := Int32.not_lt.mp cr2.2
    rw [Int32.le_iff_toInt_le] at t1 t2
    have y1 : (-99 : Int32).toInt = -99 := rfl
    have y2 : (99 : Int32).toInt = 99 := rfl
    have e99 : (y + 99).toInt = y.toInt + 99 := by
      rw [Int32.toInt_add, y2, Int.bmod_eq_of_le (by omega) (by omega)]
    have hpos : ¬ y + 99 < 0 := by
      rw [Int32.lt_iff_toInt_lt, e99]
      have : (0 : Int32).toInt = 0 := rfl
      omega
    obtain ⟨j, hj, ej⟩ := nI_of hpos
    have hj2 : j ≤ 198 := by
      have := congrArg Int32.toInt ej
      rw [e99, nI_toInt hj] at this
      omega
    exact (N.rw (RW.of er) n7 k14).cost (by omega) (G.cong (RW.of er)).2.2.2.2.1.1 ha ((G.cong (RW.of er)).cost hj2 ej)
  · obtain ⟨e, Z⟩ := p4
    subst e
    exact go_X9_charge_9 (by decide) ⟨bI_nar _, q _ _ ⟨rfl, Z⟩⟩
theorem zz_7 (I : IZ h t) (ht : t ≤ 511) (x y : Int32) (hy : y = 0 ∨ y = 1) : lk_eq h 188 [.ref 240, .int x, .int y] 63 [.ref 270, .int x, .int y] (fun g => NZ g (t + 1)) := by
  have X := I.2.1.1.1.1
  obtain ⟨n, k, m, c, hm, H, R, G, N, e15, X1, C1⟩ := I.net ht
  have n7 := G.1.1.2.1
  have k14 := G.1.1.2.2
  have s1 := sx_sv (d := 7) X
  have s2 := sx_open (d := 7) H.1 x y
  have s3 := fun g2 => sx_ca (d := 9) (h := g2) (nt_canOpen (ac_sv h) 0 x y)
  have rC : tf_Rt 11 188 [.ref 240, .int x, .int y] h (.int (bI (nt_canOpen (ac_sv h) 0 x y))) (ac_ca (if nt_canOpen (ac_sv h) 0 x y = true then nt_beg (nt_op (ac_sv h) 0 x y) 0 n k 1 else ac_sv h) (bI (nt_canOpen (ac_sv h) 0 x y))) := fun Q q => en_X8_block (by decide) (go_X8_block_0 (by decide) (s1 _ (go_X8_block_4 (by decide) (s2 _ (go_X8_block_14 (by decide) (s3 _ _ (go_X8_block_17 (by decide) ⟨bI_nar _, q⟩)))))))
  refine rC.sp ⟨_, rfl, ?_⟩
  have HM : NT (nt_op (ac_sv h) 0 x y) 0 n k m := H.w6 (by decide) (by decide) (by decide) (by decide) (by decide) (by decide)
  obtain ⟨HB, LB, -⟩ := beg_ok HM 1
  have oe : ∀ e, e ≠ 7 → (nt_op (ac_sv h) 0 x y).1 e = (ac_sv h).1 e := fun e he => by unfold nt_op; rw [w1_ne (by omega)]
  have zt := zz_tl (d := 0) (w := 6) (low := 0) (x := x) (v := if y = 0 then 1 else 0) (h3 := nt_beg (nt_op (ac_sv h) 0 x y) 0 n k 1) I ht hm G C1 (Or.inr (Or.inl ⟨rfl, rfl⟩)) (co_eq N.1 G.1 x y hy) (fun _ => ⟨HB, fun e he => by rw [LB e (by omega), oe e (by omega)]⟩) (fun _ r er a ha ea => ⟨fun z => absurd z (by decide), fun _ => ⟨_, rfl, by
    unfold nt_op
    rw [ea, nI_clamp (by omega)]
    exact (N.rw (RW.of er) n7 k14).1.nb.opn k14 n7, (N.rw (RW.of er) n7 k14).2.2.bx (fun o h1 h2 => oe _ (by omega))⟩⟩)
  intro Q q
  have fin : lx_X9_block 298 (tf_Cd 298 10) Q 13 [.ref 270, .int x, .int y] [.int (if y = 0 then 1 else 0), .int 6, .int x, .ref 270] (ac_ca (if nt_canOpen (ac_sv h) 0 x y = true then nt_beg (nt_op (ac_sv h) 0 x y) 0 n k 1 else ac_sv h) (bI (nt_canOpen (ac_sv h) 0 x y))) := go_X9_block_13 (by decide) (zt _ (fun v4 g4 p4 => by
    obtain ⟨e, Z⟩ := p4
    subst e
    exact go_X9_block_17 (by decide) ⟨bI_nar _, q _ _ ⟨rfl, Z⟩⟩))
  refine en_X9_block (by decide) (go_X9_block_0 (by decide) ⟨fun z => go_X9_block_12 (by decide) ?_, fun z => ?_⟩)
  · rw [if_pos z] at fin
    exact fin
  · rw [if_neg z] at fin
    exact fin
end RQA
