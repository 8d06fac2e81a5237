/-! ===== turns and many turns on both sides ===== -/
section RJT
variable {h g r : LH} {b n k m M d : Nat}
theorem sx_turns2 (H : RM g n k) (C : CP g n k) (S : RS g) (B : FB g k) : (en_f (lt g n k) k k 0 (-1) = -1 ∧ tf_Rt (d + 6) 49 [.ref 270] g (.int (-1)) (lt g n k)) ∨ ∃ a x y m, en_f (lt g n k) k k 0 (-1) = nI a ∧ a < k ∧ x < n ∧ y < n ∧ rf_off (lt g n k) a = true ∧ (if rm (lt g n k) a 5 = 0 then rm (lt g n k) a 0 else rm (lt g n k) a 1) = nI x ∧ (if rm (lt g n k) a 5 = 0 then rm (lt g n k) a 1 else rm (lt g n k) a 0) = nI y ∧ m < lc_n (lt g n k) x y ∧ lvx (lc (lt g n k) a x y) (rlr (lc (lt g n k) a x y) (lc_n (lt g n k) x y) 0 1000000) (lc_n (lt g n k) x y) 0 (-1) = nI m ∧ tf_Rt (d + 6) 49 [.ref 270] g (.int (nI a)) (tn5 (lt g n k) a x y m) := by
  have hn := H.1
  have s1 := sx_lt (d := d + 2) H
  have F := lt_fl (h := g) (n := n) (k := k)
  obtain ⟨TI1, al⟩ := lt_ok H C
  have H1 : RM (lt g n k) n k := H.fl F.r
  have T : LT (lt g n k) n k := ⟨H1, TI1, al⟩
  have S1 : RS (lt g n k) := by
    unfold RS
    rw [F.r]
    exact S
  have B1 : FB (lt g n k) k := by
    unfold FB rm
    rw [F.r]
    exact B
  generalize lt g n k = g1 at *
  have s2 := sx_en (d := d + 1) H1 S1
  by_cases c : en_f g1 k k 0 (-1) = -1
  · rw [c] at s2
    exact Or.inl ⟨c, fun Q q => en_X9_turns (by decide) (go_X9_turns_0 (by decide) (s1 _ (go_X9_turns_4 (by decide) (s2 _ (go_X9_turns_8 (by decide) ⟨fun _ => q, fun z => absurd rfl z⟩)))))⟩
  · obtain ⟨a, ha, ea⟩ := vi_nI ((en_f_in H1 S1 k 0 (-1) (by omega) (Or.inl rfl)).resolve_left c)
    have ho := (en_f_off H1 S1 k 0 (-1) (by omega) (Or.inl rfl)).resolve_left c
    rw [ea, nI_clamp (by omega)] at ho
    rw [ea] at s2
    have hxy : ∃ x y, x < n ∧ y < n ∧ (if rm g1 a 5 = 0 then rm g1 a 0 else rm g1 a 1) = nI x ∧ (if rm g1 a 5 = 0 then rm g1 a 1 else rm g1 a 0) = nI y := by
      obtain ⟨p, q, hp, hq, e1, e2⟩ := H1.ends ha
      by_cases z : rm g1 a 5 = 0
      · exact ⟨p, q, hp, hq, by rw [if_pos z]; exact e1, by rw [if_pos z]; exact e2⟩
      · exact ⟨q, p, hq, hp, by rw [if_neg z]; exact e2, by rw [if_neg z]; exact e1⟩
    obtain ⟨x, y, hx, hy, ex, ey⟩ := hxy
    have s3 := sx_lc (d := d) T ha hx hy ex ey
    obtain ⟨Y, -, -⟩ := lc_ok T ha (show x ≤ n by omega) (show y ≤ n by omega)
    have lst := lc_least T B1 ha (show x ≤ n by omega) (show y ≤ n by omega) ho
    have s4 := sx_rlr (d := d + 2) Y
    obtain ⟨m, hm, em, s5⟩ := sx_lv2 (d := d + 2) Y lst
    have V := Y.2.2 m hm
    have s6 := sx_fls (d := d + 3) Y (rlr (lc g1 a x y) (lc_n g1 x y) 0 1000000)
    refine Or.inr ⟨a, x, y, m, ea, ha, hx, hy, ho, ex, ey, hm, em, fun Q q => ?_⟩
    unfold tn5 tn3 at q
    have h14 : a < 14 := by omega
    generalize hdl : rlr (lc g1 a x y) (lc_n g1 x y) 0 1000000 = dl at *
    generalize (lc g1 a x y).1 285 m = id at *
    generalize fls dl (lc_n g1 x y) 0 (lc g1 a x y) = g3 at *
    have e77 : ∀ g4 : LH, g4 = tn4 g3 a id → lx_X9_turns 298 (tf_Cd 298 (d + 5)) Q 77 [.ref 270, .int (nI a), .int dl, .int id] [] g4 := fun g4 e4 => by
      rw [e4]
      exact go_X9_turns_77 (by decide) (sx_ip (d := d + 3) (nI a) id dl _ (go_X9_turns_84 (by decide) q))
    have ne : ¬ nI a = -1 := nI_neg1 (by omega)
    refine en_X9_turns (by decide) (go_X9_turns_0 (by decide) (s1 _ (go_X9_turns_4 (by decide) (s2 _ (go_X9_turns_8 (by decide) ⟨fun z => absurd z ne, fun _ => go_X9_turns_16 (by decide) (s3 _ (go_X9_turns_21 (by decide) (s4 _ (go_X9_turns_25 (by decide) (s5 _ (go_X9_turns_31 (by decide) (s6 _ (go_X9_turns_37 (by decide) ⟨fun z => ?_, fun z => ?_⟩))))))))⟩)))))
    · refine sx_of (d := d + 4) a 5 rfl rfl h14 (by omega) _ (go_X9_turns_51 (by decide) ⟨fun w => go_X9_turns_59 (by decide) (sx_puts (d := d + 4) a 5 _ rfl rfl h14 (by omega) _ (go_X9_turns_62 (by decide) (e77 _ ?_))), fun w => go_X9_turns_58 (by decide) (go_X9_turns_59 (by decide) (sx_puts (d := d + 4) a 5 _ rfl rfl h14 (by omega) _ (go_X9_turns_62 (by decide) (e77 _ ?_))))⟩)
      · unfold tn4
        rw [if_pos z, if_pos w]
      · unfold tn4
        rw [if_pos z, if_neg w]
    · refine go_X9_turns_65 (by decide) (sx_puts (d := d + 4) a 5 _ rfl rfl h14 (by omega) _ (go_X9_turns_72 (by decide) (sx_go_o (d := d + 3) V _ (e77 _ ?_))))
      unfold tn4
      rw [if_neg z]
/-- the laid tree's class side, and offers -/
theorem NR.off (N : NR h b r n k m) (G : GI r n k M) : ∀ a, a < k → (rf_off (lt r n k) a = true → nt_off h b (nI a) = rf_far (lt r n k) a ∧ 0 < rf_far (lt r n k) a) ∧ (rf_off (lt r n k) a = false → nt_off h b (nI a) = 0) := by
  intro a ha
  have L := G.lt
  have P := lt_pr G.1
  have R : RW r (lt r n k) := fun i _ => by rw [lt_fl.r]
  have G1 : GI (lt r n k) n k M := G.fl lt_fl
  have n7 := L.1.1.2.1
  have k14 := L.1.1.2.2
  obtain ⟨⟨-, -, E0, F0, C0, S0⟩, Nt, -⟩ := N
  obtain ⟨C, Pe, Ts⟩ := Nt.to G.2.2.2.2.1.1 L P R
  exact off_eq L P G1.2.2.2.2.1.2.2.1 (E0.rw R n7 k14) (F0.rw R n7 k14) (C0.rw R k14) Pe (S0.rw R k14) ha
theorem NR.pick (N : NR h b r n k m) (G : GI r n k M) : nt_pick h b k (r.1 271 2) = en_f (lt r n k) k k 0 (-1) := by
  have L := G.lt
  have e2 : (lt r n k).1 271 = r.1 271 := lt_fl.r
  have := pick_eq (h := h) (b := b) L (by unfold RS; rw [e2]; exact G.2.2.1) (N.off G) (by rw [e2]; exact N.2.2.2.1.2.2)
  rw [e2] at this
  exact this
/-- the class's grid after one turn, by a rule -/
def cl_t (h : LH) (b n k m : Nat) (ru : Int32) : LH × Nat := if nt_pick h b k ru = -1 then (h, m) else (rt_step h b n m (nt_pick h b k ru), m + 1)
theorem rx_turns (hb : b ≤ 225) (N : NR h b r n k m) (G : GI r n k M) (hM : M ≤ 20000000) : tf_Sp (d + 6) 49 [.ref 270] r (fun v r2 => v = .int (nt_pick h b k (r.1 271 2)) ∧ NR (cl_t h b n k m (r.1 271 2)).1 b r2 n k (cl_t h b n k m (r.1 271 2)).2) := by
  have n7 := G.1.1.2.1
  have k14 := G.1.1.2.2
  have pk := N.pick G
  unfold cl_t
  rw [pk]
  rcases sx_turns2 (d := d) G.1 G.2.1 G.2.2.1 G.2.2.2.1 with ⟨c, s⟩ | ⟨a, x, y, mm, ea, ha, hx, hy, ho, ex, ey, hm, em, s⟩
  · rw [c, if_pos rfl]
    exact s.sp ⟨rfl, N.rw (fun i _ => by rw [lt_fl.r]) n7 k14⟩
  · rw [ea, if_neg (nI_m1 (by omega))]
    exact s.sp ⟨rfl, nr_step hb N G hM ha hx hy ho ex ey hm em⟩
/-- many turns -/
theorem rx_ptL (hb : b ≤ 225) {NN : Nat} (hN : NN ≤ 10000) (hM : M ≤ 19000000) {ru : Int32} {Q : tf_Q} : ∀ (f i m : Nat) (h r : LH), i + f = NN → NR h b r n k m → GI r n k (M + i) → r.1 271 2 = ru → (∀ r2, NR (rt_run b n k ru f i m h).2 b r2 n k (m + ((rt_run b n k ru f i m h).1 - i)) → Q (.int (nI (rt_run b n k ru f i m h).1)) r2) → lx_X9_pivotsTill 298 (tf_Cd 298 (d + 6)) Q 2 [.ref 270, .int (nI NN), .int (nI i)] [] r
  | 0, i, m, h, r, hi, N, G, er, q => by
    refine go_X9_pivotsTill_2 (by decide) ⟨fun _ => go_X9_pivotsTill_21 (by decide) (q r ?_), fun z => absurd (nI_le (by omega) (by omega)) z⟩
    show NR h b r n k (m + (i - i))
    rw [Nat.sub_self, Nat.add_zero]
    exact N
  | f + 1, i, m, h, r, hi, N, G, er, q => by
    have ge : ∀ (f i m : Nat) (h : LH), i ≤ (rt_run b n k ru f i m h).1 := by
      intro f
      induction f with
      | zero => intro i m h; exact Nat.le_refl _
      | succ f ih =>
        intro i m h
        rw [rt_run]
        split
        · exact Nat.le_refl _
        · exact Nat.le_trans (Nat.le_succ _) (ih (i + 1) (m + 1) _)
    refine go_X9_pivotsTill_2 (by decide) ⟨fun z => absurd z (nI_ge (by omega) (by omega)), fun _ => ((sp_turns (d := d) G (by omega)).cj (rx_turns (d := d) hb N G (by omega))) _ (fun v g2 p => ?_)⟩
    obtain ⟨⟨x, -, G2, F2⟩, e, N2⟩ := p
    subst e
    rw [er] at N2 ⊢
    rw [rt_run] at q
    unfold cl_t at N2
    by_cases c : nt_pick h b k ru = -1
    · rw [if_pos c] at N2
      rw [if_pos c] at q
      refine go_X9_pivotsTill_11 (by decide) ⟨fun _ => go_X9_pivotsTill_21 (by decide) (q g2 ?_), fun z => absurd c z⟩
      show NR h b g2 n k (m + (i - i))
      rw [Nat.sub_self, Nat.add_zero]
      exact N2
    · rw [if_neg c] at N2
      rw [if_neg c] at q
      refine go_X9_pivotsTill_11 (by decide) ⟨fun z => absurd z c, fun _ => ?_⟩
      rw [nI_1]
      refine rx_ptL hb hN hM f (i + 1) (m + 1) _ g2 (by omega) N2 G2 (by rw [F2.2.2.2 2 (Or.inl (by omega))]; exact er) (fun r2 n2 => q r2 ?_)
      have := ge f (i + 1) (m + 1) (rt_step h b n m (nt_pick h b k ru))
      rw [show m + 1 + ((rt_run b n k ru f (i + 1) (m + 1) (rt_step h b n m (nt_pick h b k ru))).1 - (i + 1)) = m + ((rt_run b n k ru f (i + 1) (m + 1) (rt_step h b n m (nt_pick h b k ru))).1 - i) by omega] at n2
      exact n2
theorem rx_pt (hb : b ≤ 225) {NN : Nat} (hN : NN ≤ 10000) (hM : M ≤ 19000000) (N : NR h b r n k m) (G : GI r n k M) : tf_Sp (d + 7) 50 [.ref 270, .int (nI NN)] r (fun v r2 => v = .int (nI (rt_run b n k (r.1 271 2) NN 0 m h).1) ∧ NR (rt_run b n k (r.1 271 2) NN 0 m h).2 b r2 n k (m + (rt_run b n k (r.1 271 2) NN 0 m h).1)) := fun Q q => en_X9_pivotsTill (by decide) (go_X9_pivotsTill_0 (by decide) (rx_ptL hb hN hM NN 0 m h r (by omega) N G rfl (fun r2 n2 => q _ r2 ⟨rfl, n2⟩)))
end RJT
