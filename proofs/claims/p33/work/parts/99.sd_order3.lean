/-! ===== orders: what stays; which numbers count ===== -/
section SDO
variable {h g r : LH} {b n k m M d : Nat}
theorem run_nt {ru : Int32} : ∀ (f i m : Nat) (h : LH) (c : Nat), NT h b n k m → RO h c → NT (rt_run b n k ru f i m h).2 b n k (m + ((rt_run b n k ru f i m h).1 - i))
  | 0, i, m, h, c, H, R => by
    rw [rt_run, Nat.sub_self, Nat.add_zero]
    exact H
  | f + 1, i, m, h, c, H, R => by
    rw [rt_run]
    by_cases z : nt_pick h b k ru = -1
    · rw [if_pos z, Nat.sub_self, Nat.add_zero]
      exact H
    · rw [if_neg z]
      obtain ⟨-, -, -, ⟨HT, c2, R2⟩, -⟩ := st_ok H R ((H.pick ru).resolve_left z)
      have ih := run_nt (ru := ru) f (i + 1) (m + 1) (rt_step h b n m (nt_pick h b k ru)) c2 HT R2
      obtain ⟨h1, -, -, -⟩ := run_m (b := b) (n := n) (k := k) (ru := ru) (f := 0) (i := 0) f (i + 1) (m + 1) (rt_step h b n m (nt_pick h b k ru))
      rw [show m + 1 + ((rt_run b n k ru f (i + 1) (m + 1) (rt_step h b n m (nt_pick h b k ru))).1 - (i + 1)) = m + ((rt_run b n k ru f (i + 1) (m + 1) (rt_step h b n m (nt_pick h b k ru))).1 - i) by omega] at ih
      exact ih
/-- what an order leaves -/
def OdF (h g : LH) (n k m m2 : Nat) : Prop := NT g 0 n k m2 ∧ m2 ≤ m + 60 ∧ (∃ c, RO g c) ∧ (∀ e, 15 ≤ e → e < 241 → g.1 e = h.1 e) ∧ Fr h g
theorem odf_n {c : Nat} (R : RO h c) (H : NT g 0 n k m) (L : ∀ e, ¬ e < 15 → g.1 e = h.1 e) (e2 : g.2 = h.2) : OdF h g n k m m := ⟨H, by omega, ⟨c, R.same (L 241 (by omega)) (L 242 (by omega))⟩, fun e h1 _ => L e (by omega), fun e he => L e (by omega), e2⟩
theorem odf_b {c : Nat} {w : Int32} (R : RO h c) (H : NT g 0 n k m) (L : ∀ e, ¬ e < 15 → g.1 e = h.1 e) (e2 : g.2 = h.2) : OdF h (nt_beg g 0 n k w) n k m m := by
  obtain ⟨HB, LB, B2⟩ := beg_ok H w
  exact odf_n R HB (fun e he => by rw [LB e (by omega), L e he]) (by rw [B2, e2])
theorem od_ok {c0 v : Nat} {a b2 c : Int32} (H : NT h 0 n k m) (R : RO h c0) (ha : v = 9 → ∃ NN, NN ≤ 60 ∧ a = nI NN) : OdF h (od h n k m v a b2 c).1 n k m (od h n k m v a b2 c).2.1 := by
  have self : OdF h h n k m m := odf_n R H (fun _ _ => rfl) rfl
  unfold od
  by_cases v9 : v = 9
  · obtain ⟨NN, h60, rfl⟩ := ha v9
    rw [if_pos v9, nI_clamp (by omega)]
    obtain ⟨-, ⟨c2, R2⟩, L⟩ := rt_run_ok (rule := h.1 0 2) NN 0 m h c0 H R
    have F := rt_run_fr (rule := h.1 0 2) NN 0 m h c0 H R
    have E := rt_run_240 (rule := h.1 0 2) NN 0 m h c0 H R
    have HR := run_nt (ru := h.1 0 2) NN 0 m h c0 H R
    obtain ⟨-, p2, -, -⟩ := run_m (b := 0) (n := n) (k := k) (ru := h.1 0 2) (f := 0) (i := 0) NN 0 m h
    generalize rt_run 0 n k (h.1 0 2) NN 0 m h = P at R2 L F E HR p2
    refine ⟨HR, by show m + P.1 ≤ m + 60; omega, ⟨c2, R2⟩, fun e h1 h2 => ?_, F⟩
    by_cases z : e = 240
    · rw [z, E]
    · exact L e (by omega) (by omega)
  rw [if_neg v9]
  have w6 : ∀ (cc i : Nat) (u : Int32), cc < 15 → cc ≠ 0 → cc ≠ 11 → cc ≠ 2 → cc ≠ 3 → cc ≠ 8 → cc ≠ 9 → NT (w1 h cc i u) 0 n k m ∧ ∀ e, ¬ e < 15 → (w1 h cc i u).1 e = h.1 e := fun cc i u z0 z1 z2 z3 z4 z5 z6 => ⟨H.w6 (by omega) (by omega) (by omega) (by omega) (by omega) (by omega), fun e he => w1_ne (by omega)⟩
  by_cases v10 : v = 10
  · rw [if_pos v10]
    show OdF h (if nt_canMove h 0 a b2 c = true then nt_beg (nt_mv h 0 a b2 c) 0 n k 1 else h) n k m m
    split
    · exact odf_b R ((H.w6 (by decide) (by decide) (by decide) (by decide) (by decide) (by decide)).w6 (by decide) (by decide) (by decide) (by decide) (by decide) (by decide)) (fun e he => by unfold nt_mv; rw [w1_ne (by omega), w1_ne (by omega)]) rfl
    · exact self
  rw [if_neg v10]
  have op : ∀ y : Int32, OdF h (if nt_canOpen h 0 a y = true then nt_beg (nt_op h 0 a y) 0 n k 1 else h) n k m m := fun y => by
    split
    · obtain ⟨x1, x2⟩ := w6 (0 + 7) a.toNatClampNeg (if y = 0 then 3 else 0) (by decide) (by decide) (by decide) (by decide) (by decide) (by decide) (by decide)
      exact odf_b R x1 x2 rfl
    · exact self
  have co : ∀ y : Int32, OdF h (if nt_canC h 0 a y = true then nt_prs (w1 h (0 + 5) a.toNatClampNeg y) 0 n else h) n k m m := fun y => by
    split
    · obtain ⟨x1, x2⟩ := w6 (0 + 5) a.toNatClampNeg y (by decide) (by decide) (by decide) (by decide) (by decide) (by decide) (by decide)
      obtain ⟨HP, LP, P2⟩ := prs_ok x1
      exact odf_n R HP (fun e he => by rw [LP e (by omega), x2 e he]) P2
    · exact self
  by_cases v5 : v = 5
  · rw [if_pos v5]
    exact op 0
  rw [if_neg v5]
  by_cases v11 : v = 11
  · rw [if_pos v11]
    exact op 1
  rw [if_neg v11]
  by_cases v12 : v = 12
  · rw [if_pos v12]
    show OdF h (if nt_canB h 0 a b2 = true then nt_beg (w1 h (0 + 4) a.toNatClampNeg b2) 0 n k 1 else h) n k m m
    split
    · obtain ⟨x1, x2⟩ := w6 (0 + 4) a.toNatClampNeg b2 (by decide) (by decide) (by decide) (by decide) (by decide) (by decide) (by decide)
      exact odf_b R x1 x2 rfl
    · exact self
  rw [if_neg v12]
  by_cases v13 : v = 13
  · rw [if_pos v13]
    exact co b2
  rw [if_neg v13]
  by_cases v2 : v = 2
  · rw [if_pos v2]
    exact co (-b2)
  rw [if_neg v2]
  by_cases v14 : v = 14
  · rw [if_pos v14]
    exact odf_b R H (fun _ _ => rfl) rfl
  rw [if_neg v14]
  show OdF h (w1 h 0 2 (nI (v - 6))) n k m m
  refine odf_n R ?_ (fun e he => w1_ne (by omega)) rfl
  obtain ⟨⟨K, hb, h0, hk, hu, hue, ht, hh⟩, hm2, hs⟩ := H
  refine ⟨⟨K, hb, by rw [w1_at (by decide)]; exact h0, by rw [w1_at (by decide)]; exact hk, fun p hp => ?_, fun p hp => ?_, fun a ha => ?_, fun a ha => ?_⟩, by rw [w1_ne (by decide)]; exact hm2, by rw [w1_ne (by decide)]; exact hs⟩
  · rw [w1_ne (by decide)]; exact hu p hp
  · rw [w1_ne (by decide)]; exact hue p hp
  · rw [w1_ne (by decide)]; exact ht a ha
  · rw [w1_ne (by decide)]; exact hh a ha
/-- only the numbers that an order has count -/
theorem od_cg {v : Nat} {a b1 c a2 b2 c2 : Int32} (ea : v = 9 ∨ v = 10 ∨ v = 5 ∨ v = 11 ∨ v = 12 ∨ v = 13 ∨ v = 2 → a = a2) (eb : v = 10 ∨ v = 12 ∨ v = 13 ∨ v = 2 → b1 = b2) (ec : v = 10 → c = c2) : od h n k m v a b1 c = od h n k m v a2 b2 c2 := by
  unfold od
  by_cases v9 : v = 9
  · rw [if_pos v9, if_pos v9, ea (Or.inl v9)]
  rw [if_neg v9, if_neg v9]
  by_cases v10 : v = 10
  · rw [if_pos v10, if_pos v10, ea (by omega), eb (by omega), ec v10]
  rw [if_neg v10, if_neg v10]
  by_cases v5 : v = 5
  · rw [if_pos v5, if_pos v5, ea (by omega)]
  rw [if_neg v5, if_neg v5]
  by_cases v11 : v = 11
  · rw [if_pos v11, if_pos v11, ea (by omega)]
  rw [if_neg v11, if_neg v11]
  by_cases v12 : v = 12
  · rw [if_pos v12, if_pos v12, ea (by omega), eb (by omega)]
  rw [if_neg v12, if_neg v12]
  by_cases v13 : v = 13
  · rw [if_pos v13, if_pos v13, ea (by omega), eb (by omega)]
  rw [if_neg v13, if_neg v13]
  by_cases v2 : v = 2
  · rw [if_pos v2, if_pos v2, ea (by omega), eb (by omega)]
  rw [if_neg v2, if_neg v2]
end SDO
