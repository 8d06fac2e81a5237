/-! ===== flows, the tree turned, prices: both sides alike ===== -/
section RFF
variable {h g T : LH} {b n k : Nat}
theorem eK_cl {id : Int32} (hn : n ≤ 7) (hk : k ≤ 14) (D : ED n k id) : (∃ a, a < k ∧ id = nI a ∧ (eK id).toNatClampNeg = a ∧ fx id = 72 + 7 * a + 4) ∨ ∃ p, p < n ∧ id = nI (100 + p) ∧ (eK id).toNatClampNeg = 14 + p ∧ fx id = 65 + p := by
  rcases D with ⟨a, ha, e⟩ | ⟨p, hp, e⟩
  · exact Or.inl ⟨a, ha, e, by rw [e, eK_a (by omega), nI_clamp (by omega)], by rw [e]; exact fx_a (by omega)⟩
  · exact Or.inr ⟨p, hp, e, by rw [e, eK_p (by omega), nI_clamp (by omega)], by rw [e]; exact fx_p (by omega)⟩
theorem FLe.w {R : LH} (hn : n ≤ 7) (hk : k ≤ 14) (F : FLe h b R n k) {id : Int32} (D : ED n k id) (v : Int32) : FLe (w1 h (b + 6) (eK id).toNatClampNeg v) b (w1 R 271 (fx id) v) n k := by
  have key : ∀ a w, a < k → w = 2 ∨ w = 4 → rm (w1 R 271 (fx id) v) a w = if 72 + 7 * a + w = fx id then v else rm R a w := fun a w _ _ => by
    unfold rm
    by_cases z : 72 + 7 * a + w = fx id
    · rw [if_pos z, z, w1_eq]
    · rw [if_neg z, w1_at z]
  rcases eK_cl hn hk D with ⟨a, ha, e, c1, c2⟩ | ⟨p, hp, e, c1, c2⟩
  · rw [c1] at *
    refine ⟨fun o ho => ?_, fun q hq => ?_⟩
    · rw [key o 2 ho (Or.inl rfl), key o 4 ho (Or.inr rfl), c2, if_neg (by omega), w1_ne (by omega)]
      refine ⟨(F.1 o ho).1, ?_⟩
      by_cases z : o = a
      · rw [z, w1_eq, if_pos rfl]
      · rw [w1_at z, if_neg (by omega)]
        exact (F.1 o ho).2
    · rw [w1_at (by omega), w1_at (by omega)]
      exact F.2 q hq
  · rw [c1] at *
    refine ⟨fun o ho => ?_, fun q hq => ?_⟩
    · rw [key o 2 ho (Or.inl rfl), key o 4 ho (Or.inr rfl), c2, if_neg (by omega), if_neg (by omega), w1_ne (by omega), w1_at (by omega)]
      exact F.1 o ho
    · by_cases z : q = p
      · rw [z, w1_eq, c2, w1_eq]
      · rw [w1_at (by omega), c2, w1_at (by omega)]
        exact F.2 q hq
theorem FLe.at {R : LH} (hn : n ≤ 7) (hk : k ≤ 14) (F : FLe h b R n k) {id : Int32} (D : ED n k id) : h.1 (b + 6) (eK id).toNatClampNeg = R.1 271 (fx id) := by
  rcases eK_cl hn hk D with ⟨a, ha, e, c1, c2⟩ | ⟨p, hp, e, c1, c2⟩
  · rw [c1, c2]
    exact (F.1 a ha).2
  · rw [c1, c2]
    exact F.2 p hp
/-- what flows round the cycle -/
theorem fls_eq (hn : n ≤ 7) (hk : k ≤ 14) (hb : b ≤ 225) {dl : Int32} : ∀ (f i : Nat) (h R : LH), FLe h b R n k → (∀ m, i ≤ m → m < i + f → h.1 242 m = eK (R.1 285 m) ∧ h.1 243 m = R.1 286 m ∧ ED n k (R.1 285 m)) → h.1 241 4 = dl → FLe (st_fl b f i h) b (fls dl f i R) n k
  | 0, i, h, R, F, row, e4 => F
  | f + 1, i, h, R, F, row, e4 => by
    obtain ⟨r1, r2, D⟩ := row i (Nat.le_refl _) (by omega)
    rw [st_fl, fls]
    unfold fl1
    rw [r1, r2, e4, F.at hn hk D]
    refine fls_eq hn hk hb f (i + 1) _ _ (F.w hn hk D _) (fun m h1 h2 => ?_) (by rw [w1_ne (by omega)]; exact e4)
    rw [w1_ne (show (242 : Nat) ≠ b + 6 by omega), w1_ne (show (243 : Nat) ≠ b + 6 by omega), w1_ne (show (285 : Nat) ≠ 271 by decide), w1_ne (show (286 : Nat) ≠ 271 by decide)]
    exact row m (by omega) (by omega)
/-- names of edges differ on the class's side where they do on the reference's -/
theorem eK_inj (hn : n ≤ 7) (hk : k ≤ 14) {x y : Int32} (hx : ED n k x) (hy : ED n k y) (e : eK x = eK y) : x = y := by
  rcases hx with ⟨a, ha, ex⟩ | ⟨p, hp, ex⟩ <;> rcases hy with ⟨c, hc, ey⟩ | ⟨q, hq, ey⟩
  · rw [ex, ey, eK_a (by omega), eK_a (by omega)] at e
    rw [ex, ey, e]
  · rw [ex, ey, eK_a (by omega), eK_p (by omega)] at e
    have := (nI_eq (by omega) (by omega)).mp e
    omega
  · rw [ex, ey, eK_p (by omega), eK_a (by omega)] at e
    have := (nI_eq (by omega) (by omega)).mp e
    omega
  · rw [ex, ey, eK_p (by omega), eK_p (by omega)] at e
    have := (nI_eq (by omega) (by omega)).mp e
    rw [ex, ey, show p = q by omega]
theorem EG.ed {r : LH} {p q : Nat} {id : Int32} (hp : p < n) (E : EG r n k p q id) : ED n k id := by
  rcases E with ⟨-, e, -⟩ | ⟨-, a, ha, e, -, -⟩
  · exact Or.inr ⟨p, hp, e⟩
  · exact Or.inl ⟨a, ha, e⟩
/-- only one tree hangs by the edges that hang -/
theorem ct_uni (L : LT T n k) (A : ∀ a, a < k → rm T a 0 ≠ rm T a 1) (u1 : ∀ p, p < n → ∃ q id, q ≤ n ∧ h.1 (b + 8) p = cI n q ∧ h.1 (b + 9) p = eK id ∧ EG T n k p q id) (u2 : ∀ p q id, p < n → EG T n k p q id → ∃ s, s < n ∧ h.1 (b + 9) s = eK id) : CT h b T n := by
  have n7 := L.1.1.2.1
  have k14 := L.1.1.2.2
  have main : ∀ (d p : Nat), p < n → df T p ≤ d → h.1 (b + 8) p = cI n (uf T p) ∧ h.1 (b + 9) p = eK (T.1 282 p) := by
    intro d
    induction d with
    | zero =>
      intro p hp hd
      have := (L.up hp).2
      omega
    | succ d ih =>
      intro p hp hd
      have Ep := (L.at hp).2.2.2.2.2
      have up := L.up hp
      obtain ⟨s, hs, es⟩ := u2 p (uf T p) _ hp Ep
      obtain ⟨q, id, hq, e8, e9, Es⟩ := u1 s hs
      have eid : id = T.1 282 p := eK_inj n7 k14 (Es.ed hs) (Ep.ed hp) (e9.symm.trans es)
      rw [eid] at Es e9
      have same : s = p → h.1 (b + 8) p = cI n (uf T p) ∧ h.1 (b + 9) p = eK (T.1 282 p) := by
        intro sp
        subst sp
        refine ⟨?_, e9⟩
        rw [e8]
        congr 1
        rcases Es with ⟨z, ez, -⟩ | ⟨z, a, ha, ea, -, ends⟩
        · rcases Ep with ⟨y, -, -⟩ | ⟨y, c, hc, ec, -, -⟩
          · rw [z, y]
          · exfalso
            rw [ez] at ec
            have := (nI_eq (by omega) (by omega)).mp ec
            omega
        · rcases Ep with ⟨y, ey, -⟩ | ⟨y, c, hc, ec, -, ends2⟩
          · exfalso
            rw [ey] at ea
            have := (nI_eq (by omega) (by omega)).mp ea
            omega
          · have ac : a = c := (nI_eq (by omega) (by omega)).mp (ea.symm.trans ec)
            subst ac
            have ne := A a ha
            rcases ends with ⟨m1, m2⟩ | ⟨m1, m2⟩ <;> rcases ends2 with ⟨m3, m4⟩ | ⟨m3, m4⟩
            · exact (nI_eq (by omega) (by omega)).mp (m2.symm.trans m4)
            · exact absurd (m1.trans m3.symm) ne
            · exact absurd (m3.trans m1.symm) ne
            · exact (nI_eq (by omega) (by omega)).mp (m2.symm.trans m4)
      by_cases sp : s = p
      · exact same sp
      · exfalso
        -- then s is the next one of p, and its own edge is p's
        have sup : s = uf T p := by
          rcases Es with ⟨-, ea, -⟩ | ⟨-, a, ha, ea, -, ends⟩
          · rcases Ep with ⟨-, ey, -⟩ | ⟨-, c, hc, ec, -, -⟩
            · rw [ey] at ea
              have := (nI_eq (by omega) (by omega)).mp ea
              omega
            · rw [ec] at ea
              have := (nI_eq (by omega) (by omega)).mp ea
              omega
          · rcases Ep with ⟨-, ey, -⟩ | ⟨y, c, hc, ec, -, ends2⟩
            · rw [ey] at ea
              have := (nI_eq (by omega) (by omega)).mp ea
              omega
            · have ac : a = c := (nI_eq (by omega) (by omega)).mp (ea.symm.trans ec)
              subst ac
              rcases ends with ⟨m1, m2⟩ | ⟨m1, m2⟩ <;> rcases ends2 with ⟨m3, m4⟩ | ⟨m3, m4⟩
              · exact absurd ((nI_eq (by omega) (by omega)).mp (m1.symm.trans m3)) sp
              · exact (nI_eq (by omega) (by omega)).mp (m1.symm.trans m4)
              · exact (nI_eq (by omega) (by omega)).mp (m1.symm.trans m4)
              · exact absurd ((nI_eq (by omega) (by omega)).mp (m1.symm.trans m3)) sp
        have i := (ih s hs (by rw [sup]; omega)).2
        have e2 : T.1 282 s = T.1 282 p := eK_inj n7 k14 ((L.at hs).2.2.2.2.2.ed hs) (Ep.ed hp) (i.symm.trans es)
        exact sp (by_inj L hs hp e2)
  exact fun p hp => main (df T p) p hp (Nat.le_refl _)
/-- the way is turned round -/
theorem ct_rh (L : LT T n k) (hb : b ≤ 225) {B j : Nat} {goes : Int32} (hB : B ≤ n) (hj : j < df T B) (hg : eK (T.1 282 (tw T j B)) = goes) (hne : ∀ t, t < j → eK (T.1 282 (tw T t B)) ≠ goes) : ∀ (f i0 : Nat) (u e : Int32) (h : LH), (∀ t, i0 ≤ t → t ≤ j → h.1 (b + 8) (tw T t B) = cI n (uf T (tw T t B)) ∧ h.1 (b + 9) (tw T t B) = eK (T.1 282 (tw T t B))) → i0 ≤ j → j < i0 + f → (nt_rh b goes f (cI n (tw T i0 B)) u e h).1 (b + 8) (tw T i0 B) = u ∧ (nt_rh b goes f (cI n (tw T i0 B)) u e h).1 (b + 9) (tw T i0 B) = e ∧ (∀ t, i0 < t → t ≤ j → (nt_rh b goes f (cI n (tw T i0 B)) u e h).1 (b + 8) (tw T t B) = cI n (tw T (t - 1) B) ∧ (nt_rh b goes f (cI n (tw T i0 B)) u e h).1 (b + 9) (tw T t B) = eK (T.1 282 (tw T (t - 1) B))) ∧ (∀ p, (∀ t, i0 ≤ t → t ≤ j → tw T t B ≠ p) → (nt_rh b goes f (cI n (tw T i0 B)) u e h).1 (b + 8) p = h.1 (b + 8) p ∧ (nt_rh b goes f (cI n (tw T i0 B)) u e h).1 (b + 9) p = h.1 (b + 9) p)
  | 0, i0, u, e, h, C, h1, h2 => by omega
  | f + 1, i0, u, e, h, C, h1, h2 => by
    have n7 := L.1.1.2.1
    have t0 := L.tu i0 B hB (by omega)
    have hp : tw T i0 B < n := tw_lt L hB (by omega)
    have inj : ∀ t, t ≤ j → tw T t B = tw T i0 B → t = i0 := fun t ht et => tw_in L hB (by omega) (by omega) et
    rw [nt_rh, if_neg (fun w => absurd ((cI_7 n7 t0.1).mp w) (by omega)), cI_cl n7 hp, (C i0 (Nat.le_refl _) h1).1, (C i0 (Nat.le_refl _) h1).2]
    have a8 : ∀ p, (w1 (w1 h (b + 8) (tw T i0 B) u) (b + 9) (tw T i0 B) e).1 (b + 8) p = if p = tw T i0 B then u else h.1 (b + 8) p := fun p => by
      rw [w1_ne (by omega)]
      by_cases z : p = tw T i0 B
      · rw [if_pos z, z, w1_eq]
      · rw [if_neg z, w1_at z]
    have a9 : ∀ p, (w1 (w1 h (b + 8) (tw T i0 B) u) (b + 9) (tw T i0 B) e).1 (b + 9) p = if p = tw T i0 B then e else h.1 (b + 9) p := fun p => by
      by_cases z : p = tw T i0 B
      · rw [if_pos z, z, w1_eq]
      · rw [if_neg z, w1_at z, w1_ne (by omega)]
    generalize w1 (w1 h (b + 8) (tw T i0 B) u) (b + 9) (tw T i0 B) e = h1' at a8 a9
    by_cases ij : i0 = j
    · subst ij
      rw [if_pos hg]
      refine ⟨by rw [a8, if_pos rfl], by rw [a9, if_pos rfl], fun t h3 h4 => by omega, fun p hp2 => ?_⟩
      have := hp2 i0 (Nat.le_refl _) (Nat.le_refl _)
      rw [a8, a9, if_neg (fun z => this z.symm), if_neg (fun z => this z.symm)]
      exact ⟨rfl, rfl⟩
    · rw [if_neg (hne i0 (by omega)), ← tw_s]
      obtain ⟨r1, r2, r3, r4⟩ := ct_rh L hb hB hj hg hne f (i0 + 1) (cI n (tw T i0 B)) (eK (T.1 282 (tw T i0 B))) h1' (fun t h3 h4 => by
        have ne : ¬ tw T t B = tw T i0 B := fun z => absurd (inj t h4 z) (by omega)
        rw [a8, a9, if_neg ne, if_neg ne]
        exact C t (by omega) h4) (by omega) (by omega)
      have stay := r4 (tw T i0 B) (fun t h3 h4 z => absurd (inj t h4 z) (by omega))
      refine ⟨by rw [stay.1, a8, if_pos rfl], by rw [stay.2, a9, if_pos rfl], fun t h3 h4 => ?_, fun p hp2 => ?_⟩
      · by_cases ti : t = i0 + 1
        · subst ti
          exact ⟨r1, r2⟩
        · exact r3 t (by omega) h4
      · have := hp2 i0 (Nat.le_refl _) (by omega)
        obtain ⟨q1, q2⟩ := r4 p (fun t h3 h4 => hp2 t (by omega) h4)
        rw [q1, q2, a8, a9, if_neg (fun z => this z.symm), if_neg (fun z => this z.symm)]
        exact ⟨rfl, rfl⟩
/-- a price is what the way to the root costs -/
theorem sum_eq (L : LT T n k) (P : PR T n k) (A : ∀ a, a < k → rm T a 0 ≠ rm T a 1) (C : CT h b T n) (E : TLe h b T n k) (Ce : COe h b T n k) : ∀ (f p : Nat) (s : Int32), p ≤ n → df T p ≤ f → nt_sum h b f (cI n p) s = s + T.1 284 p
  | 0, p, s, hp, hd => by
    have : p = n := (L.d0 hp).mp (by omega)
    rw [nt_sum, this, P.1, Int32.add_zero]
  | f + 1, p, s, hp, hd => by
    have n7 := L.1.1.2.1
    have k14 := L.1.1.2.2
    rw [nt_sum]
    by_cases pn : p = n
    · rw [if_pos ((cI_7 n7 hp).mpr pn), pn, P.1, Int32.add_zero]
    · have hp2 : p < n := by omega
      have up := L.up hp2
      rw [if_neg (fun w => pn ((cI_7 n7 hp).mp w)), cI_cl n7 hp2, (C p hp2).1, (C p hp2).2, sum_eq L P A C E Ce f (uf T p) _ up.1 (by omega)]
      rw [cI_lt hp2]
      rcases P.at L hp2 with ⟨un, e, pr⟩ | ⟨u, -, a, ha, e, ends⟩
      · rw [e, eK_p (by omega), nI_clamp (by omega), Ce.2 p hp2, un, P.1, pr]
        by_cases w : T.1 271 (58 + p) = 1
        · rw [((E.2 p hp2).1 w).1, if_pos rfl, if_pos w, Int32.add_zero]
        · rw [((E.2 p hp2).2 w).1, if_neg (show ¬ (7 : Int32) = nI p from fun z => absurd ((nI_eq (a := 7) (b := p) (by omega) (by omega)).mp z) (by omega)), if_neg w, Int32.add_zero]
      · rw [e, eK_a (by omega), nI_clamp (by omega), (E.1 a ha).1, Ce.1 a ha]
        have ne := A a ha
        rcases ends with ⟨m1, m2, pr⟩ | ⟨m1, m2, pr⟩
        · rw [if_neg (fun z => ne (z.trans m1.symm)), pr, Int32.add_assoc, Int32.add_comm (rm T a 3)]
        · rw [m1, if_pos rfl, pr, Int32.add_assoc, Int32.add_comm (-rm T a 3), ← Int32.sub_eq_add_neg]
theorem pl_eq (L : LT T n k) (P : PR T n k) (A : ∀ a, a < k → rm T a 0 ≠ rm T a 1) (hb : b ≤ 225) : ∀ (f p : Nat) (h : LH), CT h b T n → TLe h b T n k → COe h b T n k → p + f = n → h.1 (b + 10) 7 = 0 → (∀ o, o < p → h.1 (b + 10) o = T.1 284 o) → PRe (nt_pl b n f p h) b T n ∧ ∀ e, e ≠ b + 10 → (nt_pl b n f p h).1 e = h.1 e
  | 0, p, h, C, E, Ce, hf, e7, z => ⟨⟨e7, fun o ho => z o (by omega)⟩, fun _ _ => rfl⟩
  | f + 1, p, h, C, E, Ce, hf, e7, z => by
    have n7 := L.1.1.2.1
    have s := sum_eq L P A C E Ce n p 0 (by omega) (L.dn (by omega))
    rw [cI_lt (show p < n by omega)] at s
    have s0 : (0 : Int32) + T.1 284 p = T.1 284 p := by rw [Int32.zero_add]
    rw [nt_pl, s, s0]
    have o : ∀ e, e ≠ b + 10 → (w1 h (b + 10) p (T.1 284 p)).1 e = h.1 e := fun e he => w1_ne he
    obtain ⟨r1, r2⟩ := pl_eq L P A hb f (p + 1) (w1 h (b + 10) p (T.1 284 p)) (C.same (o _ (by omega)) (o _ (by omega))) (by unfold TLe; rw [o _ (by omega), o _ (by omega)]; exact E) (by unfold COe; rw [o _ (by omega)]; exact Ce) (by omega) (by rw [w1_at (by omega)]; exact e7) (fun q hq => by
      by_cases qp : q = p
      · rw [qp, w1_eq]
      · rw [w1_at qp]
        exact z q (by omega))
    exact ⟨r1, fun e he => by rw [r2 e he, o e he]⟩
theorem prs_eq (L : LT T n k) (P : PR T n k) (A : ∀ a, a < k → rm T a 0 ≠ rm T a 1) (hb : b ≤ 225) (C : CT h b T n) (E : TLe h b T n k) (Ce : COe h b T n k) : PRe (nt_prs h b n) b T n ∧ ∀ e, e ≠ b + 10 → (nt_prs h b n).1 e = h.1 e := by
  have o : ∀ e, e ≠ b + 10 → (w1 h (b + 10) 7 0).1 e = h.1 e := fun e he => w1_ne he
  obtain ⟨r1, r2⟩ := pl_eq L P A hb n 0 (w1 h (b + 10) 7 0) (C.same (o _ (by omega)) (o _ (by omega))) (by unfold TLe; rw [o _ (by omega), o _ (by omega)]; exact E) (by unfold COe; rw [o _ (by omega)]; exact Ce) (by omega) w1_eq (fun q hq => absurd hq (by omega))
  exact ⟨r1, fun e he => by rw [show nt_prs h b n = nt_pl b n n 0 (w1 h (b + 10) 7 0) from rfl, r2 e he, o e he]⟩
end RFF
