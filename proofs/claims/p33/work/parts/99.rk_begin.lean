/-! ===== begin on both sides ===== -/
section RKB
variable {h g r : LH} {b n k m M : Nat}
/-- an arc before it begins: its numbers; whether it is blocked -/
def AE (h : LH) (b : Nat) (g : LH) (c : Nat) : Prop := (h.1 (b + 2) c = rm g c 0 ∧ h.1 (b + 3) c = rm g c 1) ∧ h.1 (b + 4) c = rm g c 2 ∧ h.1 (b + 5) c = rm g c 3 ∧ h.1 (b + 6) c = rm g c 4
def B0 (h : LH) (b : Nat) (g : LH) (c : Nat) : Prop := (rm g c 6 = 0 ∧ h.1 (b + 7) c ≠ 3) ∨ (rm g c 6 = 1 ∧ h.1 (b + 7) c = 3)
def S1 (h : LH) (b : Nat) (g : LH) (c : Nat) : Prop := ((rm g c 6 = 0 ∧ h.1 (b + 7) c = rm g c 5 ∧ vp_in (rm g c 5) 3) ∨ (rm g c 6 = 1 ∧ h.1 (b + 7) c = 3 ∧ rm g c 5 = 0)) ∧ (rm g c 5 = 0 ∨ rm g c 5 = 1)
theorem nt_b1_lo {w : Int32} {a : Nat} : (∀ e, e ≠ b + 6 → e ≠ b + 7 → (nt_b1 h b w a).1 e = h.1 e) ∧ ∀ c, c ≠ a → (nt_b1 h b w a).1 (b + 6) c = h.1 (b + 6) c ∧ (nt_b1 h b w a).1 (b + 7) c = h.1 (b + 7) c := by
  unfold nt_b1
  split
  · exact ⟨fun e h1 h2 => w1_ne h1, fun c hc => ⟨w1_at hc, by rw [w1_ne (by omega)]⟩⟩
  · split
    · exact ⟨fun e h1 h2 => by rw [w1_ne h1, w1_ne h2], fun c hc => ⟨by rw [w1_at hc, w1_ne (by omega)], by rw [w1_ne (by omega), w1_at hc]⟩⟩
    · exact ⟨fun e h1 h2 => by rw [w1_ne h1, w1_ne h2], fun c hc => ⟨by rw [w1_at hc, w1_ne (by omega)], by rw [w1_ne (by omega), w1_at hc]⟩⟩
theorem ba1_6 {w : Int32} {a c v : Nat} (hv : v < 7) (h4 : v ≠ 4) (h5 : v ≠ 5) : rm (ba1 g w a) c v = rm g c v := by
  unfold ba1
  split
  · exact (rp_ne (by omega)).trans (rp_ne (by omega))
  · exact (rp_ne (by omega)).trans (rp_ne (by omega))
/-- one arc begins -/
theorem b1_eq {w : Int32} {a : Nat} (E : AE h b g a) (B : B0 h b g a) : AE (nt_b1 h b w a) b (ba1 g w a) a ∧ S1 (nt_b1 h b w a) b (ba1 g w a) a := by
  obtain ⟨⟨e0, e1⟩, e2, e3, e4⟩ := E
  obtain ⟨lo, -⟩ := nt_b1_lo (h := h) (b := b) (w := w) (a := a)
  have s0 : AE (nt_b1 h b w a) b (ba1 g w a) a ↔ (nt_b1 h b w a).1 (b + 6) a = rm (ba1 g w a) a 4 := by
    unfold AE
    rw [lo (b + 2) (by omega) (by omega), lo (b + 3) (by omega) (by omega), lo (b + 4) (by omega) (by omega), lo (b + 5) (by omega) (by omega), ba1_6 (by omega) (by omega) (by omega), ba1_6 (by omega) (by omega) (by omega), ba1_6 (by omega) (by omega) (by omega), ba1_6 (by omega) (by omega) (by omega)]
    exact ⟨fun z => z.2.2.2, fun z => ⟨⟨e0, e1⟩, e2, e3, z⟩⟩
  rw [s0]
  unfold S1
  rw [ba1_6 (v := 6) (by omega) (by omega) (by omega)]
  have r54 : ∀ x y : Int32, rm (rp (rp g a 5 x) a 4 y) a 4 = y ∧ rm (rp (rp g a 5 x) a 4 y) a 5 = x := fun x y => ⟨rp_at, (rp_ne (by omega)).trans rp_at⟩
  rcases B with ⟨b6, b7⟩ | ⟨b6, b7⟩
  · have ff : ba_full g w a = nt_full h b w a := by
      unfold ba_full nt_full
      rw [b6, e2, e4]
      simp
    unfold nt_b1 ba1
    rw [if_neg b7, ff]
    by_cases f : nt_full h b w a = true
    · rw [if_pos f, if_pos f, (r54 _ _).1, (r54 _ _).2]
      exact ⟨by rw [w1_eq, e2], Or.inl ⟨b6, by rw [w1_ne (by omega), w1_eq], vi_of (j := 1) (by omega) (by omega)⟩, Or.inr rfl⟩
    · rw [if_neg f, if_neg f, (r54 _ _).1, (r54 _ _).2]
      exact ⟨w1_eq, Or.inl ⟨b6, by rw [w1_ne (by omega), w1_eq], vi_of (j := 0) (by omega) (by omega)⟩, Or.inl rfl⟩
  · have ff : ¬ ba_full g w a = true := by
      unfold ba_full
      rw [b6]
      simp
    unfold nt_b1 ba1
    rw [if_pos b7, if_neg ff, (r54 _ _).1, (r54 _ _).2]
    exact ⟨w1_eq, Or.inr ⟨b6, by rw [w1_ne (by omega)]; exact b7, rfl⟩, Or.inl rfl⟩
theorem ba_eq {w : Int32} : ∀ (f a : Nat) (h g : LH), a + f = k → (∀ c, c < k → AE h b g c) → (∀ c, a ≤ c → c < k → B0 h b g c) → (∀ c, c < a → S1 h b g c) → (∀ c, c < k → AE (nt_ba b w f a h) b (ba w f a g) c ∧ S1 (nt_ba b w f a h) b (ba w f a g) c) ∧ ∀ e, e ≠ b + 6 → e ≠ b + 7 → (nt_ba b w f a h).1 e = h.1 e
  | 0, a, h, g, hf, E, B, S => ⟨fun c hc => ⟨E c hc, S c (by omega)⟩, fun _ _ _ => rfl⟩
  | f + 1, a, h, g, hf, E, B, S => by
    rw [nt_ba, ba]
    obtain ⟨lo, ot⟩ := nt_b1_lo (h := h) (b := b) (w := w) (a := a)
    obtain ⟨n1, n2⟩ := b1_eq (w := w) (E a (by omega)) (B a (Nat.le_refl _) (by omega))
    have oAE : ∀ c, c ≠ a → AE h b g c → AE (nt_b1 h b w a) b (ba1 g w a) c := fun c hc z => by
      unfold AE at z ⊢
      rw [lo (b + 2) (by omega) (by omega), lo (b + 3) (by omega) (by omega), lo (b + 4) (by omega) (by omega), lo (b + 5) (by omega) (by omega), (ot c hc).1, ba1_ne (by omega) hc, ba1_ne (by omega) hc, ba1_ne (by omega) hc, ba1_ne (by omega) hc, ba1_ne (by omega) hc]
      exact z
    have oB : ∀ c, c ≠ a → B0 h b g c → B0 (nt_b1 h b w a) b (ba1 g w a) c := fun c hc z => by
      unfold B0 at z ⊢
      rw [(ot c hc).2, ba1_ne (by omega) hc]
      exact z
    have oS : ∀ c, c ≠ a → S1 h b g c → S1 (nt_b1 h b w a) b (ba1 g w a) c := fun c hc z => by
      unfold S1 at z ⊢
      rw [(ot c hc).2, ba1_ne (by omega) hc, ba1_ne (by omega) hc]
      exact z
    obtain ⟨i1, i2⟩ := ba_eq (w := w) f (a + 1) (nt_b1 h b w a) (ba1 g w a) (by omega) (fun c hc => by
      by_cases ca : c = a
      · rw [ca]; exact n1
      · exact oAE c ca (E c hc)) (fun c h1 h2 => oB c (by omega) (B c (by omega) h2)) (fun c hc => by
      by_cases ca : c = a
      · rw [ca]; exact n2
      · exact oS c ca (S c (by omega)))
    exact ⟨i1, fun e h1 h2 => by rw [i2 e h1 h2, lo e h1 h2]⟩
/-- what is left at a point -/
theorem rest_eq {p : Nat} (E : ∀ c, c < k → AE h b g c) : ∀ (f a : Nat) (s : Int32), a + f = k → nt_rest h b (nI p) f a s = lf g p f a s
  | 0, a, s, hf => rfl
  | f + 1, a, s, hf => by
    obtain ⟨⟨e0, e1⟩, -, -, e4⟩ := E a (by omega)
    rw [nt_rest, lf, e0, e1, e4, rest_eq E f (a + 1) _ (by omega)]
    congr 1
    unfold lf1
    by_cases z : rm g a 1 = nI p
    · rw [if_pos z, if_pos z]
    · rw [if_neg z, if_neg z]
      by_cases y : rm g a 0 = nI p
      · rw [if_pos y, if_pos y, Int32.sub_eq_add_neg]
      · rw [if_neg y, if_neg y, Int32.add_zero]
/-- a loan -/
def LNe (h : LH) (b : Nat) (g : LH) (p : Nat) : Prop := g.1 271 (51 + p) = 1 ∧ ((g.1 271 (58 + p) = 1 ∧ h.1 (b + 2) (14 + p) = nI p ∧ h.1 (b + 3) (14 + p) = 7) ∨ (g.1 271 (58 + p) = -1 ∧ h.1 (b + 2) (14 + p) = 7 ∧ h.1 (b + 3) (14 + p) = nI p)) ∧ h.1 (b + 5) (14 + p) = 10000 ∧ h.1 (b + 6) (14 + p) = g.1 271 (65 + p) ∧ h.1 (b + 8) p = 7 ∧ h.1 (b + 9) p = nI (14 + p)
theorem h1_eq {p : Nat} (hk : k ≤ 14) (E : ∀ c, c < k → AE h b g c) (es : h.1 (b + 1) p = g.1 271 (44 + p)) : LNe (nt_h1 h b k p) b (bp1 g k p) p := by
  have rs := rest_eq (p := p) E k 0 (h.1 (b + 1) p) (by omega)
  unfold nt_h1
  rw [rs, es]
  unfold bp1
  generalize lf g p k 0 (g.1 271 (44 + p)) = x
  unfold nt_h2 LNe
  refine ⟨by rw [w1_at (by omega), w1_at (by omega), w1_eq], ?_, ?_, ?_, ?_, w1_eq⟩
  · rw [w1_at (show 58 + p ≠ 65 + p by omega), w1_eq]
    have t2 : (w1 (w1 (w1 (w1 (w1 (w1 (w1 h (b + 2) (14 + p) (if x < 0 then 7 else nI p)) (b + 3) (14 + p) (if x < 0 then nI p else 7)) (b + 5) (14 + p) 10000) (b + 6) (14 + p) (nt_abs x)) (b + 7) (14 + p) 2) (b + 8) p 7) (b + 9) p (nI (14 + p))).1 (b + 2) (14 + p) = (if x < 0 then 7 else nI p) := by rw [w1_ne (by omega), w1_ne (by omega), w1_ne (by omega), w1_ne (by omega), w1_ne (by omega), w1_ne (by omega), w1_eq]
    have t3 : (w1 (w1 (w1 (w1 (w1 (w1 (w1 h (b + 2) (14 + p) (if x < 0 then 7 else nI p)) (b + 3) (14 + p) (if x < 0 then nI p else 7)) (b + 5) (14 + p) 10000) (b + 6) (14 + p) (nt_abs x)) (b + 7) (14 + p) 2) (b + 8) p 7) (b + 9) p (nI (14 + p))).1 (b + 3) (14 + p) = (if x < 0 then nI p else 7) := by rw [w1_ne (by omega), w1_ne (by omega), w1_ne (by omega), w1_ne (by omega), w1_ne (by omega), w1_eq]
    rw [t2, t3]
    by_cases z : x < 0
    · rw [if_pos z, if_pos z, if_pos z]
      exact Or.inr ⟨rfl, rfl, rfl⟩
    · rw [if_neg z, if_neg z, if_neg z]
      exact Or.inl ⟨rfl, rfl, rfl⟩
  · rw [w1_ne (by omega), w1_ne (by omega), w1_ne (by omega), w1_ne (by omega), w1_eq]
  · rw [w1_ne (by omega), w1_ne (by omega), w1_ne (by omega), w1_eq, w1_eq]
    unfold nt_abs
    by_cases z : x < 0
    · rw [if_pos z, if_neg (Int32.not_le.mpr z), Int32.zero_sub]
    · rw [if_neg z, if_pos (Int32.not_lt.mp z)]
  · rw [w1_ne (by omega), w1_eq]
theorem nt_h1_ot {p : Nat} : (∀ e, e < b + 2 ∨ e = b + 4 ∨ b + 9 < e → (nt_h1 h b k p).1 e = h.1 e) ∧ (∀ e i, i ≠ 14 + p → i ≠ p → (nt_h1 h b k p).1 e i = h.1 e i) ∧ (∀ e i, e < b + 8 → i ≠ 14 + p → (nt_h1 h b k p).1 e i = h.1 e i) := by
  unfold nt_h1
  generalize nt_rest h b (nI p) k 0 (h.1 (b + 1) p) = x
  have at1 : ∀ (G : LH) (c j e i : Nat) (v : Int32), i ≠ j → (w1 G c j v).1 e i = G.1 e i := fun G c j e i v hij => by
    by_cases z : e = c
    · rw [z, w1_at hij]
    · rw [w1_ne z]
  unfold nt_h2
  refine ⟨fun e he => ?_, fun e i h1 h2 => ?_, fun e i h1 h2 => ?_⟩
  · rw [w1_ne (by omega), w1_ne (by omega), w1_ne (by omega), w1_ne (by omega), w1_ne (by omega), w1_ne (by omega), w1_ne (by omega)]
  · rw [at1 _ _ _ _ _ _ h2, at1 _ _ _ _ _ _ h2, at1 _ _ _ _ _ _ h1, at1 _ _ _ _ _ _ h1, at1 _ _ _ _ _ _ h1, at1 _ _ _ _ _ _ h1, at1 _ _ _ _ _ _ h1]
  · rw [w1_ne (by omega), w1_ne (by omega), at1 _ _ _ _ _ _ h2, at1 _ _ _ _ _ _ h2, at1 _ _ _ _ _ _ h2, at1 _ _ _ _ _ _ h2, at1 _ _ _ _ _ _ h2]
theorem hs_eq (hk : k ≤ 14) : ∀ (f p : Nat) (h g : LH), p + f ≤ 7 → (∀ c, c < k → AE h b g c ∧ S1 h b g c) → (∀ q, q < p + f → h.1 (b + 1) q = g.1 271 (44 + q)) → (∀ q, q < p → LNe h b g q) → (∀ c, c < k → AE (nt_hs b k f p h) b (bp k f p g) c ∧ S1 (nt_hs b k f p h) b (bp k f p g) c) ∧ (∀ q, q < p + f → LNe (nt_hs b k f p h) b (bp k f p g) q) ∧ ∀ e, e < b + 2 ∨ b + 9 < e → (nt_hs b k f p h).1 e = h.1 e
  | 0, p, h, g, hp, E, es, L => ⟨E, L, fun _ _ => rfl⟩
  | f + 1, p, h, g, hp, E, es, L => by
    rw [nt_hs, bp]
    obtain ⟨o1, o2, o3⟩ := nt_h1_ot (h := h) (b := b) (k := k) (p := p)
    obtain ⟨-, -, l3⟩ := bp1_lo (g := g) (k := k) (p := p)
    have r : ∀ a w, rm (bp1 g k p) a w = rm g a w := fun a w => l3 _ (by omega) (by omega) (by omega)
    have new := h1_eq (p := p) hk (fun c hc => (E c hc).1) (es p (by omega))
    obtain ⟨i1, i2, i3⟩ := hs_eq hk f (p + 1) (nt_h1 h b k p) (bp1 g k p) (by omega) (fun c hc => by
      unfold AE S1
      rw [o3 (b + 2) c (by omega) (by omega), o3 (b + 3) c (by omega) (by omega), o3 (b + 4) c (by omega) (by omega), o3 (b + 5) c (by omega) (by omega), o3 (b + 6) c (by omega) (by omega), o3 (b + 7) c (by omega) (by omega), r, r, r, r, r, r, r]
      exact E c hc) (fun q hq => by rw [o1 (b + 1) (Or.inl (by omega)), l3 _ (by omega) (by omega) (by omega)]; exact es q (by omega)) (fun q hq => by
      by_cases qp : q = p
      · rw [qp]; exact new
      · have := L q (by omega)
        unfold LNe at this ⊢
        rw [l3 _ (by omega) (by omega) (by omega), l3 _ (by omega) (by omega) (by omega), l3 _ (by omega) (by omega) (by omega), o3 (b + 2) _ (by omega) (by omega), o3 (b + 3) _ (by omega) (by omega), o3 (b + 5) _ (by omega) (by omega), o3 (b + 6) _ (by omega) (by omega), o2 (b + 8) q (by omega) (by omega), o2 (b + 9) q (by omega) (by omega)]
        exact this)
    exact ⟨i1, fun q hq => i2 q (by omega), fun e he => by rw [i3 e he, o1 e (by omega)]⟩
/-- the grid before it begins -/
def NB (h : LH) (b : Nat) (r : LH) (n k : Nat) : Prop := (h.1 b 0 = nI n ∧ h.1 b 1 = nI k ∧ h.1 b 2 = r.1 271 2) ∧ (∀ p, p < n → h.1 (b + 1) p = r.1 271 (44 + p)) ∧ ∀ c, c < k → AE h b r c ∧ B0 h b r c
theorem NS.nb (N : NS h b r n k) : NB h b r n k := by
  obtain ⟨a1, a2, E, F, C, S⟩ := N
  refine ⟨a1, a2, fun c hc => ⟨⟨E.1 c hc, (F.1 c hc).1, C.1 c hc, (F.1 c hc).2⟩, ?_⟩⟩
  rcases S c hc with ⟨s6, s7, s5⟩ | ⟨s6, s7, -⟩
  · refine Or.inl ⟨s6, fun z => ?_⟩
    rw [s7] at z
    rw [z] at s5
    exact s5 (Or.inr (by decide))
  · exact Or.inr ⟨s6, s7⟩
/-- both begin -/
theorem nr_beg (hb : b ≤ 225) (B : BI r n k) (N : NB h b r n k) (w : Int32) : NS (nt_beg h b n k w) b (bgn r n k w) n k ∧ NRt (nt_beg h b n k w) b (bgn r n k w) n k ∧ (nt_beg h b n k w).1 (b + 11) 2 = h.1 (b + 11) 2 + 1 ∧ (∀ i, i ≠ 2 → (nt_beg h b n k w).1 (b + 11) i = h.1 (b + 11) i) ∧ ∀ e, e = b ∨ b + 11 < e → (nt_beg h b n k w).1 e = h.1 e := by
  have n7 := B.1.1.2.1
  have k14 := B.1.1.2.2
  obtain ⟨G, Fb⟩ := bgn_ok (M := 0) (w := w) B
  obtain ⟨⟨a1, a2, a3⟩, a4, a5⟩ := N
  obtain ⟨p1, p2⟩ := ba_eq (w := w) k 0 h r (by omega) (fun c hc => (a5 c hc).1) (fun c _ hc => (a5 c hc).2) (fun c hc => absurd hc (by omega))
  have F1 := ba_fb (w := w) k 0 r (by omega)
  obtain ⟨q1, q2, q3⟩ := hs_eq (b := b) k14 n 0 (nt_ba b w k 0 h) (ba w k 0 r) (by omega) p1 (fun q hq => by rw [p2 _ (by omega) (by omega), F1.2.2 _ (Or.inl (by omega))]; exact a4 q (by omega)) (fun q hq => absurd hq (by omega))
  rw [Nat.zero_add] at q2
  have qe : ∀ e, e < b + 2 ∨ b + 9 < e → (nt_hs b k n 0 (nt_ba b w k 0 h)).1 e = h.1 e := fun e he => by rw [q3 e he, p2 e (by omega) (by omega)]
  have hq : ∀ c, c < k → AE (nt_hs b k n 0 (nt_ba b w k 0 h)) b (bgn r n k w) c ∧ S1 (nt_hs b k n 0 (nt_ba b w k 0 h)) b (bgn r n k w) c := q1
  have ql : ∀ q, q < n → LNe (nt_hs b k n 0 (nt_ba b w k 0 h)) b (bgn r n k w) q := q2
  have eb : nt_beg h b n k w = nt_tick (nt_prs (nt_hs b k n 0 (nt_ba b w k 0 h)) b n) b := rfl
  rw [eb]
  generalize nt_hs b k n 0 (nt_ba b w k 0 h) = h1 at hq ql qe
  have KX0 := ksx_beg B w
  generalize bgn r n k w = g at hq ql G Fb KX0
  have L := G.lt
  have P := lt_pr G.1
  have R : RW g (lt g n k) := fun i _ => by rw [lt_fl.r]
  generalize lt g n k = T at L P R KX0
  have A : ∀ a, a < k → rm T a 0 ≠ rm T a 1 := fun a ha => by rw [R.rm (by omega) (by omega), R.rm (by omega) (by omega)]; exact G.2.2.2.2.1.1 a ha
  have E1 : TLe h1 b g n k := ⟨fun c hc => (hq c hc).1.1, fun p hp => by
    obtain ⟨-, x, -⟩ := ql p hp
    rcases x with ⟨x1, x2, x3⟩ | ⟨x1, x2, x3⟩
    · exact ⟨fun _ => ⟨x2, x3⟩, fun y => absurd x1 y⟩
    · exact ⟨fun y => by rw [x1] at y; exact absurd y (by decide), fun _ => ⟨x2, x3⟩⟩⟩
  have F1' : FLe h1 b g n k := ⟨fun c hc => ⟨(hq c hc).1.2.1, (hq c hc).1.2.2.2⟩, fun p hp => (ql p hp).2.2.2.1⟩
  have C1 : COe h1 b g n k := ⟨fun c hc => (hq c hc).1.2.2.1, fun p hp => (ql p hp).2.2.1⟩
  have S1' : SRe h1 b g k := fun c hc => (hq c hc).2.1
  have egT : ∀ p q id, p < n → EG T n k p q id → id = nI (100 + p) ∧ q = n := by
    intro p q id hp Eg
    rcases Eg with ⟨z1, z2, -⟩ | ⟨-, c, hc, -, z, -⟩
    · exact ⟨z2, z1⟩
    · exfalso
      unfold rf_hangs at z
      rw [R.rm (by omega) (by omega)] at z
      rcases (hq c hc).2.2 with y | y <;> rw [y] at z <;> cases z
  have C2 : CT h1 b T n := ct_uni L A (fun p hp => ⟨n, nI (100 + p), Nat.le_refl _, by rw [(ql p hp).2.2.2.2.1, (cI_7 n7 (Nat.le_refl _)).mpr rfl], by rw [(ql p hp).2.2.2.2.2, eK_p (by omega)], Or.inl ⟨rfl, rfl, by rw [R _ (by omega)]; exact (ql p hp).1⟩⟩) (fun p q id hp Eg => ⟨p, hp, by rw [(ql p hp).2.2.2.2.2, (egT p q id hp Eg).1, eK_p (by omega)]⟩)
  have TS2 : TS T n k := fun p q id hp Eg => ⟨p, hp, by rw [(egT p q id hp Eg).1, (egT p (uf T p) _ hp (L.at hp).2.2.2.2.2).1]⟩
  obtain ⟨pr, po⟩ := prs_eq L P A hb C2 (E1.rw R n7 k14) (C1.rw R k14)
  have u : ∀ e, e ≠ b + 11 → (nt_tick (nt_prs h1 b n) b).1 e = (nt_prs h1 b n).1 e := fun e he => w1_ne he
  have v : ∀ e, e ≠ b + 10 → e ≠ b + 11 → (nt_tick (nt_prs h1 b n) b).1 e = h1.1 e := fun e h1 h2 => (u e h2).trans (po e h1)
  refine ⟨⟨⟨?_, ?_, ?_⟩, fun p hp => ?_, ?_, ?_, ?_, ?_⟩, ⟨T, L, P, R, C2.same (v _ (by omega) (by omega)) (v _ (by omega) (by omega)), ⟨?_, fun p hp => ?_⟩, TS2, KX0⟩, ?_, fun i hi => ?_, fun e he => ?_⟩
  · rw [v b (by omega) (by omega), qe b (Or.inl (by omega))]; exact a1
  · rw [v b (by omega) (by omega), qe b (Or.inl (by omega))]; exact a2
  · rw [v b (by omega) (by omega), qe b (Or.inl (by omega)), Fb.2.2 2 (Or.inl (by omega))]; exact a3
  · rw [v (b + 1) (by omega) (by omega), qe (b + 1) (Or.inl (by omega)), Fb.2.2 _ (Or.inl (by omega))]; exact a4 p hp
  · unfold TLe
    rw [v (b + 2) (by omega) (by omega), v (b + 3) (by omega) (by omega)]
    exact E1
  · unfold FLe
    rw [v (b + 4) (by omega) (by omega), v (b + 6) (by omega) (by omega)]
    exact F1'
  · unfold COe
    rw [v (b + 5) (by omega) (by omega)]
    exact C1
  · unfold SRe
    rw [v (b + 7) (by omega) (by omega)]
    exact S1'
  · rw [u _ (by omega)]
    exact pr.1
  · rw [u _ (by omega)]
    exact pr.2 p hp
  · unfold nt_tick
    rw [w1_eq, po _ (by omega), qe _ (Or.inr (by omega))]
  · unfold nt_tick
    rw [w1_at hi, po _ (by omega), qe _ (Or.inr (by omega))]
  · rw [v e (by omega) (by omega), qe e (by omega)]
end RKB
