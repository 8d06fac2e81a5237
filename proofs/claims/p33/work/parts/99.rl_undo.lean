/-! ===== nets, undo rows, images: the layer of the grid ===== -/
section RLU
variable {h g k r : LH} {b t M d : Nat}
/-- a net of the class and a row of the reference -/
def NX (h : LH) (b : Nat) (r : LH) (t : Nat) : Prop := ∃ n k m, m ≤ 2000000 * t ∧ NT h b n k m ∧ GI r n k (8000 * t) ∧ NR h b r n k m
theorem NX.up {t2 : Nat} (N : NX h b r t) (ht : t ≤ t2) : NX h b r t2 := by
  obtain ⟨n, k, m, h1, h2, h3, h4⟩ := N
  exact ⟨n, k, m, by omega, h2, h3.mono (by omega), h4⟩
theorem NX.rw (N : NX h b r t) (R : RW r g) : NX h b g t := by
  obtain ⟨n, k, m, h1, h2, h3, h4⟩ := N
  exact ⟨n, k, m, h1, h2, h3.cong R, h4.rw R h3.1.1.2.1 h3.1.1.2.2⟩
theorem NX.cl (N : NX h b r t) (e : ∀ o, o < 15 → g.1 (b + o) = h.1 (b + o)) : NX g b r t := by
  obtain ⟨n, k, m, h1, h2, h3, h4⟩ := N
  refine ⟨n, k, m, h1, h2.same (fun c z1 z2 => ?_), h3, h4.eq h3.1.1.2.1 h3.1.1.2.2 (fun o ho => e o (by omega))⟩
  have := e (c - b) (by omega)
  rw [show b + (c - b) = c by omega] at this
  exact this
theorem NX.cp {c : Nat} (N : NX h c r t) (C : CPn h g b c) (K : tf_K b = 0) : NX g b r t := by
  obtain ⟨n, k, m, h1, h2, h3, h4⟩ := N
  obtain ⟨-, -, c3, c4, c5, c6, c7, c8⟩ := id C
  refine ⟨n, k, m, h1, C.nt K h2, h3, h4.cl h3.1.1.2.1 h3.1.1.2.2 c3 (fun p hp => c4 1 p (by omega) (by omega) hp) (fun o z1 z2 i hi => c5 o i z1 z2 hi) (fun p hp => c4 8 p (by omega) (by omega) hp) (fun p hp => c4 9 p (by omega) (by omega) hp) (fun p hp => ?_) c7 (fun o z1 z2 i hi => c8 o i z1 z2 hi)⟩
  rcases Nat.lt_or_ge p 7 with z | z
  · exact c4 10 p (by omega) (by omega) z
  · have : p = 7 := by omega
    rw [this]
    exact c6
/-- undo rows -/
def UZ (h : LH) (t : Nat) : Prop := ∃ tt u, tt < 11 ∧ u ≤ 10 ∧ h.1 240 8 = nI tt ∧ h.1 240 9 = nI u ∧ h.1 270 5 = nI u ∧ ∀ i, i < u → NX h (15 * (2 + (tt + 11 - u + i) % 11)) (sl h 274 (170 * i)) t
/-- images -/
def MZ (h : LH) (t : Nat) : Prop := ∀ j, j < 3 → h.1 273 j ≠ 0 → NX h (15 * (13 + j)) (sl h 271 (173 * (j + 1))) t
def NZ (h : LH) (t : Nat) : Prop := NX h 0 h t ∧ UZ h t ∧ MZ h t
theorem UZ.up {t2 : Nat} (U : UZ h t) (ht : t ≤ t2) : UZ h t2 := by
  obtain ⟨tt, u, h1, h2, h3, h4, h5, h6⟩ := U
  exact ⟨tt, u, h1, h2, h3, h4, h5, fun i hi => (h6 i hi).up ht⟩
theorem MZ.up {t2 : Nat} (U : MZ h t) (ht : t ≤ t2) : MZ h t2 := fun j hj hs => (U j hj hs).up ht
/-- nothing was kept: the row at the top doesn't count -/
theorem UZ.no {tt : Nat} (U : UZ h t) (e8 : h.1 240 8 = nI tt) (ht : tt < 11) (x8 : k.1 240 8 = h.1 240 8) (x9 : k.1 240 9 = h.1 240 9) (co : ∀ e, 30 ≤ e → e < 195 → ¬ (15 * (tt + 2) ≤ e ∧ e < 15 * (tt + 2) + 15) → k.1 e = h.1 e) (r5 : k.1 270 5 = h.1 270 5) (r4 : k.1 274 = h.1 274) : UZ k t := by
  obtain ⟨t1, u, h1, h2, h3, h4, h5, h6⟩ := U
  have : t1 = tt := (nI_eq (by omega) (by omega)).mp (h3.symm.trans e8)
  subst this
  refine ⟨t1, u, h1, h2, x8.trans h3, x9.trans h4, r5.trans h5, fun i hi => ?_⟩
  refine ((h6 i hi).cl (fun o ho => co _ (by omega) (by omega) (by omega))).rw (fun j hj => by rw [sl_at, sl_at, r4])
/-- an act was kept -/
theorem UZ.act {tt u : Nat} (U : UZ h t) (e8 : h.1 240 8 = nI tt) (ht : tt < 11) (e5 : h.1 270 5 = nI u) (hu : u ≤ 10) (c8 : k.1 240 8 = (if nI tt = 10 then 0 else nI tt + 1)) (c9 : k.1 240 9 = (if (10 : Int32) < nI u + 1 then 10 else nI u + 1)) (cc : NX k (15 * (2 + tt)) h t) (co : ∀ e, 30 ≤ e → e < 195 → ¬ (15 * (tt + 2) ≤ e ∧ e < 15 * (tt + 2) + 15) → k.1 e = h.1 e) (r5 : k.1 270 5 = nI (if u = 10 then 10 else u + 1)) (r1 : ∀ j, j < 170 → k.1 274 (170 * ((if u = 10 then 10 else u + 1) - 1) + j) = h.1 271 j) (r2 : ∀ i, i < (if u = 10 then 10 else u + 1) - 1 → ∀ j, j < 170 → k.1 274 (170 * i + j) = h.1 274 (170 * (if u = 10 then i + 1 else i) + j)) : UZ k t := by
  obtain ⟨t1, u1, h1, h2, h3, h4, h5, h6⟩ := U
  have : t1 = tt := (nI_eq (by omega) (by omega)).mp (h3.symm.trans e8)
  subst this
  have : u1 = u := (nI_eq (by omega) (by omega)).mp (h5.symm.trans e5)
  subst this
  have d8 : k.1 240 8 = nI (if t1 = 10 then 0 else t1 + 1) := by
    rw [c8]
    by_cases z : t1 = 10
    · rw [if_pos z, if_pos (by rw [z]; rfl)]
      rfl
    · rw [if_neg z, if_neg (show ¬ nI t1 = 10 from fun y => z ((nI_eq (a := t1) (b := 10) (by omega) (by omega)).mp y)), nI_1]
  have d9 : k.1 240 9 = nI (if u1 = 10 then 10 else u1 + 1) := by
    rw [c9, nI_1]
    by_cases z : u1 = 10
    · rw [if_pos z, z]
      decide
    · rw [if_neg z, if_neg (show ¬ (10 : Int32) < nI (u1 + 1) from nI_nlt (a := 10) (by omega) (by omega))]
  refine ⟨_, _, ?_, ?_, d8, d9, r5, fun i hi => ?_⟩
  · split <;> omega
  · split <;> omega
  · by_cases il : i = (if u1 = 10 then 10 else u1 + 1) - 1
    · have ix : ((if t1 = 10 then 0 else t1 + 1) + 11 - (if u1 = 10 then 10 else u1 + 1) + i) % 11 = t1 := by
        rw [il]
        split <;> split <;> omega
      rw [ix]
      refine cc.rw (fun j hj => ?_)
      rw [sl_at, il]
      exact r1 j hj
    · have ii : (if u1 = 10 then i + 1 else i) < u1 := by
        by_cases z : u1 = 10
        · rw [if_pos z] at hi il ⊢
          omega
        · rw [if_neg z] at hi il ⊢
          omega
      have o := h6 _ ii
      have ix : ((if t1 = 10 then 0 else t1 + 1) + 11 - (if u1 = 10 then 10 else u1 + 1) + i) % 11 = (t1 + 11 - u1 + (if u1 = 10 then i + 1 else i)) % 11 := by
        split <;> split <;> omega
      have nt : (t1 + 11 - u1 + (if u1 = 10 then i + 1 else i)) % 11 ≠ t1 := by
        generalize (if u1 = 10 then i + 1 else i) = w at ii
        clear ix
        omega
      rw [ix]
      refine (o.cl (fun q hq => co _ (by omega) (by omega) (by omega))).rw (fun j hj => ?_)
      rw [sl_at, sl_at]
      refine r2 i ?_ j hj
      omega
/-- keeps, exactly -/
theorem rx_keeps {s u : Nat} (hs : s ≤ 4) (hu : u ≤ 10) (eu : h.1 270 5 = nI u) : tf_Sp (d + 1) 53 [.ref 270, .int (nI s)] h (fun _ g => g.1 270 5 = nI (if u = 10 then 10 else u + 1) ∧ (∀ j, j < 170 → g.1 274 (170 * ((if u = 10 then 10 else u + 1) - 1) + j) = h.1 271 (173 * s + j)) ∧ (∀ i, i < (if u = 10 then 10 else u + 1) - 1 → ∀ j, j < 170 → g.1 274 (170 * i + j) = h.1 274 (170 * (if u = 10 then i + 1 else i) + j)) ∧ (∀ e, e ≠ 274 → e ≠ 270 → g.1 e = h.1 e) ∧ ∀ i, i ≠ 5 → g.1 270 i = h.1 270 i) := by
  intro Q q
  have e50 : ∀ (v : Nat) (g : LH) (x2 : Value), v < 10 → (∀ e, e ≠ 274 → e ≠ 270 → g.1 e = h.1 e) → (∀ i, i ≠ 5 → g.1 270 i = h.1 270 i) → g.1 270 5 = nI v → (∀ g2 : LH, g2.1 270 5 = nI (v + 1) → (∀ j, j < 170 → g2.1 274 (170 * v + j) = h.1 271 (173 * s + j)) → (∀ j, j < 170 * v → g2.1 274 j = g.1 274 j) → (∀ e, e ≠ 274 → e ≠ 270 → g2.1 e = h.1 e) → (∀ i, i ≠ 5 → g2.1 270 i = h.1 270 i) → Q tf_z g2) → lx_X9_keeps 298 (tf_Cd 298 d) Q 50 [.ref 270, .int (nI s), x2] [] g := by
    intro v g x2 hv f1 f3 ev qq
    refine go_X9_keeps_50 (by decide) (sp_kpC (h := g) hs hv 170 0 g (by omega) ev (fun _ _ => rfl) rfl (fun j hj => absurd hj (by omega)) (fun _ _ => rfl) (fun g2 x2 a1 a2 a3 a4 => go_X9_keeps_92 (by decide) ?_))
    have w : ∀ e, e ≠ 270 → (w1 g2 270 5 (g2.1 270 5 + 1)).1 e = g2.1 e := fun e he => w1_ne he
    refine qq (w1 g2 270 5 (g2.1 270 5 + 1)) ?_ (fun j hj => ?_) (fun j hj => ?_) (fun e h1 h2 => ?_) (fun i hi => ?_)
    · rw [w1_eq, a1 270 (by decide), ev, nI_1]
    · rw [w 274 (by decide), a3 j hj, f1 271 (by decide) (by decide)]
    · rw [w 274 (by decide), a4 j hj]
    · rw [w e h2, a1 e h1, f1 e h1 h2]
    · rw [w1_at hi, a1 270 (by decide), f3 i hi]
  refine en_X9_keeps (by decide) (go_X9_keeps_0 (by decide) ⟨fun c => ?_, fun c => ?_⟩)
  · have hu10 : u = 10 := (nI_eq (a := u) (b := 10) (by omega) (by omega)).mp (eu.symm.trans c)
    rw [hu10] at q eu
    refine sp_kpS (h := h) 1530 0 h (by omega) (fun _ _ => rfl) rfl (fun j hj => absurd hj (by omega)) (fun _ _ => rfl) (fun g x2 a1 a2 a3 => go_X9_keeps_40 (by decide) (e50 9 (w1 g 270 5 (g.1 270 5 - 1)) _ (by omega) (fun e h1 h2 => by rw [w1_ne h2]; exact a1 e h1) (fun i hi => by rw [w1_at hi, a1 270 (by decide)]) ?_ (fun g2 b5 b1 b2 b3 b4 => q _ g2 ⟨b5, b1, fun i hi j hj => ?_, b3, b4⟩)))
    · rw [w1_eq, a1 270 (by decide), eu]
      rfl
    · have hi : i < 9 := hi
      rw [b2 _ (by omega), w1_ne (by decide), a3 _ (by omega), if_pos rfl, show 170 * i + j + 170 = 170 * (i + 1) + j by omega]
  · have hu10 : u ≠ 10 := fun z => c (by rw [eu, z]; rfl)
    refine e50 u h _ (by omega) (fun _ _ _ => rfl) (fun _ _ => rfl) eu (fun g2 b5 b1 b2 b3 b4 => q _ g2 ⟨by rw [if_neg hu10]; exact b5, fun j hj => ?_, fun i hi j hj => ?_, b3, b4⟩)
    · rw [if_neg hu10, show u + 1 - 1 = u by omega]
      exact b1 j hj
    · rw [if_neg hu10] at hi ⊢
      rw [b2 _ (by omega)]
end RLU
