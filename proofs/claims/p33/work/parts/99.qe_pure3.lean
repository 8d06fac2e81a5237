/-! ===== both find the same at fault: a grid's text, points that are not there ===== -/
/-- first places stand before q -/
def fav (fa : Nat → Int32) (q : Nat) : Prop := ∀ i, i < 7 → fa i = -1 ∨ ∃ r, r < q ∧ fa i = nI r
theorem mi_cg {fa f2 : Nat → Int32} : ∀ (f i : Nat) (x : Int32), (∀ j, i ≤ j → j < i + f → f2 j = fa j) → px_mi f2 f i x = px_mi fa f i x
  | 0, i, x, _ => rfl
  | f + 1, i, x, h => by
    rw [px_mi, px_mi, h i (Nat.le_refl _) (by omega)]
    exact mi_cg f (i + 1) _ (fun j h1 h2 => h j (by omega) (by omega))
theorem mi_ne {fa : Nat → Int32} : ∀ (f i : Nat) (x : Int32), x ≠ -1 → px_mi fa f i x ≠ -1
  | 0, i, x, h => h
  | f + 1, i, x, h => by
    rw [px_mi]
    split
    · rename_i z
      exact mi_ne f (i + 1) _ z.1
    · exact mi_ne f (i + 1) _ h
theorem mi_at {fa : Nat → Int32} {p : Nat} (hp : fa p ≠ -1) : ∀ (f i : Nat) (x : Int32), i ≤ p → p < i + f → px_mi fa f i x ≠ -1
  | 0, i, x, h1, h2 => by omega
  | f + 1, i, x, h1, h2 => by
    rw [px_mi]
    by_cases ip : i = p
    · subst ip
      by_cases x1 : x = -1
      · rw [if_pos ⟨hp, Or.inl x1⟩]
        exact mi_ne f _ _ hp
      · split
        · exact mi_ne f _ _ hp
        · exact mi_ne f _ _ x1
    · exact mi_at hp f (i + 1) _ (by omega) (by omega)
theorem mi_all {fa : Nat → Int32} : ∀ (f i : Nat), (∀ j, i ≤ j → j < i + f → fa j = -1) → px_mi fa f i (-1) = -1
  | 0, i, _ => rfl
  | f + 1, i, h => by
    rw [px_mi, if_neg (fun y => y.1 (h i (Nat.le_refl _) (by omega)))]
    exact mi_all f (i + 1) (fun j h1 h2 => h j (by omega) (by omega))
theorem nI_ltq {q b : Nat} (h : q < b) (hb : b < 1000) : nI q < nI b := nI_lt h (by omega)
theorem nI_nlq {q b : Nat} (h : q < b) (hb : b < 1000) : ¬ nI b < nI q := nI_nlt (by omega) (by omega)
/-- a place b that comes behind all others: who has seen nothing sees b -/
def Tb (b : Nat) (y x : Int32) : Prop := y = if x = -1 then nI b else x
theorem mi_t {fa : Nat → Int32} {b : Nat} (hb : b < 1000) : ∀ (f i : Nat) (x y : Int32), i + f ≤ 7 → fav fa b → (x = -1 ∨ ∃ r, r < b ∧ x = nI r) → Tb b y x → Tb b (px_mi fa f i y) (px_mi fa f i x)
  | 0, i, x, y, _, _, _, T => T
  | f + 1, i, x, y, hi, F, hx, T => by
    rw [px_mi, px_mi]
    have b1 := nI_m1 (a := b) hb
    rcases F i (by omega) with e | ⟨r, hr, e⟩
    · rw [if_neg (fun z => z.1 e), if_neg (fun z => z.1 e)]
      exact mi_t hb f (i + 1) x y (by omega) F hx T
    · have r1 := nI_m1 (a := r) (by omega)
      rw [e]
      rcases hx with x1 | ⟨s, hs, ex⟩
      · unfold Tb at T
        rw [if_pos x1] at T
        rw [if_pos ⟨r1, Or.inr (by rw [T]; exact nI_ltq hr hb)⟩, if_pos ⟨r1, Or.inl x1⟩]
        exact mi_t hb f (i + 1) _ _ (by omega) F (Or.inr ⟨r, hr, rfl⟩) (by unfold Tb; rw [if_neg r1])
      · have x1 : x ≠ -1 := by rw [ex]; exact nI_m1 (by omega)
        unfold Tb at T
        rw [if_neg x1] at T
        subst T
        by_cases z : nI r ≠ -1 ∧ (y = -1 ∨ nI r < y)
        · rw [if_pos z]
          exact mi_t hb f (i + 1) _ _ (by omega) F (Or.inr ⟨r, hr, rfl⟩) (by unfold Tb; rw [if_neg r1])
        · rw [if_neg z]
          exact mi_t hb f (i + 1) _ _ (by omega) F (Or.inr ⟨s, hs, ex⟩) (by unfold Tb; rw [if_neg x1])
theorem mi_s {fa f2 : Nat → Int32} {b p : Nat} (hb : b < 1000) (F : fav fa b) (hp : fa p = -1) (h2 : f2 p = nI b) (ho : ∀ j, j ≠ p → f2 j = fa j) : ∀ (f i : Nat) (x : Int32), i + f ≤ 7 → (x = -1 ∨ ∃ r, r < b ∧ x = nI r) → i ≤ p → p < i + f → Tb b (px_mi f2 f i x) (px_mi fa f i x)
  | 0, i, x, _, _, h3, h4 => by omega
  | f + 1, i, x, hi, hx, h3, h4 => by
    have b1 := nI_m1 (a := b) hb
    rw [px_mi, px_mi]
    by_cases ip : i = p
    · subst ip
      rw [h2, if_neg (fun z : fa i ≠ -1 ∧ _ => z.1 hp)]
      have cg : ∀ y, px_mi f2 f (i + 1) y = px_mi fa f (i + 1) y := fun y => mi_cg f (i + 1) y (fun j h5 _ => ho j (by omega))
      rw [cg]
      refine mi_t hb f (i + 1) x _ (by omega) F hx ?_
      unfold Tb
      rcases hx with x1 | ⟨r, hr, ex⟩
      · rw [if_pos ⟨b1, Or.inl x1⟩, if_pos x1]
      · have x1 : x ≠ -1 := by rw [ex]; exact nI_m1 (by omega)
        rw [if_neg x1, if_neg]
        rintro ⟨-, z | z⟩
        · exact x1 z
        · rw [ex] at z
          exact nI_nlq hr hb z
    · rw [ho i ip]
      refine mi_s hb F hp h2 ho f (i + 1) _ (by omega) ?_ (by omega) (by omega)
      split
      · rename_i z
        exact F i (by omega)
      · exact hx
/-- the class's way to say where a point is told that is not there -/
def f3 (b : Int32) : Int32 × Int32 := if b = -1 then (0, -1) else (3, b)
theorem f3_k {b : Int32} (h : b ≠ -1) : (f3 b).1 ≠ 0 := by
  unfold f3
  rw [if_neg h]
  exact (show ¬ (3 : Int32) = 0 by decide)
theorem fav.mono {fa : Nat → Int32} {q r : Nat} (F : fav fa q) (h : q ≤ r) : fav fa r := fun i hi => (F i hi).imp id (fun ⟨s, hs, e⟩ => ⟨s, by omega, e⟩)
/-- a point is told -/
theorem ms {L : px_L} {i m p q : Nat} {fa : Nat → Int32} (e1 : (px_no L i).1 = nI p) (e2 : (px_no L i).2 = q) (hp : p < 7) (m2 : 1 ≤ m) (m7 : m ≤ 7) (hq : q < 1000) (F : fav fa q) : px_wt L i 0 (nI m - 1) 3 (f3 (px_mi fa (7 - m) m (-1))) = f3 (px_mi (px_fa fa (nI p) q) (7 - m) m (-1)) ∧ fav (px_fa fa (nI p) q) (q + 1) := by
  have rp : px_rd (nI p) 0 6 = nI p := px_rd_in (by
    unfold rf_in
    have a : ¬ nI p < 0 := nI_pos (by omega)
    have e : ¬ (6 : Int32) < nI p := nI_nlt (a := 6) (by omega) (by omega)
    simp [a, e])
  have cp : (nI p).toNatClampNeg = p := nI_clamp (by omega)
  have q1 := nI_m1 (a := q) hq
  have fp : px_fa fa (nI p) q p = (if fa p = -1 then nI q else fa p) := by
    unfold px_fa
    rw [rp, cp, if_pos rfl]
  have fo : ∀ j, j ≠ p → px_fa fa (nI p) q j = fa j := fun j hj => by
    unfold px_fa
    rw [rp, cp, if_neg hj]
  have em : nI m - 1 = nI (m - 1) := by
    obtain ⟨k, rfl⟩ : ∃ k, m = k + 1 := ⟨m - 1, by omega⟩
    rw [nI_pred]
    rfl
  refine ⟨?_, fun j hj => ?_⟩
  · unfold px_wt
    rw [e1, e2, em]
    by_cases pm : p < m
    · rw [if_neg (by
        rintro (z | z)
        · exact nI_pos (by omega) z
        · exact z (nI_le (by omega) (by omega)))]
      rw [mi_cg (7 - m) m (-1) (fun j h1 h2 => fo j (by omega))]
    · rw [if_pos (Or.inr (nI_ge (a := m - 1) (b := p) (by omega) (by omega)))]
      by_cases z : fa p = -1
      · rw [if_pos z] at fp
        have T := mi_s hq F z fp fo (7 - m) m (-1) (by omega) (Or.inl rfl) (by omega) (by omega)
        unfold Tb at T
        rw [T]
        by_cases y : px_mi fa (7 - m) m (-1) = -1
        · rw [if_pos y, y]
          unfold f3 bm
          rw [if_pos rfl, if_pos rfl, if_neg q1]
        · rw [if_neg y, bm_k (f3_k y)]
      · rw [if_neg z] at fp
        rw [bm_k (f3_k (mi_at z (7 - m) m (-1) (by omega) (by omega)))]
        congr 1
        exact (mi_cg (7 - m) m (-1) (fun j h1 h2 => by
          by_cases jp : j = p
          · rw [jp]; exact fp
          · exact fo j jp)).symm
  · by_cases jp : j = p
    · subst jp
      rw [fp]
      split
      · exact Or.inr ⟨q, by omega, rfl⟩
      · exact (F.mono (Nat.le_succ q)) j hj
    · rw [fo j jp]
      exact (F.mono (Nat.le_succ q)) j hj
/-- places go up -/
def px_ac : List (Int32 × Nat) → Nat → Nat → Prop
  | [], b, e => b ≤ e
  | N :: r, b, e => b ≤ N.2 ∧ px_ac r (N.2 + 1) e
def px_al : List px_L → Nat → Prop
  | [], _ => True
  | L :: r, b => ∃ e, px_ac L.2.2 b e ∧ px_al r e
theorem px_ns_ac {c : Nat → Int32} {l : Nat} : ∀ (k p e : Nat), p ≤ l → (px_ns c l k p).2.2 = true → (px_ns c l k p).2.1 ≤ e → ∀ b, b ≤ p → px_ac (px_ns c l k p).1 b e
  | 0, p, e, hp, o, he, b, hb => Nat.le_trans hb he
  | k + 1, p, e, hp, o, he, b, hb => by
    obtain ⟨t, o2⟩ := px_nsT o
    rw [px_nsS t] at he ⊢
    have s := px_e_s (c := c) (l := l) (p := p) (Or.inr (Or.inl t))
    have n := px_nx_s (c := c) hp
    exact ⟨hb, px_ns_ac k _ e n.2 o2 he _ (show p + 1 ≤ px_nx c l p by omega)⟩
theorem px_all_al {c : Nat → Int32} {l : Nat} {o : Int32} : ∀ (f p : Nat), p ≤ l → ∀ b, b ≤ p → px_al (px_all c l o f p).1 b
  | 0, p, hp, b, hb => by
    rw [px_all]
    split <;> trivial
  | f + 1, p, hp, b, hb => by
    by_cases t0 : px_t c l p = 0
    · rw [px_all0 t0]
      trivial
    · cases z : (px_ln c l o p).1 with
      | none =>
        rw [px_all, if_neg t0, z]
        trivial
      | some M =>
        rw [px_all, if_neg t0, z]
        obtain ⟨-, -, k, e1, e2, t1, t3, e3⟩ := px_ln_ok hp z
        have nx := px_nx_s (c := c) hp
        have ns := px_ns_s (c := c) (l := l) k (px_nx c l p) nx.2
        have nl := px_ln5 hp z
        have es := px_e_s (c := c) (l := l) (p := p) (Or.inl t1)
        have n3 := px_nx_s (c := c) ns.2.1
        have p3 := px_e_le (c := c) ns.2.1
        refine ⟨(px_ln c l o p).2, ?_, px_all_al f _ nl.2 _ (Nat.le_refl _)⟩
        rw [e1]
        exact px_ns_ac k _ _ nx.2 e2 (by rw [e3]; omega) b (by omega)
