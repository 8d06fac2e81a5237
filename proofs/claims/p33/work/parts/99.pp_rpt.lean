/-! ===== a word is a verb's; the reference's takesPoint: told exactly ===== -/
theorem px_rn_in {c : Nat → Int32} {k : Int32} : ∀ (f a j : Nat), a ≤ j → j < px_rn c k f a → px_kd (c j) = k
  | 0, a, j, h1, h2 => by
    rw [px_rn] at h2
    omega
  | f + 1, a, j, h1, h2 => by
    rw [px_rn] at h2
    split at h2
    · rename_i hk
      by_cases ja : j = a
      · rw [ja]
        exact hk
      · exact px_rn_in f (a + 1) j (by omega) h2
    · omega
theorem px_mt_iff {c : Nat → Int32} {p i : Nat} : ∀ (f j : Nat), px_mt c p i f j = true ↔ ∀ m, j ≤ m → m < j + f → tv_ch i m = c (p + m)
  | 0, j => ⟨fun _ m h1 h2 => by omega, fun _ => rfl⟩
  | f + 1, j => by
    rw [px_mt, Bool.and_eq_true, decide_eq_true_eq, px_mt_iff f (j + 1)]
    constructor
    · rintro ⟨a, b⟩ m h1 h2
      by_cases jm : m = j
      · rw [jm]
        exact a
      · exact b m (by omega) (by omega)
    · intro a
      exact ⟨a j (Nat.le_refl _) (by omega), fun m h1 h2 => a m (by omega) (by omega)⟩
theorem px_t1 {c : Nat → Int32} {l p : Nat} (h : px_t c l p = 1) : px_k c l p = 1 := by
  unfold px_t at h
  split at h
  · exact absurd h (by decide)
  · exact h
theorem px_wsm {c : Nat → Int32} {l p : Nat} (h : px_t c l p = 1) : px_sm c (px_e c l p - p) p := by
  intro j hj
  have hk := px_t1 h
  have he : px_e c l p = px_rn c 1 (l - p) p := by
    unfold px_e
    rw [if_pos (Or.inl hk), hk]
  obtain ⟨m, h1, h2, e⟩ := px_let (px_rn_in (c := c) (k := 1) (l - p) p (p + j) (by omega) (by omega))
  exact ⟨m, by omega, by omega, e⟩
theorem px_W0 : ∀ i, i < 15 → px_W.getD i 0 ≠ 0 := by decide +kernel
/-- the word at hand is verb i's just where the packed longs are alike -/
theorem px_is_W {c : Nat → Int32} {l p i : Nat} (h : px_t c l p = 1) (hi : i < 15) : px_is c p (px_e c l p) i = true ↔ px_wd c l p = px_W.getD i 0 := by
  obtain ⟨l8, ls⟩ := px_Wsm i hi
  have s1 := px_wsm h
  have s2 : px_sm (tv_ch i) (tv_len.getD i 0) 0 := fun j hj => ⟨_, ls j hj⟩
  unfold px_is px_wd
  rw [Bool.and_eq_true, decide_eq_true_eq, px_mt_iff]
  by_cases n8 : px_e c l p - p ≤ 8
  · rw [if_pos n8, ← px_Wok i hi, px_wf_inj n8 l8 s1 s2]
    constructor
    · rintro ⟨a, b⟩
      refine ⟨a.symm, fun j hj => ?_⟩
      rw [Nat.zero_add]
      exact (b j (Nat.zero_le _) (by omega)).symm
    · rintro ⟨a, b⟩
      refine ⟨a.symm, fun m _ hm => ?_⟩
      have := b m (by omega)
      rw [Nat.zero_add] at this
      exact this.symm
  · rw [if_neg n8]
    constructor
    · rintro ⟨a, b⟩
      omega
    · intro z
      exact absurd z.symm (px_W0 i hi)
section RX3
variable {h g : LH} {d : Nat} {c : Nat → Int32}
/-- what a number tells where lo to hi is wanted -/
def px_rd (x lo hi : Int32) : Int32 := if rf_in x lo hi = true then x else lo
def px_bt (x lo hi : Int32) (b : Nat) (s : Int32) : Int32 := if rf_in x lo hi = true then s else bd s b
/-- a point was taken into place k: these stay -/
def FTp (h g : LH) (k : Nat) : Prop := (∀ e, e ≠ 270 → e ≠ 275 → e ≠ 278 → g.1 e = h.1 e) ∧ (∀ i, i ≠ 6 → i ≠ 8 → i ≠ 9 → i ≠ 10 → i ≠ 13 → g.1 270 i = h.1 270 i) ∧ ∀ i, i ≠ k → g.1 275 i = h.1 275 i
theorem px_rd7 (x : Int32) : vp_in (px_rd x 0 6) 7 := by
  unfold px_rd
  split
  · rename_i z
    unfold rf_in at z
    simp only [Bool.and_eq_true, Bool.not_eq_true', decide_eq_false_iff_not] at z
    exact wt_7 z.1 (Int32.not_lt.mp z.2)
  · exact vi_of (j := 0) (by omega) (by omega)
theorem sx_tpt {L b k : Nat} {but : Int32} (hL : L ≤ 400) (ec : (fun i => h.1 272 i &&& 255) = c) (P : PB h c L b) (hk : k < 4) : tf_Sp (d + 4) 15 [.ref 270, .int (nI k), .int but] h (fun v g => (px_t c L b ≠ 2 → v = .int 0 ∧ g = w1 h 270 12 (nI b)) ∧ (px_t c L b = 2 → v = .int 1 ∧ PB g c L (px_nx c L b) ∧ FTp h g k ∧ g.1 275 k = px_rd (px_num c L b) 0 6 ∧ g.1 270 13 = (if px_rd (px_num c L b) 0 6 = but then bd (px_bt (px_num c L b) 0 6 b (h.1 270 13)) b else px_bt (px_num c L b) 0 6 b (h.1 270 13)) ∧ ∀ i, g.1 278 i = (if i = (px_rd (px_num c L b) 0 6).toNatClampNeg then (if h.1 278 i = -1 then nI b else h.1 278 i) else h.1 278 i))) := by
  intro Q q
  have ck : (nI k).toNatClampNeg = k := nI_clamp (by omega)
  have vk : vp_in (nI k) 4 := vi_of hk (by omega)
  refine en_X9_takesPoint (by decide) (go_X9_takesPoint_0 (by decide) (sx_takes (d := d) hL ec P hk _ (fun v g1 p1 => ?_)))
  rw [P.2.2.1]
  by_cases t2 : px_t c L b = 2
  · obtain ⟨rfl, P1, F1, a1, b1⟩ := p1.2 t2
    have a1 : g1.1 275 k = px_rd (px_num c L b) 0 6 := a1
    have b1 : g1.1 270 13 = px_bt (px_num c L b) 0 6 b (h.1 270 13) := b1
    have v7 := px_rd7 (px_num c L b)
    have e8 : g1.1 278 = h.1 278 := F1.1 278 (by decide) (by decide)
    refine go_X9_takesPoint_13 (by decide) ⟨fun z => absurd z (by decide), fun _ => go_X9_takesPoint_18 (by decide) ⟨vk, ?_⟩⟩
    rw [ck, a1]
    have fin : ∀ g2 : LH, PB g2 c L (px_nx c L b) → (∀ e, e ≠ 270 → g2.1 e = g1.1 e) → (∀ i, i ≠ 13 → g2.1 270 i = g1.1 270 i) → g2.1 270 13 = (if px_rd (px_num c L b) 0 6 = but then bd (px_bt (px_num c L b) 0 6 b (h.1 270 13)) b else px_bt (px_num c L b) 0 6 b (h.1 270 13)) → lx_X9_takesPoint 298 (tf_Cd 298 (d + 3)) Q 33 [.ref 270, .int (nI k), .int but, .int (nI b)] [] g2 := by
      intro g2 P2 o2 i2 z2
      have a2 : g2.1 275 k = px_rd (px_num c L b) 0 6 := by rw [o2 275 (by decide)]; exact a1
      have e2 : g2.1 278 = h.1 278 := (o2 278 (by decide)).trans e8
      have done : ∀ y : Int32, y = (if h.1 278 (px_rd (px_num c L b) 0 6).toNatClampNeg = -1 then nI b else h.1 278 (px_rd (px_num c L b) 0 6).toNatClampNeg) → lx_X9_takesPoint 298 (tf_Cd 298 (d + 3)) Q 73 [.ref 270, .int (nI k), .int but, .int (nI b)] [.int y, .int (px_rd (px_num c L b) 0 6), .ref 278] g2 := by
        intro y hy
        refine go_X9_takesPoint_73 (by decide) (show tf_K 278 = 8 by decide) (show tf_N 278 = 7 by decide) (by decide) ⟨v7, ?_⟩
        show Q (.int 1) (w1 g2 278 (px_rd (px_num c L b) 0 6).toNatClampNeg y)
        refine q _ _ ⟨fun z => absurd t2 z, fun _ => ⟨rfl, P2.same (fun i _ => by rw [w1_ne (by decide)]) rfl, ⟨fun e h1 h2 h3 => ?_, fun i h1 h2 h3 h4 h5 => ?_, fun i hi => ?_⟩, ?_, ?_, fun i => ?_⟩⟩
        · rw [w1_ne h3, o2 e h1]
          exact F1.1 e h1 h2
        · rw [w1_ne (by decide), i2 i h5]
          exact F1.2.1 i h1 h2 h3 h4 h5
        · rw [w1_ne (by decide), o2 275 (by decide)]
          exact F1.2.2 i hi
        · rw [w1_ne (by decide)]
          exact a2
        · rw [w1_ne (by decide)]
          exact z2
        · by_cases ii : i = (px_rd (px_num c L b) 0 6).toNatClampNeg
          · rw [if_pos ii, ii, w1_eq]
            exact hy
          · rw [if_neg ii, w1_at ii, e2]
      refine go_X9_takesPoint_33 (by decide) ⟨vk, vk, ?_⟩
      rw [ck, a2, e2]
      refine ⟨v7, fun z => done _ (by rw [if_pos z]), fun z => go_X9_takesPoint_62 (by decide) (show tf_K 278 = 8 by decide) (show tf_N 278 = 7 by decide) (by decide) ⟨vk, ?_⟩⟩
      rw [ck, a2, e2]
      exact ⟨v7, done _ (by rw [if_neg z])⟩
    refine ⟨fun z => sx_bad (d := d + 2) _ (fin _ (P1.same (fun i hi => w1_at (by omega)) rfl) (fun e he => w1_ne he) (fun i hi => w1_at hi) ?_), fun z => fin g1 P1 (fun _ _ => rfl) (fun _ _ => rfl) ?_⟩
    · rw [w1_eq, b1, if_pos z]
    · rw [b1, if_neg z]
  · obtain ⟨rfl, rfl⟩ := p1.1 t2
    exact go_X9_takesPoint_13 (by decide) ⟨fun _ => q _ _ ⟨fun _ => ⟨rfl, rfl⟩, fun y => absurd y t2⟩, fun z => absurd rfl z⟩
end RX3
