/-! ===== the reference's token and takes: told exactly ===== -/
section RX2
variable {h g : LH} {d : Nat} {c : Nat → Int32}
theorem y_0 {h0 : LH} {L : Nat} (hL : L ≤ 400) (ec : (fun i => h0.1 272 i &&& 255) = c) {Q : tf_Q} : ∀ (f r : Nat) (g : LH), r + f = L → g.1 270 7 = nI L → g.1 270 6 = nI r → FTk h0 g → (∀ g, PB g c L (px_sk c f r) → FTk h0 g → Q tf_z g) → lx_X9_token 298 (tf_Cd 298 (d + 1)) Q 0 [.ref 270, tf_z, tf_z] [] g := by
  intro f
  induction f with
  | zero =>
    intro r g hf e7 e6 F q
    have m1 : sv g L r = -1 := by unfold sv; rw [if_neg (by omega)]
    exact go_X9_token_0 (by decide) (sx_see (d := d) hL (by omega) e7 e6 _ (go_X9_token_4 (by decide) ⟨fun z => absurd (m1.symm.trans z) (by decide), fun _ => sx_see (d := d) hL (by omega) e7 e6 _ (go_X9_token_13 (by decide) ⟨fun z => absurd (m1.symm.trans z) (by decide), fun _ => y_31 hL (by omega) ec e7 e6 F q⟩)⟩))
  | succ f ih =>
    intro r g hf e7 e6 F q
    have es : sv g L r = c r := by rw [sv_c (by omega), ← ec]; show (fun i => g.1 272 i &&& 255) r = _; rw [F.cm]
    rw [px_sk] at q
    have k18 : px_ws (c r) = true → lx_X9_token 298 (tf_Cd 298 (d + 1)) Q 18 [.ref 270, tf_z, tf_z] [] g := by
      intro z
      rw [if_pos z] at q
      refine go_X9_token_18 (by decide) ?_
      rw [e6, nI_1]
      exact ih (r + 1) (w1 g 270 6 (nI (r + 1))) (by omega) ((w1_at (by decide)).trans e7) w1_eq (F.w (by omega)) q
    refine go_X9_token_0 (by decide) (sx_see (d := d) hL (by omega) e7 e6 _ (go_X9_token_4 (by decide) ⟨fun z => k18 ?_, fun z => sx_see (d := d) hL (by omega) e7 e6 _ (go_X9_token_13 (by decide) ⟨fun z2 => k18 ?_, fun z2 => ?_⟩)⟩))
    · rw [es] at z
      unfold px_ws
      rw [z]
      rfl
    · rw [es] at z2
      unfold px_ws
      rw [z2]
      rfl
    · rw [es] at z z2
      have nw : ¬ px_ws (c r) = true := by
        unfold px_ws
        simp [z, z2]
      rw [if_neg nw] at q
      exact y_31 hL (by omega) ec e7 e6 F q
/-- token, told exactly -/
theorem sx_tok {L r : Nat} (hL : L ≤ 400) (hr : r ≤ L) (ec : (fun i => h.1 272 i &&& 255) = c) (e7 : h.1 270 7 = nI L) (e6 : h.1 270 6 = nI r) : tf_Sp (d + 2) 10 [.ref 270] h (fun _ g => FTk h g ∧ PB g c L (px_p c L r)) := fun Q q => en_X9_token (by decide) (y_0 hL ec (L - r) r h (by omega) e7 e6 FTk.rf (fun g P F => q _ g ⟨F, P⟩))
theorem PB.tok {L b : Nat} (hL : L ≤ 400) (ec : (fun i => h.1 272 i &&& 255) = c) (P : PB h c L b) (h4 : px_t c L b ≠ 4) : tf_Sp (d + 2) 10 [.ref 270] h (fun _ g => FTk h g ∧ PB g c L (px_nx c L b)) := sx_tok hL (px_e_le P.1).2 ec P.2.1 (P.2.2.2.2.1 h4)
theorem PB.same {L b : Nat} (P : PB h c L b) (e : ∀ i, i = 6 ∨ i = 7 ∨ i = 8 ∨ i = 9 ∨ i = 10 → g.1 270 i = h.1 270 i) (e2 : g.2 270 11 = h.2 270 11) : PB g c L b := by
  obtain ⟨a, b1, c1, d1, e1, f1, g1⟩ := P
  exact ⟨a, (e 7 (by omega)).trans b1, (e 8 (by omega)).trans c1, (e 9 (by omega)).trans d1, fun z => (e 6 (by omega)).trans (e1 z), fun z => (e 10 (by omega)).trans (f1 z), fun z => e2.trans (g1 z)⟩
theorem px_so_n {t : Int32} (h3 : px_so t = 3) : t = 2 := by
  unfold px_so at h3
  split at h3
  · exact absurd h3 (by decide)
  · split at h3
    · exact absurd h3 (by decide)
    · split at h3
      · assumption
      · split at h3 <;> exact absurd h3 (by decide)
/-- the place that is bad first -/
def bd (x : Int32) (p : Nat) : Int32 := if x = -1 then nI p else x
theorem sx_bad {p : Nat} : tf_Rt (d + 1) 12 [.ref 270, .int (nI p)] h tf_z (w1 h 270 13 (bd (h.1 270 13) p)) := by
  intro Q q
  refine en_X9_isBad (by decide) (go_X9_isBad_0 (by decide) ⟨fun z => go_X9_isBad_17 (by decide) ?_, fun z => go_X9_isBad_13 (by decide) (go_X9_isBad_17 (by decide) ?_)⟩)
  · unfold bd at q
    rw [if_pos z] at q
    exact q
  · unfold bd at q
    rw [if_neg z] at q
    exact q
/-- a number was taken into place k: these stay -/
def FTq (h g : LH) (k : Nat) : Prop := (∀ e, e ≠ 270 → e ≠ 275 → g.1 e = h.1 e) ∧ (∀ i, i ≠ 6 → i ≠ 8 → i ≠ 9 → i ≠ 10 → i ≠ 13 → g.1 270 i = h.1 270 i) ∧ ∀ i, i ≠ k → g.1 275 i = h.1 275 i
theorem sx_takes {L b k : Nat} {lo hi : Int32} (hL : L ≤ 400) (ec : (fun i => h.1 272 i &&& 255) = c) (P : PB h c L b) (hk : k < 4) : tf_Sp (d + 3) 13 [.ref 270, .int (nI k), .int lo, .int hi] h (fun v g => (px_t c L b ≠ 2 → v = .int 0 ∧ g = w1 h 270 12 (nI b)) ∧ (px_t c L b = 2 → v = .int 1 ∧ PB g c L (px_nx c L b) ∧ FTq h g k ∧ g.1 275 k = (if rf_in (px_num c L b) lo hi = true then px_num c L b else lo) ∧ g.1 270 13 = (if rf_in (px_num c L b) lo hi = true then h.1 270 13 else bd (h.1 270 13) b))) := by
  intro Q q
  have ck : (nI k).toNatClampNeg = k := nI_clamp (by omega)
  have vk : vp_in (nI k) 4 := vi_of hk (by omega)
  refine en_X9_takes (by decide) (go_X9_takes_0 (by decide) ⟨fun z0 => go_X9_takes_13 (by decide) ⟨vk, ?_⟩, fun z0 => sx_fails (d := d + 1) _ (go_X9_takes_12 (by decide) ⟨rfl, ?_⟩)⟩)
  · have t2 : px_t c L b = 2 := px_so_n (P.2.2.2.1.symm.trans z0)
    have n4 : px_t c L b ≠ 4 := by rw [t2]; decide
    have ev : h.1 270 10 = px_num c L b := P.2.2.2.2.2.1 t2
    rw [ck]
    have b1 : (w1 h 275 k (h.1 270 10)).1 270 10 = px_num c L b := by rw [w1_ne (by decide)]; exact ev
    show tf_Cd 298 (d + 2) _ [.int ((w1 h 275 k (h.1 270 10)).1 270 10), _, _] (w1 h 275 k (h.1 270 10)) _
    rw [b1, ev]
    have P1 : PB (w1 h 275 k (px_num c L b)) c L b := P.same (fun i _ => by rw [w1_ne (by decide)]) rfl
    have c1 : (fun i => (w1 h 275 k (px_num c L b)).1 272 i &&& 255) = c := by rw [w1_ne (by decide)]; exact ec
    have a1 : (w1 h 275 k (px_num c L b)).1 275 k = px_num c L b := w1_eq
    have o1 : ∀ i, i ≠ k → (w1 h 275 k (px_num c L b)).1 275 i = h.1 275 i := fun i hi => w1_at hi
    have d1 : ∀ e, e ≠ 275 → (w1 h 275 k (px_num c L b)).1 e = h.1 e := fun e he => w1_ne he
    generalize w1 h 275 k (px_num c L b) = g1 at P1 c1 a1 o1 d1
    refine sx_in (d := d + 1) _ _ _ _ (go_X9_takes_32 (by decide) ⟨fun z => ?_, fun z => ?_⟩)
    · rw [bI_0] at z
      have nz : ¬ rf_in (px_num c L b) lo hi = true := by rw [z]; decide
      rw [P1.2.2.1]
      refine sx_bad (d := d + 1) _ (go_X9_takes_43 (by decide) ⟨vk, ?_⟩)
      rw [ck]
      show lx_X9_takes 298 (tf_Cd 298 (d + 2)) Q 50 _ [] (w1 (w1 g1 270 13 (bd (g1.1 270 13) b)) 275 k lo)
      have P3 : PB (w1 (w1 g1 270 13 (bd (g1.1 270 13) b)) 275 k lo) c L b := P1.same (fun i hi => by rw [w1_ne (by decide), w1_at (by omega)]) rfl
      have c3 : (fun i => (w1 (w1 g1 270 13 (bd (g1.1 270 13) b)) 275 k lo).1 272 i &&& 255) = c := by rw [w1_ne (by decide), w1_ne (by decide)]; exact c1
      refine go_X9_takes_50 (by decide) (P3.tok (d := d) hL c3 n4 _ (fun _ g3 p3 => go_X9_takes_54 (by decide) (q _ g3 ⟨fun y => absurd t2 y, fun _ => ⟨rfl, p3.2, ⟨fun e h1 h2 => ?_, fun i h1 h2 h3 h4 h5 => ?_, fun i hi => ?_⟩, ?_, ?_⟩⟩)))
      · rw [p3.1.1 e h1, w1_ne h2, w1_ne h1]
        exact d1 e h2
      · rw [p3.1.2 i h1 h2 h3 h4, w1_ne (by decide), w1_at h5, d1 270 (by decide)]
      · rw [p3.1.1 275 (by decide), w1_at hi, w1_ne (by decide)]
        exact o1 i hi
      · rw [if_neg nz, p3.1.1 275 (by decide), w1_eq]
      · rw [if_neg nz, p3.1.2 13 (by decide) (by decide) (by decide) (by decide), w1_ne (by decide), w1_eq, d1 270 (by decide)]
    · rw [bI_0, Bool.not_eq_false] at z
      refine go_X9_takes_50 (by decide) (P1.tok (d := d) hL c1 n4 _ (fun _ g3 p3 => go_X9_takes_54 (by decide) (q _ g3 ⟨fun y => absurd t2 y, fun _ => ⟨rfl, p3.2, ⟨fun e h1 h2 => ?_, fun i h1 h2 h3 h4 h5 => ?_, fun i hi => ?_⟩, ?_, ?_⟩⟩)))
      · rw [p3.1.1 e h1]
        exact d1 e h2
      · rw [p3.1.2 i h1 h2 h3 h4, d1 270 (by decide)]
      · rw [p3.1.1 275 (by decide)]
        exact o1 i hi
      · rw [if_pos z, p3.1.1 275 (by decide)]
        exact a1
      · rw [if_pos z, p3.1.2 13 (by decide) (by decide) (by decide) (by decide), d1 270 (by decide)]
  · have t2 : px_t c L b ≠ 2 := fun y => z0 (P.2.2.2.1.trans (by rw [y]; rfl))
    refine q _ _ ⟨fun _ => ⟨rfl, ?_⟩, fun y => absurd y t2⟩
    rw [P.2.2.1]
end RX2
