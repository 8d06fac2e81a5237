/-! ===== the class's acts: they return, and the ranges stay ===== -/
/-- all sixteen grids are in their ranges, none with more than M pivots -/
def XN (h : LH) (M : Nat) : Prop := ∀ r, r < 16 → ∃ n k m, m ≤ M ∧ NT h (15 * r) n k m
/-- grids, the way's row, the ring of undos -/
def XA (h : LH) (M : Nat) : Prop := XN h M ∧ (∃ c, RO h c) ∧ vp_in (h.1 240 8) 11 ∧ vp_in (h.1 240 9) 11
/-- nothing changed from cell 244 on -/
def Fr (h g : LH) : Prop := (∀ e, 244 ≤ e → g.1 e = h.1 e) ∧ g.2 = h.2
theorem Fr.rf {h : LH} : Fr h h := ⟨fun _ _ => rfl, rfl⟩
theorem Fr.tr {h g k : LH} (a : Fr h g) (b : Fr g k) : Fr h k := ⟨fun e he => (b.1 e he).trans (a.1 e he), b.2.trans a.2⟩
theorem Fr.w {h g : LH} {c i : Nat} {v : Int32} (a : Fr h g) (hc : c < 244) : Fr h (w1 g c i v) := ⟨fun e he => by rw [w1_ne (by omega)]; exact a.1 e he, a.2⟩
theorem NT.same {h g : LH} {b n k m : Nat} (H : NT h b n k m) (hs : ∀ e, b ≤ e → e < b + 15 → g.1 e = h.1 e) : NT g b n k m := by
  obtain ⟨HN, hm, s, h1, h2⟩ := H
  refine ⟨HN.keep (hs b (by omega) (by omega)) (fun a _ => by rw [hs (b + 2) (by omega) (by omega)]) (fun a _ => by rw [hs (b + 3) (by omega) (by omega)]) (hs (b + 8) (by omega) (by omega)) (hs (b + 9) (by omega) (by omega)), ?_, s, h1, ?_⟩
  · rw [hs (b + 11) (by omega) (by omega)]
    exact hm
  · rw [hs (b + 11) (by omega) (by omega)]
    exact h2
theorem XN.mono {h : LH} {M N : Nat} (X : XN h M) (hMN : M ≤ N) : XN h N := fun r hr => by
  obtain ⟨n, k, m, hm, H⟩ := X r hr
  exact ⟨n, k, m, by omega, H⟩
/-- one grid has changed -/
theorem XN.put {h g : LH} {M r0 n k m : Nat} (X : XN h M) (hr : r0 < 16) (hm : m ≤ M) (H : NT g (15 * r0) n k m) (hs : ∀ e, e < 240 → ¬ (15 * r0 ≤ e ∧ e < 15 * r0 + 15) → g.1 e = h.1 e) : XN g M := by
  intro r h16
  by_cases e : r = r0
  · subst e
    exact ⟨n, k, m, hm, H⟩
  · obtain ⟨n2, k2, m2, hm2, H2⟩ := X r h16
    exact ⟨n2, k2, m2, hm2, H2.same (fun e h1 h2 => hs e (by omega) (by omega))⟩
theorem XN.hi {h : LH} {M c i : Nat} {v : Int32} (X : XN h M) (hc : 240 ≤ c) : XN (w1 h c i v) M := fun r hr => by
  obtain ⟨n, k, m, hm, H⟩ := X r hr
  exact ⟨n, k, m, hm, H.same (fun e h1 h2 => w1_ne (by omega))⟩
theorem RO.same {h g : LH} {c : Nat} (R : RO h c) (h1 : g.1 241 = h.1 241) (h2 : g.1 242 = h.1 242) : RO g c := ⟨by rw [h1]; exact R.1, R.2.1, fun i hi => by rw [h2]; exact R.2.2 i hi⟩
theorem XA.mono {h : LH} {M N : Nat} (X : XA h M) (hMN : M ≤ N) : XA h N := ⟨X.1.mono hMN, X.2⟩
theorem tf_K15 {r : Nat} (hr : r < 16) : tf_K (15 * r) = 0 := (by decide +kernel : ∀ r, r < 16 → tf_K (15 * r) = 0) r hr
theorem XA.put {h g : LH} {M r0 n k m : Nat} (X : XA h M) (hr : r0 < 16) (hm : m ≤ M) (H : NT g (15 * r0) n k m) (hs : ∀ e, ¬ (15 * r0 ≤ e ∧ e < 15 * r0 + 15) → g.1 e = h.1 e) : XA g M := by
  obtain ⟨XN1, ⟨c, R⟩, u8, u9⟩ := X
  exact ⟨XN1.put hr hm H (fun e _ h2 => hs e h2), ⟨c, R.same (hs 241 (by omega)) (hs 242 (by omega))⟩, by rw [hs 240 (by omega)]; exact u8, by rw [hs 240 (by omega)]; exact u9⟩
section AC
variable {h : LH} {d M : Nat}
/-- the net as it is -/
theorem XA.net (X : XA h M) : ∃ n k m, m ≤ M ∧ NT h 0 n k m := X.1 0 (by omega)
def ac_sv (h : LH) : LH := nt_cp h (15 * ((h.1 240 8).toNatClampNeg + 2)) 0
theorem tf_R266 : ∀ i, i < 11 → tf_R 266 i = 15 * (i + 2) := by decide +kernel
theorem tf_R267 : ∀ i, i < 3 → tf_R 267 i = 15 * (i + 13) := by decide +kernel
theorem sx_sv (X : XA h M) : tf_Rt (d + 3) 215 [.ref 240] h tf_z (ac_sv h) := by
  intro Q q
  obtain ⟨-, -, u8, -⟩ := X
  obtain ⟨i, hi, e⟩ := vi_nI u8
  have hcl : (h.1 240 8).toNatClampNeg = i := by rw [e]; exact nI_clamp (by omega)
  refine en_X8_saveAhead (by decide) (go_X8_saveAhead_0 (by decide) ⟨u8, ?_⟩)
  unfold ac_sv at q
  rw [hcl] at q ⊢
  rw [tf_R266 i hi]
  exact sx_ncp (d := d) (tf_K15 (r := i + 2) (by omega)) (by decide +kernel) (by omega) _ (go_X8_saveAhead_16 (by decide) q)
theorem sv_ok (X : XA h M) : XA (ac_sv h) M ∧ Fr h (ac_sv h) ∧ (∀ e, e < 15 → (ac_sv h).1 e = h.1 e) := by
  obtain ⟨-, -, u8, -⟩ := id X
  obtain ⟨i, hi, e⟩ := vi_nI u8
  have hcl : (h.1 240 8).toNatClampNeg = i := by rw [e]; exact nI_clamp (by omega)
  unfold ac_sv
  rw [hcl]
  have C := nt_cp_ok (h := h) (b := 15 * (i + 2)) (c := 0) (tf_K15 (r := i + 2) (by omega)) (by decide +kernel) (by omega)
  generalize nt_cp h (15 * (i + 2)) 0 = g at C ⊢
  obtain ⟨n, k, m, hm, H⟩ := X.net
  refine ⟨X.put (r0 := i + 2) (by omega) hm (C.nt (tf_K15 (r := i + 2) (by omega)) H) C.1, ⟨fun e he => C.1 e (by omega), C.2.1⟩, fun e he => C.1 e (by omega)⟩
def ac_ca (h : LH) (x : Int32) : LH := if x = 0 then h else w1 (w1 h 240 8 (if h.1 240 8 = 10 then 0 else h.1 240 8 + 1)) 240 9 (if (10 : Int32) < h.1 240 9 + 1 then 10 else h.1 240 9 + 1)
theorem sx_ca (x : Bool) : tf_Rt (d + 1) 216 [.ref 240, .int (bI x)] h (.int (bI x)) (ac_ca h (bI x)) := by
  intro Q q
  have k42 : ∀ g : LH, Q (.int (bI x)) g → lx_X8_countAct 298 (tf_Cd 298 d) Q 42 [.ref 240, .int (bI x)] [] g := fun g q2 => go_X8_countAct_42 (by decide) ⟨bI_nar x, q2⟩
  have k24 : ∀ v : Int32, Q (.int (bI x)) (w1 (w1 h 240 8 v) 240 9 (if (10 : Int32) < h.1 240 9 + 1 then 10 else h.1 240 9 + 1)) → lx_X8_countAct 298 (tf_Cd 298 d) Q 24 [.ref 240, .int (bI x)] [.int v, .ref 240] h := by
    intro v q2
    refine go_X8_countAct_24 (by decide) ?_
    have e9 : (tf_up h.1 240 8 v) 240 9 = h.1 240 9 := w1_at (h := h) (c := 240) (i := 8) (j := 9) (v := v) (by decide)
    rw [tf_Cd_ext (by decide), e9]
    exact ⟨rfl, go_X8_countAct_39 (by decide) (k42 _ q2)⟩
  unfold ac_ca at q
  refine en_X8_countAct (by decide) (go_X8_countAct_0 (by decide) ⟨fun c => k42 h ?_, fun c => ⟨fun c2 => k24 0 ?_, fun c2 => go_X8_countAct_18 (by decide) (k24 _ ?_)⟩⟩)
  · rw [if_pos c] at q
    exact q
  · rw [if_neg c, if_pos c2] at q
    exact q
  · rw [if_neg c, if_neg c2] at q
    exact q
theorem ca_ok (X : XA h M) (x : Int32) : XA (ac_ca h x) M ∧ Fr h (ac_ca h x) ∧ (∀ e, e < 240 → (ac_ca h x).1 e = h.1 e) := by
  obtain ⟨XN1, ⟨c, R⟩, u8, u9⟩ := id X
  obtain ⟨i, hi, e8⟩ := vi_nI u8
  obtain ⟨j, hj, e9⟩ := vi_nI u9
  unfold ac_ca
  split
  · exact ⟨X, Fr.rf, fun _ _ => rfl⟩
  · refine ⟨⟨(XN1.hi (by decide)).hi (by decide), ⟨c, R.same (by rw [w1_ne (by decide), w1_ne (by decide)]) (by rw [w1_ne (by decide), w1_ne (by decide)])⟩, ?_, ?_⟩, (Fr.rf.w (by decide)).w (by decide), fun e he => by rw [w1_ne (by omega), w1_ne (by omega)]⟩
    · rw [w1_at (by decide), w1_eq]
      split
      · exact vi_of (j := 0) (m := 11) (by omega) (by omega)
      · rename_i c10
        rw [e8] at c10 ⊢
        have : i ≠ 10 := fun z => c10 (by rw [z]; rfl)
        rw [nI_1]
        exact vi_of (by omega) (by omega)
    · rw [w1_eq]
      split
      · exact vi_of (j := 10) (m := 11) (by omega) (by omega)
      · rename_i c10
        rw [e9, nI_1] at c10 ⊢
        have : ¬ 10 < j + 1 := fun z => c10 (nI_lt (a := 10) (b := j + 1) z (by omega))
        exact vi_of (by omega) (by omega)
/-- an act on the net that keeps to it: saved ahead, counted if done -/
theorem act_ok {g : LH} {n k m : Nat} (X : XA h M) (hm : m ≤ M) (H : NT g 0 n k m) (hs : ∀ e, ¬ e < 15 → g.1 e = h.1 e) : XA g M := X.put (r0 := 0) (by omega) hm H (fun e he => hs e (by omega))
theorem nt_ba_lo {b : Nat} {warm : Int32} : ∀ (f a : Nat) (h : LH) (e : Nat), e ≠ b + 6 → e ≠ b + 7 → (nt_ba b warm f a h).1 e = h.1 e
  | 0, _, _, _, _, _ => rfl
  | f + 1, a, h, e, h6, h7 => by
    rw [nt_ba, nt_ba_lo f (a + 1) _ e h6 h7]
    unfold nt_b1
    split
    · rw [w1_ne h6]
    · split
      · rw [w1_ne h6, w1_ne h7]
      · rw [w1_ne h6, w1_ne h7]
theorem nt_h1_lo {b k p e : Nat} (he : e < b ∨ b + 9 < e) : (nt_h1 h b k p).1 e = h.1 e := by
  unfold nt_h1 nt_h2
  rw [w1_ne (by omega), w1_ne (by omega), w1_ne (by omega), w1_ne (by omega), w1_ne (by omega), w1_ne (by omega), w1_ne (by omega)]
theorem nt_hs_lo {b k : Nat} : ∀ (f p : Nat) (h : LH) (e : Nat), (e < b ∨ b + 9 < e) → (nt_hs b k f p h).1 e = h.1 e
  | 0, _, _, _, _ => rfl
  | f + 1, p, h, e, he => by rw [nt_hs, nt_hs_lo f (p + 1) _ e he, nt_h1_lo he]
theorem nt_pl_2 {b n : Nat} : ∀ (f p : Nat) (h : LH), (nt_pl b n f p h).2 = h.2
  | 0, _, _ => rfl
  | f + 1, p, h => by rw [nt_pl, nt_pl_2 f (p + 1)]
theorem nt_hs_2 {b k : Nat} : ∀ (f p : Nat) (h : LH), (nt_hs b k f p h).2 = h.2
  | 0, _, _ => rfl
  | f + 1, p, h => by rw [nt_hs, nt_hs_2 f (p + 1)]; rfl
theorem nt_ba_2 {b : Nat} {warm : Int32} : ∀ (f a : Nat) (h : LH), (nt_ba b warm f a h).2 = h.2
  | 0, _, _ => rfl
  | f + 1, a, h => by
    rw [nt_ba, nt_ba_2 f (a + 1)]
    unfold nt_b1
    split
    · rfl
    · split <;> rfl
theorem beg_ok {b n k m : Nat} (H : NT h b n k m) (warm : Int32) : NT (nt_beg h b n k warm) b n k m ∧ (∀ e, ¬ (b ≤ e ∧ e < b + 15) → (nt_beg h b n k warm).1 e = h.1 e) ∧ (nt_beg h b n k warm).2 = h.2 := by
  have HB := H.1.beg warm
  have L : ∀ e, (e < b ∨ b + 10 < e) → ¬ e = b + 11 → (nt_beg h b n k warm).1 e = h.1 e := by
    intro e h1 h2
    unfold nt_beg nt_tick
    rw [w1_ne h2, nt_prs_lo (by omega), nt_hs_lo n 0 _ e (by omega), nt_ba_lo k 0 _ e (by omega) (by omega)]
  refine ⟨⟨HB, ?_, ?_⟩, fun e he => L e (by omega) (by omega), ?_⟩
  · unfold nt_beg nt_tick
    rw [w1_at (by decide), nt_prs_lo (by omega), nt_hs_lo n 0 _ _ (by omega), nt_ba_lo k 0 _ _ (by omega) (by omega)]
    exact H.2.1
  · obtain ⟨s, hs, e⟩ := H.2.2
    refine ⟨s, hs, ?_⟩
    unfold nt_beg nt_tick
    rw [w1_at (by decide), nt_prs_lo (by omega), nt_hs_lo n 0 _ _ (by omega), nt_ba_lo k 0 _ _ (by omega) (by omega)]
    exact e
  · unfold nt_beg nt_tick nt_prs
    show (nt_pl b n n 0 _).2 = h.2
    rw [nt_pl_2]
    show (nt_hs b k n 0 _).2 = h.2
    rw [nt_hs_2, nt_ba_2]
end AC
