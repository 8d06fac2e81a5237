/-! ===== the reference: lines of a text ===== -/
section RLN
variable {h g : LH} {d : Nat}
theorem sx_fails : tf_Rt (d + 1) 11 [.ref 270] h (.int 0) (w1 h 270 12 (h.1 270 8)) := fun Q q => en_X9_fails (by decide) (go_X9_fails_0 (by decide) q)
theorem sp_bad {x : Int32} (hx : x ≠ -1) : tf_Sp (d + 1) 12 [.ref 270, .int x] h (fun _ g => ∃ v, v ≠ -1 ∧ g = w1 h 270 13 v) := fun Q q => en_X9_isBad (by decide) (go_X9_isBad_0 (by decide) ⟨fun _ => go_X9_isBad_17 (by decide) (q _ _ ⟨x, hx, rfl⟩), fun c => go_X9_isBad_13 (by decide) (go_X9_isBad_17 (by decide) (q _ _ ⟨_, c, rfl⟩))⟩)
theorem nI_m1 {a : Nat} (ha : a < 1000) : nI a ≠ -1 := fun z => by
  have := congrArg Int32.toInt z
  rw [nI_toInt (by omega)] at this
  have e : (-1 : Int32).toInt = -1 := rfl
  omega
theorem TX.w {L b r i : Nat} {v : Int32} (T : TX h L b r) (hi : i = 12 ∨ i = 13 ∨ 14 ≤ i) : TX (w1 h 270 i v) L b r := by
  obtain ⟨t1, t2, t3, t4, t5, t6, t7, t8⟩ := T
  have e9 : (w1 h 270 i v).1 270 9 = h.1 270 9 := w1_at (by omega)
  exact ⟨t1, w1k (by omega) t2, w1k (by omega) t3, w1k (by omega) t4, t5, t6, by rw [e9]; exact t7, by rw [e9]; exact t8⟩
theorem TX.o {L b r c i : Nat} {v : Int32} (T : TX h L b r) (hc : c ≠ 270) : TX (w1 h c i v) L b r := by
  obtain ⟨t1, t2, t3, t4, t5, t6, t7, t8⟩ := T
  have e : (w1 h c i v).1 270 = h.1 270 := w1_ne (fun z => hc z.symm)
  exact ⟨t1, by rw [e]; exact t2, by rw [e]; exact t3, by rw [e]; exact t4, t5, t6, by rw [e]; exact t7, by rw [e]; exact t8⟩
/-- what taking a number changes -/
def FTa (h g : LH) : Prop := (∀ e, e ≠ 270 → e ≠ 275 → g.1 e = h.1 e) ∧ (∀ i, i ≠ 6 → i ≠ 8 → i ≠ 9 → i ≠ 10 → i ≠ 12 → i ≠ 13 → g.1 270 i = h.1 270 i) ∧ (g.1 270 13 = -1 → h.1 270 13 = -1)
theorem FTa.rf : FTa h h := ⟨fun _ _ _ => rfl, fun _ _ _ _ _ _ _ => rfl, id⟩
theorem FTa.tr {f : LH} (x : FTa h g) (y : FTa g f) : FTa h f := ⟨fun e h1 h2 => (y.1 e h1 h2).trans (x.1 e h1 h2), fun i h1 h2 h3 h4 h5 h6 => (y.2.1 i h1 h2 h3 h4 h5 h6).trans (x.2.1 i h1 h2 h3 h4 h5 h6), fun z => x.2.2 (y.2.2 z)⟩
theorem FTk.ta (F : FTk h g) : FTa h g := ⟨fun e h1 _ => F.1 e h1, fun i h1 h2 h3 h4 _ _ => F.2 i h1 h2 h3 h4, fun z => (F.2 13 (by decide) (by decide) (by decide) (by decide)).symm.trans z⟩
theorem FTa.bad {v : Int32} (hv : v ≠ -1) : FTa h (w1 h 270 13 v) := ⟨fun e h1 _ => w1_ne h1, fun i _ _ _ _ _ h6 => w1_at h6, fun z => absurd (w1_eq.symm.trans z) hv⟩
theorem FTa.w12 {v : Int32} : FTa h (w1 h 270 12 v) := ⟨fun e h1 _ => w1_ne h1, fun i _ _ _ _ h5 _ => w1_at h5, fun z => (w1_at (by decide)).symm.trans z⟩
theorem FTa.w275 {i : Nat} {v : Int32} : FTa h (w1 h 275 i v) := ⟨fun e _ h2 => w1_ne h2, fun i _ _ _ _ _ _ => by rw [w1_ne (by decide)], fun z => by rw [w1_ne (by decide)] at z; exact z⟩
/-- a number was taken, or not -/
def TKN (h g : LH) (L b r k : Nat) (lo hi : Int32) (v : Value) : Prop := FTa h g ∧ ((v = .int 0 ∧ TX g L b r ∧ g.1 275 = h.1 275) ∨ (v = .int 1 ∧ (∃ b2 r2, r ≤ b2 ∧ TX g L b2 r2) ∧ (∀ i, i ≠ k → g.1 275 i = h.1 275 i) ∧ (g.1 275 k = lo ∨ rf_in (g.1 275 k) lo hi = true) ∧ (g.1 270 13 = -1 → rf_in (g.1 275 k) lo hi = true)))
theorem sp_takes {L b r k : Nat} {x lo hi : Int32} (T : TX h L b r) (hk : k < 4) (hx : x = nI k) : tf_Sp (d + 3) 13 [.ref 270, .int x, .int lo, .int hi] h (fun v g => TKN h g L b r k lo hi v) := by
  intro Q q
  subst hx
  have ck : (nI k).toNatClampNeg = k := nI_clamp (by omega)
  have vk : vp_in (nI k) 4 := vi_of hk (by omega)
  refine en_X9_takes (by decide) (go_X9_takes_0 (by decide) ⟨fun _ => go_X9_takes_13 (by decide) ⟨vk, ?_⟩, fun _ => sx_fails (d := d + 1) _ (go_X9_takes_12 (by decide) ⟨rfl, q _ _ ⟨FTa.w12, Or.inl ⟨rfl, T.w (by omega), w1_ne (by decide)⟩⟩⟩)⟩)
  rw [ck]
  have T1 : TX (w1 h 275 k (h.1 270 10)) L b r := T.o (by decide)
  have a1 : (w1 h 275 k (h.1 270 10)).1 275 k = h.1 270 10 := w1_eq
  have o1 : ∀ i, i ≠ k → (w1 h 275 k (h.1 270 10)).1 275 i = h.1 275 i := fun i hi => w1_at hi
  have b1 : (w1 h 275 k (h.1 270 10)).1 270 10 = h.1 270 10 := by rw [w1_ne (by decide)]
  have F1 : FTa h (w1 h 275 k (h.1 270 10)) := FTa.w275
  show tf_Cd 298 (d + 2) _ [.int ((w1 h 275 k (h.1 270 10)).1 270 10), _, _] (w1 h 275 k (h.1 270 10)) _
  rw [b1]
  generalize w1 h 275 k (h.1 270 10) = g1 at T1 a1 o1 F1
  refine sx_in (d := d + 1) _ _ _ _ (go_X9_takes_32 (by decide) ⟨fun z => ?_, fun z => ?_⟩)
  · have t4 : g1.1 270 8 = nI b := T1.2.2.2.1
    have b4 : b ≤ 400 := by have := T1.1; have := T1.2.2.2.2.1; have := T1.2.2.2.2.2.1; omega
    refine sp_bad (d := d + 1) (by rw [t4]; exact nI_m1 (by omega)) _ (fun _ g2 p => go_X9_takes_43 (by decide) ⟨vk, ?_⟩)
    obtain ⟨v, hv, rfl⟩ := p
    rw [ck]
    have T3 : TX (w1 (w1 g1 270 13 v) 275 k lo) L b r := (T1.w (by omega)).o (by decide)
    refine go_X9_takes_50 (by decide) (T3.tok (d := d) _ (fun _ g3 p3 => go_X9_takes_54 (by decide) (q _ g3 ⟨((F1.tr (FTa.bad hv)).tr FTa.w275).tr p3.1.ta, Or.inr ⟨rfl, p3.2, fun i hi => ?_, Or.inl ?_, fun y => ?_⟩⟩)))
    · rw [p3.1.1 275 (by decide), w1_at hi, w1_ne (by decide)]
      exact o1 i hi
    · rw [p3.1.1 275 (by decide)]
      exact w1_eq
    · rw [p3.1.2 13 (by decide) (by decide) (by decide) (by decide), w1_ne (by decide), w1_eq] at y
      exact absurd y hv
  · rw [bI_0, Bool.not_eq_false] at z
    refine go_X9_takes_50 (by decide) (T1.tok (d := d) _ (fun _ g3 p3 => go_X9_takes_54 (by decide) (q _ g3 ⟨F1.tr p3.1.ta, Or.inr ⟨rfl, p3.2, fun i hi => ?_, Or.inr ?_, fun _ => ?_⟩⟩)))
    · rw [p3.1.1 275 (by decide)]
      exact o1 i hi
    · rw [p3.1.1 275 (by decide), a1]
      exact z
    · rw [p3.1.1 275 (by decide), a1]
      exact z
theorem rf_nat {x : Int32} {lo hi : Nat} (hl : lo ≤ hi) (hh : hi < 100000) (c : x = nI lo ∨ rf_in x (nI lo) (nI hi) = true) : ∃ m, lo ≤ m ∧ m ≤ hi ∧ x = nI m := by
  rcases c with c | c
  · exact ⟨lo, Nat.le_refl _, hl, c⟩
  · exact rf_in_t (by omega) c hl
/-- what taking a point changes -/
def FTb (h g : LH) : Prop := (∀ e, e ≠ 270 → e ≠ 275 → e ≠ 278 → g.1 e = h.1 e) ∧ (∀ i, i ≠ 6 → i ≠ 8 → i ≠ 9 → i ≠ 10 → i ≠ 12 → i ≠ 13 → g.1 270 i = h.1 270 i) ∧ (g.1 270 13 = -1 → h.1 270 13 = -1) ∧ ∀ i, h.1 278 i ≠ -1 → g.1 278 i ≠ -1
theorem FTa.tb (F : FTa h g) : FTb h g := ⟨fun e h1 h2 _ => F.1 e h1 h2, F.2.1, F.2.2, fun i hi => by rw [F.1 278 (by decide) (by decide)]; exact hi⟩
theorem FTb.tr {f : LH} (x : FTb h g) (y : FTb g f) : FTb h f := ⟨fun e h1 h2 h3 => (y.1 e h1 h2 h3).trans (x.1 e h1 h2 h3), fun i h1 h2 h3 h4 h5 h6 => (y.2.1 i h1 h2 h3 h4 h5 h6).trans (x.2.1 i h1 h2 h3 h4 h5 h6), fun z => x.2.2.1 (y.2.2.1 z), fun i hi => y.2.2.2 i (x.2.2.2 i hi)⟩
theorem FTb.w278 {i : Nat} {v : Int32} (hv : v ≠ -1) : FTb h (w1 h 278 i v) := ⟨fun e _ _ h3 => w1_ne h3, fun i _ _ _ _ _ _ => by rw [w1_ne (by decide)], fun z => by rw [w1_ne (by decide)] at z; exact z, fun j hj => by
  by_cases hji : j = i
  · rw [hji, w1_eq]
    exact hv
  · rw [w1_at hji]
    exact hj⟩
/-- a point was taken, or not -/
def TPN (h g : LH) (L b r k : Nat) (but : Int32) (v : Value) : Prop := FTb h g ∧ ((v = .int 0 ∧ g.1 275 = h.1 275) ∨ (v = .int 1 ∧ (∃ b2 r2, r ≤ b2 ∧ TX g L b2 r2) ∧ (∀ i, i ≠ k → g.1 275 i = h.1 275 i) ∧ (∃ p, p < 7 ∧ g.1 275 k = nI p ∧ g.1 278 p ≠ -1) ∧ (g.1 270 13 = -1 → g.1 275 k ≠ but)))
theorem sp_tpt {L b r k : Nat} {x but : Int32} (T : TX h L b r) (hk : k < 4) (hx : x = nI k) : tf_Sp (d + 4) 15 [.ref 270, .int x, .int but] h (fun v g => TPN h g L b r k but v) := by
  intro Q q
  have b4 : b ≤ 400 := by have := T.1; have := T.2.2.2.2.1; have := T.2.2.2.2.2.1; omega
  have eb : h.1 270 8 = nI b := T.2.2.2.1
  subst hx
  have ck : (nI k).toNatClampNeg = k := nI_clamp (by omega)
  have vk : vp_in (nI k) 4 := vi_of hk (by omega)
  refine en_X9_takesPoint (by decide) (go_X9_takesPoint_0 (by decide) (sp_takes (d := d) T hk rfl _ (fun v g1 p => ?_)))
  obtain ⟨F1, p | p⟩ := p
  · obtain ⟨rfl, -, e5⟩ := p
    exact go_X9_takesPoint_13 (by decide) ⟨fun _ => q _ g1 ⟨F1.tb, Or.inl ⟨rfl, e5⟩⟩, fun z => absurd rfl z⟩
  · obtain ⟨rfl, ⟨b2, r2, hb2, T2⟩, o5, rg, -⟩ := p
    obtain ⟨pp, -, p6, ep⟩ := rf_nat (lo := 0) (hi := 6) (by omega) (by omega) rg
    rw [eb]
    refine go_X9_takesPoint_13 (by decide) ⟨fun z => absurd z (by decide), fun _ => go_X9_takesPoint_18 (by decide) ?_⟩
    rw [ck]
    have k33 : ∀ g2 : LH, FTa g1 g2 → TX g2 L b2 r2 → g2.1 275 = g1.1 275 → (g2.1 270 13 = -1 → g1.1 275 k ≠ but) → lx_X9_takesPoint 298 (tf_Cd 298 (d + 3)) Q 33 [.ref 270, .int (nI k), .int but, .int (nI b)] [] g2 := by
      intro g2 F2 T3 e5 z5
      have e2 : g2.1 275 k = nI pp := by rw [e5]; exact ep
      have cp : (nI pp).toNatClampNeg = pp := nI_clamp (by omega)
      have fin : ∀ y : Int32, y ≠ -1 → Q (.int 1) (w1 g2 278 (nI pp).toNatClampNeg y) := by
        intro y hy
        rw [cp]
        refine q _ _ ⟨(F1.tr F2).tb.tr (FTb.w278 hy), Or.inr ⟨rfl, ⟨b2, r2, hb2, T3.o (by decide)⟩, fun i hi => ?_, ⟨pp, by omega, ?_, w1_eq ▸ hy⟩, fun z => ?_⟩⟩
        · rw [w1_ne (by decide), e5]
          exact o5 i hi
        · rw [w1_ne (by decide)]
          exact e2
        · rw [w1_ne (by decide)] at z ⊢
          rw [e5]
          exact z5 z
      refine go_X9_takesPoint_33 (by decide) ?_
      rw [ck, e2]
      have v7 : vp_in (nI pp) 7 := vi_of (by omega) (by omega)
      refine ⟨vk, vk, v7, fun _ => go_X9_takesPoint_73 (by decide) (show tf_K 278 = 8 by decide) (show tf_N 278 = 7 by decide) (by decide) ⟨v7, fin _ (nI_m1 (by omega))⟩, fun c => go_X9_takesPoint_62 (by decide) (show tf_K 278 = 8 by decide) (show tf_N 278 = 7 by decide) (by decide) ?_⟩
      rw [ck, e2]
      exact ⟨vk, v7, go_X9_takesPoint_73 (by decide) (show tf_K 278 = 8 by decide) (show tf_N 278 = 7 by decide) (by decide) ⟨v7, fin _ c⟩⟩
    refine ⟨vk, fun c => sp_bad (d := d + 2) (nI_m1 (by omega)) _ (fun _ g2 p2 => ?_), fun c => k33 g1 FTa.rf T2 rfl (fun _ => c)⟩
    obtain ⟨v, hv, rfl⟩ := p2
    exact k33 _ (FTa.bad hv) (T2.w (by omega)) (w1_ne (by decide)) (fun z => absurd (w1_eq.symm.trans z) hv)
/-- what stands still while a text is read -/
def FLn (h g : LH) : Prop := (∀ e, e < 275 → e ≠ 270 → g.1 e = h.1 e) ∧ g.1 270 5 = h.1 270 5
theorem FLn.rf : FLn h h := ⟨fun _ _ _ => rfl, rfl⟩
theorem FLn.tr {f : LH} (x : FLn h g) (y : FLn g f) : FLn h f := ⟨fun e h1 h2 => (y.1 e h1 h2).trans (x.1 e h1 h2), y.2.trans x.2⟩
theorem FTb.ln (F : FTb h g) : FLn h g := ⟨fun e h1 h2 => F.1 e h2 (by omega) (by omega), F.2.1 5 (by decide) (by decide) (by decide) (by decide) (by decide) (by decide)⟩
theorem FTk.ln (F : FTk h g) : FLn h g := F.ta.tb.ln
theorem FLn.w {c i : Nat} {v : Int32} (hc : 275 ≤ c ∨ (c = 270 ∧ i ≠ 5)) : FLn h (w1 h c i v) := ⟨fun e h1 h2 => w1_ne (by omega), by
  rcases hc with hc | hc
  · rw [w1_ne (by omega)]
  · rw [hc.1, w1_at (by omega)]⟩
theorem RD.k {k : Nat} (R : RD h) (o : ∀ i, i ≠ k → g.1 275 i = h.1 275 i) (v : vp_in (g.1 275 k) 100) : RD g := fun i hi => by
  by_cases hik : i = k
  · rw [hik]; exact v
  · rw [o i hik]; exact R i hi
theorem RD.same (R : RD h) (e : g.1 275 = h.1 275) : RD g := fun i hi => by rw [e]; exact R i hi
end RLN
