/-! ===== the class's script: a text is read ===== -/
section SC1
variable {h g : LH} {d : Nat}
theorem k251 : tf_K 251 = 1 := by decide
theorem go_X4_readLine_14N {dd : Nat} {C : tf_C} {Q : tf_Q} {h : LH} {x1 : Nat} {x2 : Int32} (q : lx_X4_readLine dd C Q 18 [.ref 259, .ref x1, .int x2, tf_z, tf_z, tf_z] [.null] h) : lx_X4_readLine dd C Q 14 [.ref 259, .ref x1, .int x2, tf_z, tf_z, tf_z] [.null] h := by
  refine tf_LW_go ?_
  exact q
theorem go_X4_readLine_18R {dd : Nat} {C : tf_C} {Q : tf_Q} {h : LH} {x1 y0 : Nat} {x2 : Int32} (q : (h.1 259 0 < (80 : Int32) → lx_X4_readLine dd C Q 34 [.ref 259, .ref x1, .int x2, .ref (400 + y0), tf_z, tf_z] [] h) ∧ (¬ h.1 259 0 < (80 : Int32) → lx_X4_readLine dd C Q 32 [.ref 259, .ref x1, .int x2, .ref (400 + y0), tf_z, tf_z] [] h)) : lx_X4_readLine dd C Q 18 [.ref 259, .ref x1, .int x2, tf_z, tf_z, tf_z] [.ref (400 + y0)] h := by
  refine tf_LW_go ?_
  exact ⟨rfl, ⟨by decide, by decide⟩, q⟩
theorem go_X4_readLine_18N {dd : Nat} {C : tf_C} {Q : tf_Q} {h : LH} {x1 : Nat} {x2 : Int32} (q : lx_X4_readLine dd C Q 32 [.ref 259, .ref x1, .int x2, .null, tf_z, tf_z] [] h) : lx_X4_readLine dd C Q 18 [.ref 259, .ref x1, .int x2, tf_z, tf_z, tf_z] [.null] h := by
  refine tf_LW_go ?_
  exact ⟨rfl, q⟩
theorem go_X4_readLine_32N {dd : Nat} {C : tf_C} {Q : tf_Q} {h : LH} {x1 : Nat} {x2 : Int32} {x3 : Value} (q : Q (.int 0) h) : lx_X4_readLine dd C Q 32 [.ref 259, .ref x1, .int x2, x3, tf_z, tf_z] [] h := by
  refine tf_LW_go ?_
  exact ⟨(by first | rfl | trivial), q⟩
/-- a token stands in the text -/
def TK (h : LH) (l : Nat) : Prop := l ≤ 400 ∧ h.1 251 1 = nI l ∧ ∃ tp te, tp ≤ te ∧ te ≤ l ∧ h.1 259 9 = nI tp ∧ h.1 259 10 = nI te
/-- only the token's fields changed -/
def FK (h g : LH) : Prop := (∀ e, e ≠ 259 → g.1 e = h.1 e) ∧ g.2 = h.2 ∧ ∀ j, j < 8 → g.1 259 j = h.1 259 j
theorem FK.rf : FK h h := ⟨fun _ _ => rfl, rfl, fun _ _ => rfl⟩
theorem FK.tr {f : LH} (x : FK h g) (y : FK g f) : FK h f := ⟨fun e he => (y.1 e he).trans (x.1 e he), y.2.1.trans x.2.1, fun j hj => (y.2.2 j hj).trans (x.2.2 j hj)⟩
theorem FK.w {i : Nat} {v : Int32} (hi : 8 ≤ i) : FK h (w1 h 259 i v) := ⟨fun e he => w1_ne he, rfl, fun j hj => w1_at (by omega)⟩
theorem pv_kind (x : Int32) : PV (d + 1) 226 [.int x] h := by
  refine pv_i fun Q q => ?_
  have k28 : lx_X4_kindOf d (tf_Cd 298 d) Q 28 [.int x] [] h := go_X4_kindOf_28 ⟨fun _ => go_X4_kindOf_39 (q _), fun _ => go_X4_kindOf_38 (go_X4_kindOf_39 (q _))⟩
  have k14 : lx_X4_kindOf d (tf_Cd 298 d) Q 14 [.int x] [] h := go_X4_kindOf_14 ⟨fun _ => k28, fun _ => ⟨fun _ => k28, fun _ => q _⟩⟩
  exact en_X4_kindOf (go_X4_kindOf_0 ⟨fun _ => k14, fun _ => ⟨fun _ => k14, fun _ => q _⟩⟩)
theorem ft_end {tp te l : Nat} (hl : l ≤ 400) (e1 : h.1 251 1 = nI l) (e9 : h.1 259 9 = nI tp) (h1 : tp ≤ te) (h2 : te ≤ l) {x3 : Value} {Q : tf_Q} (q : ∀ g, TK g l → FK h g → Q tf_z g) : lx_X4_findToken d (tf_Cd 298 d) Q 133 [.ref 259, .ref 251, .int (nI te), x3] [] h := by
  have T1 : TK (w1 h 259 10 (nI te)) l := ⟨hl, by rw [w1_ne (by decide)]; exact e1, tp, te, h1, h2, by rw [w1_at (by decide)]; exact e9, w1_eq⟩
  have T2 : TK (w1 (w1 h 259 10 (nI te)) 259 8 4) l := ⟨hl, by rw [w1_ne (by decide)]; exact T1.2.1, tp, te, h1, h2, by rw [w1_at (by decide), w1_at (by decide)]; exact e9, by rw [w1_at (by decide)]; exact w1_eq⟩
  exact go_X4_findToken_133 k251 ⟨fun _ => ⟨fun _ => go_X4_findToken_164 k251 (q _ T1 (FK.w (by decide))), fun _ => go_X4_findToken_164 k251 (q _ T2 ((FK.w (by decide)).tr (FK.w (by decide))))⟩, fun _ => go_X4_findToken_164 k251 (q _ T1 (FK.w (by decide)))⟩
theorem ft_kind {tp l : Nat} (hl : l ≤ 400) (e1 : h.1 251 1 = nI l) (e9 : h.1 259 9 = nI tp) {x3 : Int32} {Q : tf_Q} (q : ∀ g, TK g l → FK h g → Q tf_z g) : ∀ (f te : Nat), te + f = l → tp ≤ te → lx_X4_findToken (d + 1) (tf_Cd 298 (d + 1)) Q 92 [.ref 259, .ref 251, .int (nI te), .int x3] [] h
  | 0, te, hf, h1 => go_X4_findToken_92 k251 ⟨fun _ => go_X4_findToken_119 k251 (ft_end hl e1 e9 h1 (by omega) q), fun c => absurd (by rw [e1]; exact nI_le (by omega) (by omega)) c⟩
  | f + 1, te, hf, h1 => by
    refine go_X4_findToken_92 k251 ⟨fun _ => go_X4_findToken_119 k251 (ft_end hl e1 e9 h1 (by omega) q), fun _ => ⟨vi_of (by omega) (by omega), (pv_kind _).c fun x => go_X4_findToken_109 k251 ⟨fun _ => ?_, fun _ => go_X4_findToken_119 k251 (ft_end hl e1 e9 h1 (by omega) q)⟩⟩⟩
    rw [nI_1]
    exact ft_kind hl e1 e9 q f (te + 1) (by omega) (by omega)
theorem ft_68 {tp l : Nat} (hl : l ≤ 400) (ht : tp ≤ l) (e1 : h.1 251 1 = nI l) (e9 : h.1 259 9 = nI tp) {y : Int32} (hy : y = 3 → tp < l) {Q : tf_Q} (q : ∀ g, TK g l → FK h g → Q tf_z g) : lx_X4_findToken (d + 1) (tf_Cd 298 (d + 1)) Q 68 [.ref 259, .ref 251, .int (nI tp), tf_z] [.int y, .ref 259] h := by
  have f1 : FK h (w1 h 259 8 y) := FK.w (by decide)
  have a1 : (w1 h 259 8 y).1 251 1 = nI l := by rw [w1_ne (by decide)]; exact e1
  have a9 : (w1 h 259 8 y).1 259 9 = nI tp := by rw [w1_at (by decide)]; exact e9
  have a8 : (w1 h 259 8 y).1 259 8 = y := w1_eq
  have k87 : lx_X4_findToken (d + 1) (tf_Cd 298 (d + 1)) Q 87 [.ref 259, .ref 251, .int (nI tp), tf_z] [] (w1 h 259 8 y) := go_X4_findToken_87 k251 (ft_kind hl a1 a9 (fun g T F => q g T (f1.tr F)) (l - tp) tp (by omega) (Nat.le_refl _))
  refine go_X4_findToken_68 k251 ⟨fun _ => k87, fun _ => ⟨fun _ => k87, fun _ => go_X4_findToken_122 k251 ⟨fun c => ?_, fun _ => ft_end hl a1 a9 (Nat.le_refl _) ht (fun g T F => q g T (f1.tr F))⟩⟩⟩
  rw [nI_1]
  have c2 : y = 3 := a8.symm.trans c
  have := hy c2
  exact ft_end hl a1 a9 (by omega) (by omega) (fun g T F => q g T (f1.tr F))
theorem ft_41 {tp l : Nat} (hl : l ≤ 400) (ht : tp ≤ l) (e1 : h.1 251 1 = nI l) {Q : tf_Q} (q : ∀ g, TK g l → FK h g → Q tf_z g) : lx_X4_findToken (d + 1) (tf_Cd 298 (d + 1)) Q 41 [.ref 259, .ref 251, .int (nI tp), tf_z] [] h := by
  have f1 : FK h (w1 h 259 9 (nI tp)) := FK.w (by decide)
  have a1 : (w1 h 259 9 (nI tp)).1 251 1 = nI l := by rw [w1_ne (by decide)]; exact e1
  refine go_X4_findToken_41 k251 ⟨fun _ => go_X4_findToken_67 k251 (ft_68 hl ht a1 w1_eq (fun z => absurd z (by decide)) (fun g T F => q g T (f1.tr F))), fun c => ?_⟩
  have hlt : tp < l := by
    rcases Nat.lt_or_ge tp l with z | z
    · exact z
    · exact absurd (show (w1 h 259 9 (nI tp)).1 251 1 ≤ nI tp by rw [a1]; exact nI_le z (by omega)) c
  exact ⟨vi_of (by omega) (by omega), (pv_kind _).c fun x => go_X4_findToken_64 k251 (ft_68 hl ht a1 w1_eq (fun _ => hlt) (fun g T F => q g T (f1.tr F)))⟩
theorem ft_5 {l : Nat} (hl : l ≤ 400) (e1 : h.1 251 1 = nI l) {Q : tf_Q} (q : ∀ g, TK g l → FK h g → Q tf_z g) : ∀ (f a : Nat), a + f = l → lx_X4_findToken (d + 1) (tf_Cd 298 (d + 1)) Q 5 [.ref 259, .ref 251, .int (nI a), tf_z] [] h
  | 0, a, hf => go_X4_findToken_5 k251 ⟨fun _ => ft_41 hl (by omega) e1 q, fun c => absurd (by rw [e1]; exact nI_le (by omega) (by omega)) c⟩
  | f + 1, a, hf => by
    have nx : lx_X4_findToken (d + 1) (tf_Cd 298 (d + 1)) Q 35 [.ref 259, .ref 251, .int (nI a), tf_z] [] h := go_X4_findToken_35 k251 (by rw [nI_1]; exact ft_5 hl e1 q f (a + 1) (by omega))
    exact go_X4_findToken_5 k251 ⟨fun _ => ft_41 hl (by omega) e1 q, fun _ => ⟨vi_of (by omega) (by omega), fun _ => nx, fun _ => ⟨vi_of (by omega) (by omega), fun _ => nx, fun _ => ft_41 hl (by omega) e1 q⟩⟩⟩
theorem sp_ft {l a : Nat} (hl : l ≤ 400) (e1 : h.1 251 1 = nI l) (ha : a ≤ l) (e10 : h.1 259 10 = nI a) : tf_Sp (d + 2) 225 [.ref 259, .ref 251] h (fun _ g => TK g l ∧ FK h g) := by
  intro Q q
  refine en_X4_findToken k251 (go_X4_findToken_0 k251 ?_)
  rw [e10]
  exact ft_5 hl e1 (fun g T F => q _ g ⟨T, F⟩) (l - a) a (by omega)
theorem TK.ft {l : Nat} (T : TK h l) : tf_Sp (d + 2) 225 [.ref 259, .ref 251] h (fun _ g => TK g l ∧ FK h g) := by
  obtain ⟨hl, e1, tp, te, h1, h2, e9, e10⟩ := T
  exact sp_ft hl e1 h2 e10
theorem ih_L {l i tp : Nat} (hi : i < 15) (hl : l ≤ 400) (e9 : h.1 259 9 = nI tp) (hle : tp + tv_len.getD i 0 ≤ l) {Q : tf_Q} (q : ∀ x : Int32, Q (.int x) h) : ∀ (f k : Nat), k + f = tv_len.getD i 0 → lx_X4_isHere (d + 3) (tf_Cd 298 (d + 3)) Q 20 [.ref 259, .ref 251, .ref (430 + i), .int (nI k)] [] h
  | 0, k, hf => go_X4_isHere_20 (by omega) (by omega) k251 ⟨hi, go_X4_isHere_25 (by omega) (by omega) k251 ⟨fun _ => go_X4_isHere_55 (by omega) (by omega) k251 (q _), fun c => absurd (nI_le (by omega) (by omega)) c⟩⟩
  | f + 1, k, hf => by
    refine go_X4_isHere_20 (by omega) (by omega) k251 ⟨hi, go_X4_isHere_25 (by omega) (by omega) k251 ⟨fun _ => go_X4_isHere_55 (by omega) (by omega) k251 (q _), fun _ => ⟨⟨hi, vi_of (by omega) (by omega)⟩, go_X4_isHere_33 (by omega) (by omega) k251 ⟨?_, fun _ => go_X4_isHere_49 (by omega) (by omega) k251 ?_, fun _ => q _⟩⟩⟩⟩
    · rw [e9, nI_add]
      exact vi_of (by omega) (by omega)
    · rw [nI_1]
      exact ih_L hi hl e9 hle q f (k + 1) (by omega)
theorem pv_ih {l i : Nat} (T : TK h l) (hi : i < 15) : PV (d + 4) 228 [.ref 259, .ref 251, .ref (430 + i)] h := by
  obtain ⟨hl, e1, tp, te, h1, h2, e9, e10⟩ := T
  have l8 := tv_c4 i hi
  refine pv_i fun Q q => en_X4_isHere k251 (go_X4_isHere_0 (by omega) (by omega) k251 ⟨hi, go_X4_isHere_4 (by omega) (by omega) k251 ⟨fun c => go_X4_isHere_18 (by omega) (by omega) k251 ?_, fun _ => q _⟩⟩)
  rw [e9, e10, nI_sub h1, nI_eq (by omega) (by omega)] at c
  exact ih_L hi hl e9 (by omega) q (tv_len.getD i 0) 0 (by omega)
/-- a verb, or nothing -/
def VN (v : Value) : Prop := v = .null ∨ ∃ i, i < 15 ∧ v = .ref (400 + i)
theorem vh_L {l : Nat} (T : TK h l) {x2 : Int32} {Q : tf_Q} (q : ∀ v, VN v → Q v h) : ∀ (f i : Nat) (x4 : Value), i + f = 15 → lx_X4_verbHere (d + 4) (tf_Cd 298 (d + 4)) Q 2 [.ref 259, .ref 251, .int x2, .int (nI i), x4] [] h
  | 0, i, x4, hf => go_X4_verbHere_2 k251 ⟨fun _ => go_X4_verbHere_49 k251 (q _ (Or.inl rfl)), fun c => absurd (show nI 15 ≤ nI i from nI_le (by omega) (by omega)) c⟩
  | f + 1, i, x4, hf => by
    refine go_X4_verbHere_2 k251 ⟨fun _ => go_X4_verbHere_49 k251 (q _ (Or.inl rfl)), fun _ => ⟨vi_of (by omega) (by omega), ?_⟩⟩
    rw [nI_clamp (by omega)]
    have nx : lx_X4_verbHere (d + 4) (tf_Cd 298 (d + 4)) Q 43 [.ref 259, .ref 251, .int x2, .int (nI i), .ref (400 + i)] [] h := go_X4_verbHere_43 k251 (by rw [nI_1]; exact vh_L T q f (i + 1) _ (by omega))
    have h15 : i < 15 := by omega
    exact go_X4_verbHere_23 k251 ⟨fun _ => nx, fun _ => ⟨h15, (pv_ih T h15).c fun x => go_X4_verbHere_37 k251 ⟨fun _ => nx, fun _ => q _ (Or.inr ⟨i, h15, rfl⟩)⟩⟩⟩
theorem sp_vh {l : Nat} (T : TK h l) (x2 : Int32) : tf_Sp (d + 5) 227 [.ref 259, .ref 251, .int x2] h (fun v g => VN v ∧ g = h) := fun Q q => en_X4_verbHere k251 (go_X4_verbHere_0 k251 (vh_L T (fun v hv => q v h ⟨hv, rfl⟩) 15 0 _ (by omega)))
theorem nh_L {l te : Nat} (hl : l ≤ 400) (ht : te ≤ l) (e10 : h.1 259 10 = nI te) {Q : tf_Q} (q : ∀ x : Int32, Q (.int x) h) : ∀ (f a : Nat) (x : Int32), a + f = te → lx_X4_numberHere d (tf_Cd 298 d) Q 7 [.ref 259, .ref 251, .int x, .int (nI a)] [] h
  | 0, a, x, hf => go_X4_numberHere_7 k251 ⟨fun _ => go_X4_numberHere_36 k251 (q _), fun c => absurd (by rw [e10]; exact nI_le (by omega) (by omega)) c⟩
  | f + 1, a, x, hf => by
    refine go_X4_numberHere_7 k251 ⟨fun _ => go_X4_numberHere_36 k251 (q _), fun _ => ⟨vi_of (by omega) (by omega), ?_⟩⟩
    rw [nI_1]
    exact nh_L hl ht e10 q f (a + 1) _ (by omega)
theorem pv_nh {l : Nat} (T : TK h l) : PV (d + 1) 229 [.ref 259, .ref 251] h := by
  obtain ⟨hl, e1, tp, te, h1, h2, e9, e10⟩ := T
  refine pv_i fun Q q => en_X4_numberHere k251 (go_X4_numberHere_0 k251 ?_)
  rw [e9]
  exact nh_L hl h2 e10 q (te - tp) tp _ (by omega)
end SC1
