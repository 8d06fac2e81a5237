/-! ===== trip on both sides: where it starts, which arc goes out ===== -/
section TOT
variable {h g c cc g1 : LH} {t M d n k m x : Nat}
/-- what is left is alike, and so are the ends -/
def EQ (c g : LH) (k : Nat) : Prop := ∀ a, a < k → c.1 248 a = g.1 288 a ∧ c.1 (0 + 2) a = rm g a 0 ∧ c.1 (0 + 3) a = rm g a 1
theorem oof_eq (E : EQ c g k) (x : Int32) : ∀ (f a : Nat), a + f = k → oof g x f a = tr_out c 0 x f a
  | 0, _, _ => rfl
  | f + 1, a, ha => by
    obtain ⟨e1, e2, -⟩ := E a (by omega)
    rw [oof, tr_out, e1, e2, oof_eq E x f (a + 1) (by omega)]
theorem EQ.out (E : EQ c g k) (x : Int32) : oof g x k 0 = tr_out c 0 x k 0 := oof_eq E x k 0 (by omega)
theorem EQ.fr (E : EQ c g k) (e1 : cc.1 248 = c.1 248) (e2 : cc.1 2 = c.1 2) (e3 : cc.1 3 = c.1 3) (e4 : g1.1 288 = g.1 288) (e5 : g1.1 271 = g.1 271) : EQ cc g1 k := fun a ha => by
  obtain ⟨a1, a2, a3⟩ := E a ha
  unfold rm at *
  rw [e4, e5, e1]
  refine ⟨a1, ?_, ?_⟩
  · show cc.1 2 a = _
    rw [e2]
    exact a2
  · show cc.1 3 a = _
    rw [e3]
    exact a3
theorem xst_1 (H : RM g n k) (E : EQ c g k) {x1 : Int32} {p : Nat} {Q : tf_Q} : ∀ (f a : Nat) (s : Int32), a + f = k → (∀ x4 : Int32, lx_X9_startOf 298 (tf_Cd 298 (d + 1)) Q 83 [.ref 270, .int x1, .int (nI p), .int (tr_sur c 0 (nI p) f a s), .int x4] [] g) → lx_X9_startOf 298 (tf_Cd 298 (d + 1)) Q 19 [.ref 270, .int x1, .int (nI p), .int s, .int (nI a)] [] g
  | 0, a, s, ha, q => by
    have hn := H.1
    exact go_X9_startOf_19 (by decide) ⟨fun _ => q _, fun z => absurd (H.k2 (by omega) (by omega)) z⟩
  | f + 1, a, s, ha, q => by
    have hn := H.1
    obtain ⟨e1, e2, e3⟩ := E a (by omega)
    rw [tr_sur] at q
    have v14 : vp_in (nI a) 14 := vi_of (by omega) (by omega)
    have ca : (nI a).toNatClampNeg = a := nI_clamp (by omega)
    have e75 : ∀ y : Int32, (s + y = (if c.1 (0 + 2) a = nI p then s + c.1 248 a else if c.1 (0 + 3) a = nI p then s - c.1 248 a else s)) → lx_X9_startOf 298 (tf_Cd 298 (d + 1)) Q 75 [.ref 270, .int x1, .int (nI p), .int s, .int (nI a)] [.int y, .int s] g := fun y ey => go_X9_startOf_75 (by decide) (by rw [nI_1, ey]; exact xst_1 H E f (a + 1) _ (by omega) q)
    refine go_X9_startOf_19 (by decide) ⟨fun z => absurd z (H.k1 (by omega)), fun _ => sx_of (d := d) a 0 rfl rfl (by omega) (by omega) _ (go_X9_startOf_38 (by decide) ⟨fun c1 => ⟨v14, e75 _ ?_⟩, fun c1 => go_X9_startOf_52 (by decide) (sx_of (d := d) a 1 rfl rfl (by omega) (by omega) _ (go_X9_startOf_59 (by decide) ⟨fun c2 => ⟨v14, e75 _ ?_⟩, fun c2 => go_X9_startOf_74 (by decide) (e75 _ ?_)⟩))⟩)⟩
    · rw [ca, e2, if_pos c1, e1]
    · rw [ca, e2, if_neg c1, e3, if_pos c2, e1]
      exact (Int32.sub_eq_add_neg _ _).symm
    · rw [e2, if_neg c1, e3, if_neg c2]
      exact Int32.add_zero _
def tr_sF (c : LH) (k : Nat) (F : Int32) : Nat → Nat → Int32
  | 0, _ => F
  | f + 1, p => if tr_sur c 0 (nI p) k 0 0 ≤ 0 then tr_sF c k F f (p + 1) else nI p
theorem s1_sF : ∀ (f p : Nat), tr_s1 c 0 n k f p = tr_sF c k (tr_s2 c 0 k n 0) f p
  | 0, _ => rfl
  | f + 1, p => by rw [tr_s1, tr_sF, s1_sF f (p + 1)]
theorem xst_L (H : RM g n k) (E : EQ c g k) {Q : tf_Q} : ∀ (f p : Nat) (x1 : Int32) (x3 x4 : Value), p + f = n → Q (.int (tr_sF c k (if x1 = -1 then tr_s2 c 0 k f p else x1) f p)) g → lx_X9_startOf 298 (tf_Cd 298 (d + 2)) Q 4 [.ref 270, .int x1, .int (nI p), x3, x4] [] g
  | 0, p, x1, x3, x4, hp, q => by
    have hn := H.1
    refine go_X9_startOf_4 (by decide) ⟨fun _ => go_X9_startOf_115 (by decide) ?_, fun z => absurd (H.n2 (by omega) (by omega)) z⟩
    rw [tr_sF] at q
    by_cases e : x1 = -1
    · rw [if_pos e, tr_s2] at q
      rw [e]
      exact q
    · rw [if_neg e] at q
      exact q
  | f + 1, p, x1, x3, x4, hp, q => by
    have hn := H.1
    rw [tr_sF] at q
    have e108 : tr_sur c 0 (nI p) k 0 0 ≤ 0 → ∀ y x3 x4 : Int32, (if y = -1 then tr_s2 c 0 k f (p + 1) else y) = (if x1 = -1 then tr_s2 c 0 k (f + 1) p else x1) → lx_X9_startOf 298 (tf_Cd 298 (d + 2)) Q 108 [.ref 270, .int x1, .int (nI p), .int x3, .int x4] [.int y] g := fun c0 y x3 x4 ey => go_X9_startOf_108 (by decide) (by
      rw [nI_1]
      refine xst_L H E f (p + 1) y _ _ (by omega) ?_
      rw [if_pos c0] at q
      rw [ey]
      exact q)
    refine go_X9_startOf_4 (by decide) ⟨fun z => absurd z (H.n1 (by omega)), fun _ => xst_1 (d := d + 1) H E k 0 0 (by omega) (fun x4 => go_X9_startOf_83 (by decide) ⟨fun c0 => go_X9_startOf_89 (by decide) ⟨fun c1 => sx_oof (d := d) H (nI p) _ (go_X9_startOf_99 (by decide) ⟨fun c2 => go_X9_startOf_107 (by decide) (e108 c0 _ _ _ ?_), fun c2 => e108 c0 _ _ _ ?_⟩), fun c1 => go_X9_startOf_107 (by decide) (e108 c0 _ _ _ ?_)⟩, fun c0 => ?_⟩)⟩
    · rw [if_pos c1, if_pos c1, tr_s2, ← E.out, if_pos c2]
    · rw [if_pos c1, tr_s2, ← E.out, if_neg c2, if_neg (nI_neg1 (by omega))]
    · rw [if_neg c1, if_neg c1]
    · rw [if_neg c0] at q
      exact q
theorem xv_st (H : RM g n k) (E : EQ c g k) : tf_Rt (d + 3) 88 [.ref 270] g (.int (tr_s1 c 0 n k n 0)) g := fun Q q => en_X9_startOf (by decide) (go_X9_startOf_0 (by decide) (xst_L H E n 0 _ _ _ (by omega) (by rw [if_pos rfl, ← s1_sF]; exact q)))
/-- which stop is met -/
def sax (g : LH) (x : Int32) : Nat → Nat → Int32
  | 0, _ => -1
  | f + 1, i => if g.1 290 i = x then nI i else sax g x f (i + 1)
theorem sx_saxL {x1 : Int32} {m : Nat} (hm : m ≤ 9) {Q : tf_Q} : ∀ (f i : Nat), i + f = m → Q (.int (sax g x1 f i)) g → lx_X9_stopAt 298 (tf_Cd 298 d) Q 2 [.ref 270, .int x1, .int (nI m), .int (nI i)] [] g
  | 0, i, hi, q => go_X9_stopAt_2 (by decide) ⟨fun _ => go_X9_stopAt_25 (by decide) q, fun z => absurd (nI_le (by omega) (by omega)) z⟩
  | f + 1, i, hi, q => by
    rw [sax] at q
    refine go_X9_stopAt_2 (by decide) ⟨fun z => absurd z (nI_ge (by omega) (by omega)), fun _ => ⟨vi_of (by omega) (by omega), ?_⟩⟩
    rw [nI_clamp (by omega)]
    refine ⟨fun c => by rw [if_pos c] at q; exact q, fun c => go_X9_stopAt_19 (by decide) ?_⟩
    rw [nI_1]
    rw [if_neg c] at q
    exact sx_saxL hm f (i + 1) (by omega) q
theorem sx_sax {x1 : Int32} {m : Nat} (hm : m ≤ 9) : tf_Rt (d + 1) 89 [.ref 270, .int x1, .int (nI m)] g (.int (sax g x1 m 0)) g := fun Q q => en_X9_stopAt (by decide) (go_X9_stopAt_0 (by decide) (sx_saxL hm m 0 (by omega) q))
theorem sax_or {y : Int32} : ∀ (f i : Nat), (sax g y f i = -1 ∧ ∀ j, i ≤ j → j < i + f → g.1 290 j ≠ y) ∨ ∃ j, i ≤ j ∧ j < i + f ∧ sax g y f i = nI j ∧ g.1 290 j = y
  | 0, i => Or.inl ⟨rfl, fun j h1 h2 => absurd h2 (by omega)⟩
  | f + 1, i => by
    rw [sax]
    by_cases e : g.1 290 i = y
    · rw [if_pos e]
      exact Or.inr ⟨i, Nat.le_refl _, by omega, rfl, e⟩
    · rw [if_neg e]
      rcases sax_or f (i + 1) with ⟨h1, h2⟩ | ⟨j, h1, h2, h3, h4⟩
      · refine Or.inl ⟨h1, fun j h3 h4 => ?_⟩
        by_cases c : j = i
        · rw [c]
          exact e
        · exact h2 j (by omega) (by omega)
      · exact Or.inr ⟨j, by omega, by omega, h3, h4⟩
theorem sax_end {y : Int32} : ∀ (f i : Nat), i + f < 20 → sax g y (f + 1) i = if sax g y f i = -1 then (if g.1 290 (i + f) = y then nI (i + f) else -1) else sax g y f i
  | 0, i, _ => by
    rw [sax, sax, sax, if_pos rfl]
    rfl
  | f + 1, i, hi => by
    rw [sax, sax_end f (i + 1) (by omega)]
    by_cases e : g.1 290 i = y
    · rw [if_pos e, sax, if_pos e, if_neg (nI_neg1 (by omega))]
    · rw [if_neg e, sax, if_neg e, show i + 1 + f = i + (f + 1) by omega]
theorem sax_c {y : Int32} : ∀ (f i : Nat), (∀ j, i ≤ j → j < i + f → g1.1 290 j = g.1 290 j) → sax g1 y f i = sax g y f i
  | 0, _, _ => rfl
  | f + 1, i, e => by
    rw [sax, sax, e i (Nat.le_refl _) (by omega), sax_c f (i + 1) (fun j h1 h2 => e j (by omega) (by omega))]
end TOT
