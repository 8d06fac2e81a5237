/-! ===== a whole text, read by the class ===== -/
theorem px_ns_len {c : Nat → Int32} {l : Nat} : ∀ (k p : Nat), (px_ns c l k p).1.length ≤ k
  | 0, p => Nat.le_refl _
  | k + 1, p => by
    rw [px_ns]
    split
    · have := px_ns_len (c := c) (l := l) k (px_nx c l p)
      simp only [List.length_cons]
      omega
    · exact Nat.zero_le _
theorem px_ln_len {c : Nat → Int32} {l p : Nat} {o : Int32} {L : px_L} (e : (px_ln c l o p).1 = some L) : L.2.2.length ≤ 4 := by
  unfold px_ln at e
  split at e
  · split at e
    · cases e
    · rename_i v hvb
      obtain ⟨hv, ha, -⟩ := px_vb_lt 15 0 (by omega) hvb
      obtain ⟨k4, -⟩ := px_ar_le hv ha
      split at e
      · cases e
        exact Nat.le_trans (px_ns_len _ _) k4
      · cases e
  · cases e
section SX4
variable {h g : LH} {d : Nat} {c : Nat → Int32}
/-- the lines that were read stand there -/
def LSt (g : LH) (ls : List px_L) : Prop := g.1 259 0 = nI ls.length ∧ ∀ i L, ls[i]? = some L → LnA g i L ∧ L.1 < 15 ∧ L.2.2.length ≤ 4
/-- whether the text is faulty, and where -/
def WR (g : LH) : Option Nat → Prop
  | none => g.1 259 1 = 0 ∧ g.1 259 2 = -1
  | some p => g.1 259 1 = 1 ∧ g.1 259 2 = nI p
theorem LnA.same {n : Nat} {L : px_L} (A : LnA h n L) (e : ∀ c, 260 ≤ c → c < 264 → g.1 c = h.1 c) : LnA g n L := by
  unfold LnA
  rw [e 260 (by decide) (by decide), e 261 (by decide) (by decide), e 262 (by decide) (by decide), e 263 (by decide) (by decide)]
  exact A
theorem LSt.same {ls : List px_L} (S : LSt h ls) (e0 : g.1 259 0 = h.1 259 0) (e : ∀ c, 260 ≤ c → c < 264 → g.1 c = h.1 c) : LSt g ls := ⟨e0.trans S.1, fun i L hi => ⟨(S.2 i L hi).1.same e, (S.2 i L hi).2⟩⟩
theorem px_get {ls : List px_L} {i : Nat} {L : px_L} (hi : ls[i]? = some L) : i < ls.length := by
  rcases Nat.lt_or_ge i ls.length with z | z
  · exact z
  · rw [List.getElem?_eq_none z] at hi
    cases hi
theorem LSt.add {ls : List px_L} {L : px_L} (S : LSt h ls) (K : KLn h g ls.length) (e0 : g.1 259 0 = nI (ls.length + 1)) (A : LnA g ls.length L) (hv : L.1 < 15) (hl : L.2.2.length ≤ 4) : LSt g (ls ++ [L]) := by
  refine ⟨by rw [List.length_append]; exact e0, fun i L2 hi => ?_⟩
  by_cases hlt : i < ls.length
  · rw [List.getElem?_append_left hlt] at hi
    obtain ⟨⟨a1, a2, a3⟩, a4, a5⟩ := S.2 i L2 hi
    refine ⟨⟨by rw [(K.1 i hlt).1]; exact a1, by rw [(K.1 i hlt).2]; exact a2, fun m N hm => ?_⟩, a4, a5⟩
    have m4 : m < 4 := by
      rcases Nat.lt_or_ge m L2.2.2.length with z | z
      · omega
      · rw [List.getElem?_eq_none z] at hm
        cases hm
    obtain ⟨k1, k2⟩ := K.2 (i * 4 + m) (by omega)
    rw [k1, k2]
    exact a3 m N hm
  · have h9 := px_get hi
    rw [List.length_append] at h9
    have ei : i = ls.length := by
      simp only [List.length_cons, List.length_nil] at h9
      omega
    subst ei
    rw [List.getElem?_append_right (Nat.le_refl _), Nat.sub_self] at hi
    cases hi
    exact ⟨A, hv, hl⟩
theorem prd_L {l : Nat} (hl : l ≤ 400) (e1 : h.1 251 1 = nI l) (ec : h.1 252 = c) {x2 : Int32} {Q : tf_Q} : ∀ (f i p : Nat) (acc : List px_L) (g : LH), i + f = 80 → acc.length = i → FS h g → LSt g acc → PA g c l p → g.1 259 1 = 0 → g.1 259 2 = -1 → (∀ g2, FS h g2 → LSt g2 (acc ++ (px_all c l x2 f p).1) → WR g2 (px_all c l x2 f p).2 → Q tf_z g2) → lx_X4_read (d + 6) (tf_Cd 298 (d + 6)) Q 30 [.ref 259, .ref 251, .int x2, .int 1, .int (nI i)] [] g := by
  have k72 : ∀ (i w : Nat) (acc : List px_L) (g : LH) (x3 : Int32), FS h g → LSt g acc → g.1 259 1 = 0 → g.1 259 9 = nI w → (∀ g2, FS h g2 → LSt g2 acc → WR g2 (some w) → Q tf_z g2) → lx_X4_read (d + 6) (tf_Cd 298 (d + 6)) Q 72 [.ref 259, .ref 251, .int x2, .int x3, .int (nI i)] [] g := by
    intro i w acc g x3 F S e1 e9 q
    refine go_X4_read_72 k251 (sx_bl (d := d + 5) _ _ _ (go_X4_read_81 k251 ?_))
    have B := bl_fl (h := g) (x1 := 1) (x2 := g.1 259 9)
    refine q _ (F.tr B.fs) (S.same (B.2.2 0 (by decide) (by decide)) (fun c h1 h2 => B.1 c (by omega))) ?_
    unfold bl
    rw [if_pos e1]
    exact ⟨by rw [w1_at (by decide), w1_eq], by rw [w1_eq]; exact e9⟩
  intro f
  induction f with
  | zero =>
    intro i p acc g hf ha F S P z1 z2 q
    rw [px_all] at q
    refine go_X4_read_30 k251 ⟨fun _ => go_X4_read_61 k251 ⟨fun z => absurd z (by decide), fun _ => ⟨fun c0 => ?_, fun c0 => ?_⟩⟩, fun z => absurd (show nI 80 ≤ nI i from nI_le (by omega) (by omega)) z⟩
    · rw [if_pos (P.2.1.symm.trans c0)] at q
      exact go_X4_read_81 k251 (q g F (by rw [List.append_nil]; exact S) ⟨z1, z2⟩)
    · rw [if_neg (fun z => c0 (P.2.1.trans z))] at q
      exact k72 i p acc g 1 F S z1 P.2.2.1 (fun g2 F2 S2 W2 => q g2 F2 (by rw [List.append_nil]; exact S2) W2)
  | succ f ih =>
    intro i p acc g hf ha F S P z1 z2 q
    rw [px_all] at q
    refine go_X4_read_30 k251 ⟨fun z => absurd (show nI 80 ≤ nI i from z) (nI_ge (by omega) (by omega)), fun _ => ⟨fun z => absurd z (by decide), fun _ => ⟨fun c0 => ?_, fun c0 => ?_⟩⟩⟩
    · rw [if_pos (P.2.1.symm.trans c0)] at q
      exact go_X4_read_61 k251 ⟨fun z => absurd z (by decide), fun _ => ⟨fun _ => go_X4_read_81 k251 (q g F (by rw [List.append_nil]; exact S) ⟨z1, z2⟩), fun z => absurd c0 z⟩⟩
    · rw [if_neg (fun z => c0 (P.2.1.trans z))] at q
      have n0 : g.1 259 0 = nI i := by rw [S.1, ha]
      refine sx_rl (d := d) hl (n := i) (by omega) (by rw [F.1 251 (by decide)]; exact e1) ((F.1 252 (by decide)).trans ec) n0 P x2 _ (fun v g2 r => ?_)
      · obtain ⟨F2, y1, y2, K, P2, rn, rs⟩ := r
        cases hL : (px_ln c l x2 p).1 with
        | none =>
          obtain ⟨rfl, n2⟩ := rn hL
          rw [hL] at q
          have S2 : LSt g2 acc := by
            refine ⟨by rw [n2, ha], fun j L hj => ?_⟩
            have hj2 := px_get hj
            obtain ⟨⟨a1, a2, a3⟩, a4, a5⟩ := S.2 j L hj
            refine ⟨⟨by rw [(K.1 j (by omega)).1]; exact a1, by rw [(K.1 j (by omega)).2]; exact a2, fun m N hm => ?_⟩, a4, a5⟩
            have m4 : m < 4 := by
              rcases Nat.lt_or_ge m L.2.2.length with z | z
              · omega
              · rw [List.getElem?_eq_none z] at hm
                cases hm
            obtain ⟨k1, k2⟩ := K.2 (j * 4 + m) (by omega)
            rw [k1, k2]
            exact a3 m N hm
          have k61 : lx_X4_read (d + 6) (tf_Cd 298 (d + 6)) Q 61 [.ref 259, .ref 251, .int x2, .int 0, .int (nI i + 1)] [] g2 := by
            rw [nI_1]
            exact go_X4_read_61 k251 ⟨fun _ => k72 (i + 1) _ acc g2 0 (F.tr F2) S2 (y1.trans z1) P2.2.2.1 (fun g3 F3 S3 W3 => q g3 F3 (by rw [List.append_nil]; exact S3) W3), fun z => absurd rfl z⟩
          exact go_X4_read_54 k251 (go_X4_read_30 k251 ⟨fun _ => k61, fun _ => ⟨fun _ => k61, fun z => absurd rfl z⟩⟩)
        | some L =>
          obtain ⟨rfl, n2, A, hv⟩ := rs L hL
          rw [hL] at q
          have S2 : LSt g2 (acc ++ [L]) := S.add (by rw [ha]; exact K) (by rw [ha]; exact n2) (by rw [ha]; exact A) hv (px_ln_len hL)
          refine go_X4_read_54 k251 ?_
          rw [nI_1]
          refine ih (i + 1) _ (acc ++ [L]) g2 (by omega) (by rw [List.length_append, ha]; rfl) (F.tr F2) S2 P2 (y1.trans z1) (y2.trans z2) (fun g3 F3 S3 W3 => q g3 F3 ?_ W3)
          rw [List.append_assoc] at S3
          exact S3
/-- read, told exactly -/
theorem sx_rd {l : Nat} (hl : l ≤ 400) (e1 : h.1 251 1 = nI l) (x2 : Int32) : tf_Sp (d + 7) 222 [.ref 259, .ref 251, .int x2] h (fun v g => v = tf_z ∧ FS h g ∧ LSt g (px_all (h.1 252) l x2 80 (px_p (h.1 252) l 0)).1 ∧ WR g (px_all (h.1 252) l x2 80 (px_p (h.1 252) l 0)).2) := by
  intro Q q
  refine en_X4_read k251 (go_X4_read_0 k251 ?_)
  show tf_Cd 298 _ _ _ (w1 (w1 (w1 (w1 h 259 0 0) 259 1 0) 259 2 (-1)) 259 10 0) _
  have F1 : FS h (w1 (w1 (w1 (w1 h 259 0 0) 259 1 0) 259 2 (-1)) 259 10 0) := (((FS.w (by decide)).tr (FS.w (by decide))).tr (FS.w (by decide))).tr (FS.w (by decide))
  have a1 : (w1 (w1 (w1 (w1 h 259 0 0) 259 1 0) 259 2 (-1)) 259 10 0).1 251 1 = nI l := by rw [w1_ne (by decide), w1_ne (by decide), w1_ne (by decide), w1_ne (by decide)]; exact e1
  have a2 : (w1 (w1 (w1 (w1 h 259 0 0) 259 1 0) 259 2 (-1)) 259 10 0).1 252 = h.1 252 := by rw [w1_ne (by decide), w1_ne (by decide), w1_ne (by decide), w1_ne (by decide)]
  have a0 : (w1 (w1 (w1 (w1 h 259 0 0) 259 1 0) 259 2 (-1)) 259 10 0).1 259 0 = nI 0 := by rw [w1_at (by decide), w1_at (by decide), w1_at (by decide), w1_eq]; rfl
  have b1 : (w1 (w1 (w1 (w1 h 259 0 0) 259 1 0) 259 2 (-1)) 259 10 0).1 259 1 = 0 := by rw [w1_at (by decide), w1_at (by decide), w1_eq]
  have b2 : (w1 (w1 (w1 (w1 h 259 0 0) 259 1 0) 259 2 (-1)) 259 10 0).1 259 2 = -1 := by rw [w1_at (by decide), w1_eq]
  have b10 : (w1 (w1 (w1 (w1 h 259 0 0) 259 1 0) 259 2 (-1)) 259 10 0).1 259 10 = nI 0 := w1_eq
  generalize w1 (w1 (w1 (w1 h 259 0 0) 259 1 0) 259 2 (-1)) 259 10 0 = g0 at F1 a1 a2 a0 b1 b2 b10 ⊢
  refine sx_ft (d := d + 4) (a := 0) hl a1 (Nat.zero_le _) b10 _ (fun _ g p => go_X4_read_25 k251 ?_)
  obtain ⟨-, F, T⟩ := p
  rw [a2] at T
  refine prd_L hl e1 rfl 80 0 (px_p (h.1 252) l 0) [] g (by omega) rfl (F1.tr F.fs) ⟨(F.2.2 0 (by decide)).trans a0, fun i L hi => by cases hi⟩ ⟨(px_p_le (Nat.zero_le _)).2, T⟩ ((F.2.2 1 (by decide)).trans b1) ((F.2.2 2 (by decide)).trans b2) (fun g2 F2 S2 W2 => q _ g2 ⟨rfl, F2, ?_, W2⟩)
  rw [List.nil_append] at S2
  exact S2
end SX4
