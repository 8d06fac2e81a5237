/-! ===== the class's grid: what changes it ===== -/
abbrev w1 (h : LH) (c i : Nat) (v : Int32) : LH := (tf_up h.1 c i v, h.2)
theorem w1_ne {h : LH} {c i e : Nat} {v : Int32} (he : e ≠ c) : (w1 h c i v).1 e = h.1 e := by simp [w1, tf_up, he]
theorem w1_eq {h : LH} {c i : Nat} {v : Int32} : (w1 h c i v).1 c i = v := by simp [w1, tf_up, upd]
theorem w1_at {h : LH} {c i j : Nat} {v : Int32} (hj : j ≠ i) : (w1 h c i v).1 c j = h.1 c j := by simp [w1, tf_up, upd, hj]
theorem w1_set {h : LH} {c i e j : Nat} {v : Int32} {P : Int32 → Prop} (hv : P v) (ho : P (h.1 e j)) : P ((w1 h c i v).1 e j) := by
  by_cases he : e = c
  · subst he
    by_cases hj : j = i
    · subst hj
      rw [w1_eq]
      exact hv
    · rw [w1_at hj]
      exact ho
  · rw [w1_ne he]
    exact ho
def nt_ueok (h : LH) (b : Nat) : Prop := ∀ p, p < 7 → vp_in (h.1 (b + 9) p) 21
/-- a grid's numbers are in their ranges -/
def NO (h : LH) (b n k : Nat) : Prop := tf_K b = 0 ∧ (0 ≤ n ∧ n ≤ 7 ∧ k ≤ 14) ∧ h.1 b 0 = nI n ∧ h.1 b 1 = nI k ∧ nt_upok h b ∧ nt_ueok h b ∧ (∀ a, a < 14 → vp_in (h.1 (b + 2) a) 7) ∧ (∀ a, a < 14 → vp_in (h.1 (b + 3) a) 7)
theorem NO.keep {h g : LH} {b n k : Nat} (H : NO h b n k) (e0 : g.1 b = h.1 b) (e2 : ∀ a, a < 14 → g.1 (b + 2) a = h.1 (b + 2) a) (e3 : ∀ a, a < 14 → g.1 (b + 3) a = h.1 (b + 3) a) (e8 : g.1 (b + 8) = h.1 (b + 8)) (e9 : g.1 (b + 9) = h.1 (b + 9)) : NO g b n k := by
  obtain ⟨K, hn, h0, h1, hu, hue, ht, hh⟩ := H
  refine ⟨K, hn, by rw [e0]; exact h0, by rw [e0]; exact h1, fun p hp => ?_, fun p hp => ?_, fun a ha => ?_, fun a ha => ?_⟩
  · rw [e8]
    exact hu p hp
  · rw [e9]
    exact hue p hp
  · rw [e2 a ha]
    exact ht a ha
  · rw [e3 a ha]
    exact hh a ha
theorem NO.w {h : LH} {b n k c i : Nat} {v : Int32} (H : NO h b n k) (h0 : c ≠ b) (h2 : c = b + 2 → 14 ≤ i ∨ vp_in v 7) (h3 : c = b + 3 → 14 ≤ i ∨ vp_in v 7) (h8 : c = b + 8 → vp_in v 8) (h9 : c = b + 9 → vp_in v 21) : NO (w1 h c i v) b n k := by
  obtain ⟨K, hn, e0, e1, hu, hue, ht, hh⟩ := H
  refine ⟨K, hn, by rw [w1_ne (Ne.symm h0)]; exact e0, by rw [w1_ne (Ne.symm h0)]; exact e1, fun p hp => ?_, fun p hp => ?_, fun a ha => ?_, fun a ha => ?_⟩
  · by_cases hc : c = b + 8
    · exact w1_set (P := fun z => vp_in z 8) (h8 hc) (hu p hp)
    · rw [w1_ne (Ne.symm hc)]
      exact hu p hp
  · by_cases hc : c = b + 9
    · exact w1_set (P := fun z => vp_in z 21) (h9 hc) (hue p hp)
    · rw [w1_ne (Ne.symm hc)]
      exact hue p hp
  · by_cases hc : c = b + 2
    · rcases h2 hc with q | q
      · rw [← hc, w1_at (by omega), hc]
        exact ht a ha
      · exact w1_set (P := fun z => vp_in z 7) q (ht a ha)
    · rw [w1_ne (Ne.symm hc)]
      exact ht a ha
  · by_cases hc : c = b + 3
    · rcases h3 hc with q | q
      · rw [← hc, w1_at (by omega), hc]
        exact hh a ha
      · exact w1_set (P := fun z => vp_in z 7) q (hh a ha)
    · rw [w1_ne (Ne.symm hc)]
      exact hh a ha
theorem NO.ends {h : LH} {b n k : Nat} (H : NO h b n k) {a : Nat} (ha : a < 14) : nt_ends h b (nI a) := by
  obtain ⟨-, -, -, -, -, -, ht, hh⟩ := H
  refine ⟨vi_of (by omega) (by omega), ?_, ?_⟩
  · rw [nI_clamp (by omega)]
    exact vi_mono (ht a ha) (by omega)
  · rw [nI_clamp (by omega)]
    exact vi_mono (hh a ha) (by omega)
section NT3
variable {h : LH} {b d : Nat}
/-! prices -/
def nt_sum (h : LH) (b : Nat) : Nat → Int32 → Int32 → Int32
  | 0, _, s => s
  | f + 1, a, s => if a = 7 then s else nt_sum h b f (h.1 (b + 8) a.toNatClampNeg) (s + (if h.1 (b + 2) (h.1 (b + 9) a.toNatClampNeg).toNatClampNeg = a then -(h.1 (b + 5) (h.1 (b + 9) a.toNatClampNeg).toNatClampNeg) else h.1 (b + 5) (h.1 (b + 9) a.toNatClampNeg).toNatClampNeg))
def nt_pl (b n : Nat) : Nat → Nat → LH → LH
  | 0, _, h => h
  | f + 1, p, h => nt_pl b n f (p + 1) (w1 h (b + 10) p (nt_sum h b n (nI p) 0))
def nt_prs (h : LH) (b n : Nat) : LH := nt_pl b n n 0 (w1 h (b + 10) 7 0)
theorem NO.ue {h : LH} {b n k : Nat} (H : NO h b n k) {a : Int32} (ha : vp_in a 8) (h7 : ¬ a = 7) : vp_in (h.1 (b + 9) a.toNatClampNeg) 21 := by
  obtain ⟨j, hj, e⟩ := vi_nI (vi_7 ha h7)
  subst e
  rw [nI_clamp (by omega)]
  exact H.2.2.2.2.2.1 j hj
theorem sx_sumL {n k : Nat} (H : NO h b n k) {x1 : Int32} {Q : tf_Q} : ∀ (f i : Nat) (a s : Int32) (x5 : Value), i + f = n → vp_in a 8 → (∀ (a2 : Int32) (i2 : Nat) (x6 : Value), lx_X1_setPrices 298 (tf_Cd 298 d) Q 93 [.ref b, .int x1, .int (nt_sum h b f a s), .int a2, .int (nI i2), x6] [] h) → lx_X1_setPrices 298 (tf_Cd 298 d) Q 25 [.ref b, .int x1, .int s, .int a, .int (nI i), x5] [] h
  | 0, i, a, s, x5, hi, ha, q => by
    have K := H.1
    refine go_X1_setPrices_25 (by decide) K ⟨fun _ => q a i x5, fun c => absurd ?_ c⟩
    rw [H.2.2.1]
    have := H.2.1
    exact nI_le (by omega) (by omega)
  | f + 1, i, a, s, x5, hi, ha, q => by
    have K := H.1
    have hb := H.2.1
    refine go_X1_setPrices_25 (by decide) K ⟨fun c => ?_, fun _ => ⟨fun c => ?_, fun c => ⟨vi_7 ha c, H.ue ha c, fun c2 => ⟨H.ue ha c, go_X1_setPrices_78 (by decide) K ⟨vi_7 ha c, ?_⟩⟩, fun c2 => go_X1_setPrices_71 (by decide) K ⟨H.ue ha c, go_X1_setPrices_78 (by decide) K ⟨vi_7 ha c, ?_⟩⟩⟩⟩⟩
    · rw [H.2.2.1] at c
      exact absurd c (nI_ge (by omega) (by omega))
    · have e : nt_sum h b (f + 1) a s = s := by rw [nt_sum, if_pos c]
      rw [e] at q
      exact q a i x5
    · rw [nI_1]
      refine sx_sumL H f (i + 1) _ _ _ (by omega) (H.2.2.2.2.1.at ha c) ?_
      rw [nt_sum, if_neg c, if_pos c2] at q
      exact q
    · rw [nI_1]
      refine sx_sumL H f (i + 1) _ _ _ (by omega) (H.2.2.2.2.1.at ha c) ?_
      rw [nt_sum, if_neg c, if_neg c2] at q
      exact q
theorem sx_plL {n k : Nat} {Q : tf_Q} : ∀ (f p : Nat) (h : LH) (x2 x3 x4 x5 : Value), NO h b n k → p + f = n → Q tf_z (nt_pl b n f p h) → lx_X1_setPrices 298 (tf_Cd 298 d) Q 10 [.ref b, .int (nI p), x2, x3, x4, x5] [] h
  | 0, p, h, x2, x3, x4, x5, H, hp, q => by
    have hb := H.2.1
    refine go_X1_setPrices_10 (by decide) H.1 ⟨fun _ => go_X1_setPrices_106 (by decide) H.1 q, fun c => absurd ?_ c⟩
    rw [H.2.2.1]
    exact nI_le (by omega) (by omega)
  | f + 1, p, h, x2, x3, x4, x5, H, hp, q => by
    have hb := H.2.1
    refine go_X1_setPrices_10 (by decide) H.1 ⟨fun c => ?_, fun _ => sx_sumL H n 0 (nI p) 0 _ (by omega) (vi_of (by omega) (by omega)) (fun a2 i2 x6 => go_X1_setPrices_93 (by decide) H.1 ⟨vi_of (by omega) (by omega), ?_⟩)⟩
    · rw [H.2.2.1] at c
      exact absurd c (nI_ge (by omega) (by omega))
    · rw [nI_1, nI_clamp (by omega)]
      exact sx_plL f (p + 1) (w1 h (b + 10) p _) _ _ _ _ (H.w (by omega) (by omega) (by omega) (by omega) (by omega)) (by omega) q
theorem sx_prs {n k : Nat} (H : NO h b n k) : tf_Rt (d + 1) 130 [.ref b] h tf_z (nt_prs h b n) := by
  intro Q q
  refine en_X1_setPrices (by decide) H.1 (go_X1_setPrices_0 (by decide) H.1 ?_)
  exact sx_plL n 0 (w1 h (b + 10) 7 0) _ _ _ _ (H.w (by omega) (by omega) (by omega) (by omega) (by omega)) (by omega) q
/-! a point hangs by its loan -/
def nt_rest (h : LH) (b : Nat) (p : Int32) : Nat → Nat → Int32 → Int32
  | 0, _, s => s
  | f + 1, a, s => nt_rest h b p f (a + 1) (if h.1 (b + 3) a = p then s + h.1 (b + 6) a else if h.1 (b + 2) a = p then s - h.1 (b + 6) a else s)
def nt_abs (x : Int32) : Int32 := if 0 ≤ x then x else 0 - x
def nt_h2 (h : LH) (b p : Nat) (r : Int32) : LH := w1 (w1 (w1 (w1 (w1 (w1 (w1 h (b + 2) (14 + p) (if r < 0 then 7 else nI p)) (b + 3) (14 + p) (if r < 0 then nI p else 7)) (b + 5) (14 + p) 10000) (b + 6) (14 + p) (nt_abs r)) (b + 7) (14 + p) 2) (b + 8) p 7) (b + 9) p (nI (14 + p))
def nt_h1 (h : LH) (b k p : Nat) : LH := nt_h2 h b p (nt_rest h b (nI p) k 0 (h.1 (b + 1) p))
theorem nt_KN {b : Nat} (K : tf_K b = 0) : b < 240 ∧ (tf_K (b + 2) = 8 ∧ tf_N (b + 2) = 21) ∧ (tf_K (b + 3) = 8 ∧ tf_N (b + 3) = 21) ∧ (tf_K (b + 6) = 8 ∧ tf_N (b + 6) = 21) ∧ (tf_K (b + 7) = 8 ∧ tf_N (b + 7) = 21) := by
  have hb : b < 300 := by
    rcases Nat.lt_or_ge b 300 with h | h
    · exact h
    · exfalso
      unfold tf_K at K
      rw [List.getD_eq_getElem?_getD, List.getElem?_eq_none (Nat.le_trans (by decide +kernel) h)] at K
      exact absurd K (by decide)
  exact (by decide +kernel : ∀ b, b < 300 → tf_K b = 0 → b < 240 ∧ (tf_K (b + 2) = 8 ∧ tf_N (b + 2) = 21) ∧ (tf_K (b + 3) = 8 ∧ tf_N (b + 3) = 21) ∧ (tf_K (b + 6) = 8 ∧ tf_N (b + 6) = 21) ∧ (tf_K (b + 7) = 8 ∧ tf_N (b + 7) = 21)) b hb K
theorem sx_restL {n k : Nat} (H : NO h b n k) {p : Int32} {Q : tf_Q} : ∀ (f a : Nat) (s : Int32), a + f = k → (∀ x3 : Int32, lx_X1_hangByLoan 298 (tf_Cd 298 d) Q 64 [.ref b, .int p, .int (nt_rest h b p f a s), .int x3] [] h) → lx_X1_hangByLoan 298 (tf_Cd 298 d) Q 9 [.ref b, .int p, .int s, .int (nI a)] [] h
  | 0, a, s, ha, q => by
    have hb := H.2.1
    refine go_X1_hangByLoan_9 (by decide) H.1 ⟨fun _ => q _, fun c => absurd ?_ c⟩
    rw [H.2.2.2.1]
    exact nI_le (by omega) (by omega)
  | f + 1, a, s, ha, q => by
    have hb := H.2.1
    have hi : vp_in (nI a) 21 := vi_of (by omega) (by omega)
    have hcl : (nI a).toNatClampNeg = a := nI_clamp (by omega)
    have k58 : ∀ s2 : Int32, (∀ x3 : Int32, lx_X1_hangByLoan 298 (tf_Cd 298 d) Q 64 [.ref b, .int p, .int (nt_rest h b p f (a + 1) s2), .int x3] [] h) → lx_X1_hangByLoan 298 (tf_Cd 298 d) Q 58 [.ref b, .int p, .int s2, .int (nI a)] [] h := fun s2 q2 => go_X1_hangByLoan_58 (by decide) H.1 (by rw [nI_1]; exact sx_restL H f (a + 1) s2 (by omega) q2)
    refine go_X1_hangByLoan_9 (by decide) H.1 ⟨fun c => ?_, fun _ => ⟨hi, fun c => ⟨hi, ?_⟩, fun c => go_X1_hangByLoan_39 (by decide) H.1 ⟨hi, fun c2 => ⟨hi, ?_⟩, fun c2 => ?_⟩⟩⟩
    · rw [H.2.2.2.1] at c
      exact absurd c (nI_ge (by omega) (by omega))
    · rw [hcl] at c ⊢
      refine k58 _ ?_
      rw [nt_rest, if_pos c] at q
      exact q
    · rw [hcl] at c c2 ⊢
      refine k58 _ ?_
      rw [nt_rest, if_neg c, if_pos c2] at q
      exact q
    · rw [hcl] at c c2
      refine k58 _ ?_
      rw [nt_rest, if_neg c, if_neg c2] at q
      exact q
theorem sx_h2 (K : tf_K b = 0) {p : Nat} (hp : p < 7) {r x3 : Int32} {Q : tf_Q} (q : Q tf_z (nt_h2 h b p r)) : lx_X1_hangByLoan 298 (tf_Cd 298 d) Q 64 [.ref b, .int (nI p), .int r, .int x3] [] h := by
  obtain ⟨hb, ⟨K2, N2⟩, ⟨K3, N3⟩, ⟨K6, N6⟩, K7, N7⟩ := nt_KN K
  have hi : vp_in (nI (14 + p)) 21 := vi_of (by omega) (by omega)
  have hi7 : vp_in (nI p) 7 := vi_of (by omega) (by omega)
  have c14 : (nI (14 + p)).toNatClampNeg = 14 + p := nI_clamp (by omega)
  have cp : (nI p).toNatClampNeg = p := nI_clamp (by omega)
  have k100 : ∀ (g : LH) (v : Int32), Q tf_z (w1 (w1 (w1 (w1 (w1 (w1 g (b + 3) (14 + p) v) (b + 5) (14 + p) 10000) (b + 6) (14 + p) (nt_abs r)) (b + 7) (14 + p) 2) (b + 8) p 7) (b + 9) p (nI (14 + p))) → lx_X1_hangByLoan 298 (tf_Cd 298 d) Q 100 [.ref b, .int (nI p), .int r, .int (nI (14 + p))] [.int v, .int (nI (14 + p)), .ref (b + 3)] g := by
    intro g v q2
    refine go_X1_hangByLoan_100 (by decide) K K3 N3 (by omega) ⟨hi, hi, ?_⟩
    rw [tf_Cd_ext (by decide)]
    refine ⟨rfl, go_X1_hangByLoan_119 (by decide) K K6 N6 (by omega) ⟨hi, hi, hi7, hi7, ?_⟩⟩
    rw [c14, cp]
    exact q2
  have k84 : ∀ (v w : Int32), (r < 0 → w = nI p) → (¬ r < 0 → w = 7) → Q tf_z (w1 (w1 (w1 (w1 (w1 (w1 (w1 h (b + 2) (14 + p) v) (b + 3) (14 + p) w) (b + 5) (14 + p) 10000) (b + 6) (14 + p) (nt_abs r)) (b + 7) (14 + p) 2) (b + 8) p 7) (b + 9) p (nI (14 + p))) → lx_X1_hangByLoan 298 (tf_Cd 298 d) Q 84 [.ref b, .int (nI p), .int r, .int (nI (14 + p))] [.int v, .int (nI (14 + p)), .ref (b + 2)] h := by
    intro v w hw1 hw2 q2
    refine go_X1_hangByLoan_84 (by decide) K K2 N2 (by omega) ⟨hi, fun c => go_X1_hangByLoan_99 (by decide) K K3 N3 (by omega) ?_, fun c => ?_⟩
    · rw [c14]
      rw [hw1 c] at q2
      exact k100 _ _ q2
    · rw [c14]
      rw [hw2 c] at q2
      exact k100 _ _ q2
  unfold nt_h2 at q
  refine go_X1_hangByLoan_64 (by decide) K ⟨fun c => ?_, fun c => ?_⟩
  · rw [nI_14]
    rw [if_pos c, if_pos c] at q
    exact go_X1_hangByLoan_82 (by decide) K K2 N2 (by omega) (k84 7 (nI p) (fun _ => rfl) (fun z => absurd c z) q)
  · rw [nI_14]
    rw [if_neg c, if_neg c] at q
    exact k84 (nI p) 7 (fun z => absurd z c) (fun _ => rfl) q
theorem sx_h1 {n k : Nat} (H : NO h b n k) {p : Nat} (hp : p < 7) : tf_Rt (d + 1) 129 [.ref b, .int (nI p)] h tf_z (nt_h1 h b k p) := by
  intro Q q
  refine en_X1_hangByLoan (by decide) H.1 (go_X1_hangByLoan_0 (by decide) H.1 ⟨vi_of hp (by omega), ?_⟩)
  rw [nI_clamp (by omega)]
  exact sx_restL H k 0 _ (by omega) (fun x3 => sx_h2 H.1 hp q)
theorem NO.h1 {n k p : Nat} (H : NO h b n k) (hp : p < 7) : NO (nt_h1 h b k p) b n k := by
  unfold nt_h1 nt_h2
  have v7 : vp_in (7 : Int32) 8 := vi_of (j := 7) (m := 8) (by omega) (by omega)
  have v21 : vp_in (nI (14 + p)) 21 := vi_of (by omega) (by omega)
  refine NO.w (NO.w (NO.w (NO.w (NO.w (NO.w (NO.w H (by omega) ?_ ?_ ?_ ?_) (by omega) ?_ ?_ ?_ ?_) (by omega) ?_ ?_ ?_ ?_) (by omega) ?_ ?_ ?_ ?_) (by omega) ?_ ?_ ?_ ?_) (by omega) ?_ ?_ ?_ ?_) (by omega) ?_ ?_ ?_ ?_
  all_goals first | (intro e; exfalso; omega) | (intro _; exact Or.inl (by omega)) | (intro _; exact v7) | (intro _; exact v21)
end NT3
