/-! ===== images; what holds of the class between calls ===== -/
section PI
variable {h : LH} {M d : Nat}
/-- a page: signs are signs, its length is no more than 400 -/
def PG (h : LH) (p : Nat) : Prop := (∀ i, i < 400 → fits .char (.int (h.1 (p + 1) i)) = true) ∧ ∃ l, l ≤ 400 ∧ h.1 p 1 = nI l
def PGS (h : LH) : Prop := ∀ i, i < 4 → PG h (251 + 2 * i)
theorem PG.same {g : LH} {p : Nat} (P : PG h p) (h0 : g.1 p = h.1 p) (h1 : g.1 (p + 1) = h.1 (p + 1)) : PG g p := ⟨fun i hi => by rw [h1]; exact P.1 i hi, by rw [h0]; exact P.2⟩
theorem PGS.same {g : LH} (P : PGS h) (L : ∀ e, 251 ≤ e → e < 259 → g.1 e = h.1 e) : PGS g := fun i hi => (P i hi).same (L _ (by omega) (by omega)) (L _ (by omega) (by omega))
theorem pg_K : ∀ i, i < 4 → tf_K (251 + 2 * i) = 1 ∧ tf_K (251 + 2 * i + 1) = 9 ∧ tf_N (251 + 2 * i + 1) = 400 := by decide +kernel
theorem pg_R : ∀ i, i < 3 → tf_R 268 i = 253 + 2 * i := by decide +kernel
def pg_f (g : LH) (a b : Nat) : LH := w1 (w1 (w1 g a 1 (g.1 b 1)) a 2 ((w1 g a 1 (g.1 b 1)).1 b 2)) a 3 ((w1 (w1 g a 1 (g.1 b 1)) a 2 ((w1 g a 1 (g.1 b 1)).1 b 2)).1 b 3)
def pg_cp (h : LH) (a b : Nat) : LH := pg_f (cpH h (b + 1) (a + 1) 400) a b
theorem sx_pcp {i j : Nat} (hi : i < 4) (hj : j < 4) (P : PGS h) : tf_Rt (d + 1) 156 [.ref (251 + 2 * i), .ref (251 + 2 * j)] h tf_z (pg_cp h (251 + 2 * i) (251 + 2 * j)) := by
  intro Q q
  obtain ⟨a1, a2, a3⟩ := pg_K i hi
  obtain ⟨b1, b2, b3⟩ := pg_K j hj
  have PJ := (P j hj).1
  refine en_X2_copyFrom (by decide) a1 b1 (go_X2_copyFrom_0 (by decide) a1 b1 ?_)
  have h0 : (0 : Int32).toNatClampNeg = 0 := rfl
  have h4 : (400 : Int32).toNatClampNeg = 400 := rfl
  rw [tf_Cd_ext (by decide)]
  refine ⟨rfl, ⟨⟨b2, a2, by omega, by omega, by decide, by decide, by decide, by rw [h0, h4, b3]; omega, by rw [h0, h4, a3]; omega⟩, fun k hk => ?_⟩, ?_⟩
  · rw [h0, Nat.zero_add]
    exact PJ k (by rw [h4] at hk; exact hk)
  · rw [h0, h4]
    exact go_X2_copyFrom_16 (by decide) a1 b1 q
theorem pg_f_lo {g : LH} {a b e : Nat} (he : e ≠ a) : (pg_f g a b).1 e = g.1 e := by
  unfold pg_f
  rw [w1_ne he, w1_ne he, w1_ne he]
theorem pg_cp_ok {i j : Nat} (hi : i < 4) (hj : j < 4) (P : PGS h) : PGS (pg_cp h (251 + 2 * i) (251 + 2 * j)) ∧ (∀ e, ¬ (251 ≤ e ∧ e < 259) → (pg_cp h (251 + 2 * i) (251 + 2 * j)).1 e = h.1 e) ∧ (pg_cp h (251 + 2 * i) (251 + 2 * j)).2 = h.2 := by
  refine ⟨fun k hk => ?_, fun e he => ?_, rfl⟩
  · by_cases e : k = i
    · subst e
      unfold pg_cp
      refine ⟨fun s hs => ?_, ?_⟩
      · rw [pg_f_lo (by omega), cpH_in hs]
        exact (P j hj).1 s hs
      · obtain ⟨l, hl, el⟩ := (P j hj).2
        refine ⟨l, hl, ?_⟩
        unfold pg_f
        rw [w1_at (by decide), w1_at (by decide), w1_eq, cpH_ne (by omega)]
        exact el
    · exact (P k hk).same (by unfold pg_cp; rw [pg_f_lo (by omega), cpH_ne (by omega)]) (by unfold pg_cp; rw [pg_f_lo (by omega), cpH_ne (by omega)])
  · unfold pg_cp
    rw [pg_f_lo (by omega), cpH_ne (by omega)]
/-- the class between calls -/
def CI (h : LH) (M : Nat) : Prop := XA h M ∧ PGS h
/-- nothing but the class has changed -/
def CF (h g : LH) : Prop := (∀ e, 270 ≤ e → g.1 e = h.1 e) ∧ g.2 = h.2
theorem CF.rf : CF h h := ⟨fun _ _ => rfl, rfl⟩
theorem CF.tr {g k : LH} (x : CF h g) (y : CF g k) : CF h k := ⟨fun e he => (y.1 e he).trans (x.1 e he), y.2.trans x.2⟩
theorem CI.mono {N : Nat} (X : CI h M) (hN : M ≤ N) : CI h N := ⟨X.1.mono hN, X.2⟩
theorem XA.hi {c i : Nat} {v : Int32} (X : XA h M) (hc : 244 ≤ c) : XA (w1 h c i v) M := by
  obtain ⟨c0, R⟩ := X.2.1
  exact X.look (fun e he => w1_ne (by omega)) (w1_ne (by omega)) (R.same (w1_ne (by omega)) (w1_ne (by omega)))
theorem pu_image (X : CI h M) (x : Int32) : ∃ (v : Int32) (g : LH), tf_Rt 11 211 [.ref 240, .int x] h (.int v) g ∧ CI g M ∧ CF h g := by
  by_cases c1 : x < 0
  · exact ⟨_, _, fun Q q => en_X8_image (by decide) (go_X8_image_0 (by decide) ⟨fun _ => go_X8_image_9 (by decide) q, fun z => absurd c1 z⟩), X, CF.rf⟩
  · by_cases c2 : x < 3
    · have hx : vp_in x 3 := vi_3 c1 (Int32.not_le.mpr c2)
      obtain ⟨j, hj, ej⟩ := vi_nI hx
      have hcl : x.toNatClampNeg = j := by rw [ej]; exact nI_clamp (by omega)
      obtain ⟨n, k, m, hm, H⟩ := X.1.net
      have s1 := sx_ncp (d := 8) (h := h) (b := 15 * (j + 13)) (c := 0) (tf_K15 (r := j + 13) (by omega)) (by decide +kernel) (by omega)
      have C := nt_cp_ok (h := h) (b := 15 * (j + 13)) (c := 0) (tf_K15 (r := j + 13) (by omega)) (by decide +kernel) (by omega)
      generalize nt_cp h (15 * (j + 13)) 0 = g1 at s1 C
      have X1 : XA g1 M := X.1.put (r0 := j + 13) (by omega) hm (C.nt (tf_K15 (r := j + 13) (by omega)) H) C.1
      have P1 : PGS g1 := X.2.same (fun e h1 h2 => C.1 e (by omega))
      have s2 := sx_pcp (d := 9) (i := j + 1) (j := 0) (by omega) (by omega) P1
      obtain ⟨P2, L2, E2⟩ := pg_cp_ok (i := j + 1) (j := 0) (by omega) (by omega) P1
      generalize pg_cp g1 (251 + 2 * (j + 1)) (251 + 2 * 0) = g2 at s2 P2 L2 E2
      have X2 : XA g2 M := by
        obtain ⟨c0, R⟩ := X1.2.1
        exact X1.look (fun e he => L2 e (by omega)) (L2 240 (by decide)) (R.same (L2 241 (by decide)) (L2 242 (by decide)))
      refine ⟨1, w1 g2 269 j (vp_nar .boolean 1), fun Q q => en_X8_image (by decide) (go_X8_image_0 (by decide) ⟨fun z => absurd z c1, fun _ => ⟨fun _ => go_X8_image_11 (by decide) ⟨hx, ?_⟩, fun z => absurd c2 z⟩⟩), ⟨X2.hi (by decide), P2.same (fun e h1 h2 => w1_ne (by omega))⟩, fun e he => by rw [w1_ne (by omega), L2 e (by omega), C.1 e (by omega)], by show g2.2 = h.2; rw [E2, C.2.1]⟩
      rw [hcl, tf_R267 j hj]
      refine s1 _ (go_X8_image_24 (by decide) ⟨hx, ?_⟩)
      rw [hcl, pg_R j hj]
      have e3 : 253 + 2 * j = 251 + 2 * (j + 1) := by omega
      rw [e3]
      refine s2 _ (go_X8_image_37 (by decide) ⟨hx, ?_⟩)
      rw [hcl]
      exact q
    · exact ⟨_, _, fun Q q => en_X8_image (by decide) (go_X8_image_0 (by decide) ⟨fun z => absurd z c1, fun _ => ⟨fun z => absurd z c2, fun _ => go_X8_image_9 (by decide) q⟩⟩), X, CF.rf⟩
theorem pu_again (X : CI h M) (x : Int32) : ∃ (v : Int32) (g : LH), tf_Rt 11 212 [.ref 240, .int x] h (.int v) g ∧ CI g M ∧ CF h g := by
  have s0 := sx_hasImg (h := h) (d := 9) x
  by_cases c : qv_img h x = true
  · have hx := img_in c
    obtain ⟨j, hj, ej⟩ := vi_nI hx
    have hcl : x.toNatClampNeg = j := by rw [ej]; exact nI_clamp (by omega)
    obtain ⟨n, k, m, hm, H⟩ := X.1.1 (j + 13) (by omega)
    have s1 := sx_ncp (d := 8) (h := h) (b := 0) (c := 15 * (j + 13)) (by decide +kernel) (tf_K15 (r := j + 13) (by omega)) (by omega)
    have C := nt_cp_ok (h := h) (b := 0) (c := 15 * (j + 13)) (by decide +kernel) (tf_K15 (r := j + 13) (by omega)) (by omega)
    generalize nt_cp h 0 (15 * (j + 13)) = g1 at s1 C
    have X1 : XA g1 M := X.1.put (r0 := 0) (by omega) hm (C.nt (by decide +kernel) H) (fun e he => C.1 e (by omega))
    have P1 : PGS g1 := X.2.same (fun e h1 h2 => C.1 e (by omega))
    have s2 := sx_pcp (d := 9) (i := 0) (j := j + 1) (by omega) (by omega) P1
    obtain ⟨P2, L2, E2⟩ := pg_cp_ok (i := 0) (j := j + 1) (by omega) (by omega) P1
    generalize pg_cp g1 (251 + 2 * 0) (251 + 2 * (j + 1)) = g2 at s2 P2 L2 E2
    have X2 : XA g2 M := by
      obtain ⟨c0, R⟩ := X1.2.1
      exact X1.look (fun e he => L2 e (by omega)) (L2 240 (by decide)) (R.same (L2 241 (by decide)) (L2 242 (by decide)))
    have X3 : XA (w1 g2 240 9 0) M := by
      obtain ⟨x1, ⟨c0, R⟩, x3, x4⟩ := X2
      exact ⟨x1.hi (by decide), ⟨c0, R.same (w1_ne (by decide)) (w1_ne (by decide))⟩, by rw [w1_at (by decide)]; exact x3, by rw [w1_eq]; exact vi_of (j := 0) (m := 11) (by omega) (by omega)⟩
    refine ⟨1, w1 g2 240 9 0, fun Q q => en_X8_again (by decide) (go_X8_again_0 (by decide) (s0 _ (go_X8_again_5 (by decide) ⟨fun z => ?_, fun _ => go_X8_again_10 (by decide) ⟨hx, ?_⟩⟩))), ⟨X3, P2.same (fun e h1 h2 => w1_ne (by omega))⟩, fun e he => by rw [w1_ne (by omega), L2 e (by omega), C.1 e (by omega)], by show g2.2 = h.2; rw [E2, C.2.1]⟩
    · rw [bI_0, c] at z
      exact absurd z (by decide)
    · rw [hcl, tf_R267 j hj]
      refine s1 _ (go_X8_again_23 (by decide) ⟨hx, ?_⟩)
      rw [hcl, pg_R j hj]
      have e3 : 253 + 2 * j = 251 + 2 * (j + 1) := by omega
      rw [e3]
      exact s2 _ (go_X8_again_36 (by decide) q)
  · exact ⟨_, _, fun Q q => en_X8_again (by decide) (go_X8_again_0 (by decide) (s0 _ (go_X8_again_5 (by decide) ⟨fun _ => q, fun z => absurd (by rw [bI_0]; exact Bool.eq_false_iff.mpr c) z⟩))), X, CF.rf⟩
-- the others in this form
theorem Fr.ci {g : LH} {N : Nat} (F : Fr h g) (X : XA g N) (P : PGS h) : CI g N ∧ CF h g := ⟨⟨X, P.same (fun e h1 h2 => F.1 e (by omega))⟩, fun e he => F.1 e (by omega), F.2⟩
theorem Fq.ci {g : LH} {N : Nat} (F : Fq h g) (X : XA g N) (P : PGS h) : CI g N ∧ CF h g := ⟨⟨X, P.same (fun e h1 h2 => F.1 e (by omega) (by omega))⟩, fun e he => F.1 e (by omega) (by omega), F.2⟩
theorem Ft.ci {g : LH} {N : Nat} (F : Ft h g) (X : XA g N) (P : PGS h) : CI g N ∧ CF h g := ⟨⟨X, P.same (fun e h1 h2 => F.1 e (by omega))⟩, fun e he => F.1 e (by omega), F.2⟩
/-- a call of the class: it returns a number -/
def CC (kn : Nat) (As : List Value) (h : LH) (N : Nat) : Prop := ∃ (v : Int32) (g : LH), tf_Rt 11 kn (.ref 240 :: As) h (.int v) g ∧ CI g N ∧ CF h g
theorem cc_r {kn N : Nat} {As : List Value} (P : PGS h) (s : ∃ (v : Int32) (g : LH), tf_Rt 11 kn (.ref 240 :: As) h (.int v) g ∧ XA g N ∧ Fr h g) : CC kn As h N := by
  obtain ⟨v, g, k1, k2, k3⟩ := s
  exact ⟨v, g, k1, k3.ci k2 P⟩
theorem cc_0 {kn : Nat} {As : List Value} {v : Int32} (X : CI h M) (s : tf_Rt 11 kn (.ref 240 :: As) h (.int v) h) : CC kn As h M := ⟨v, h, s, X, CF.rf⟩
end PI
