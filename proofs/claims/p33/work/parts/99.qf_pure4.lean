/-! ===== lay finds the same at fault on both sides ===== -/
theorem rf_06 {x : Int32} (h : rf_in x 0 6 = true) : ∃ p, p < 7 ∧ x = nI p := by
  obtain ⟨m, -, hm, em⟩ := rf_in_t (l := 0) (u := 6) (by omega) h (by omega)
  exact ⟨m, by omega, em⟩
theorem ab_m1 {n b b1 b2 : Nat} {n0 n1 s : Int32} (h1 : b1 < 1000) (h2 : b2 < 1000) (e : px_ab n b n0 n1 b1 b2 s = -1) : rf_in n0 0 6 = true ∧ rf_in n1 0 6 = true ∧ s = -1 := by
  have s1 : s = -1 := by
    by_cases z : s = -1
    · exact z
    · rw [ab_k z] at e
      exact absurd e z
  unfold px_ab at e
  split at e
  · exact absurd e (bd_m1 h2)
  · obtain ⟨r1, e2⟩ := bt_m1 h2 e
    obtain ⟨r0, -⟩ := bt_m1 h1 e2
    exact ⟨r0, r1, s1⟩
/-- one line: points that are not there -/
theorem ps_1 {l m b e : Nat} {L : px_L} {s : px_S} (hl : l ≤ 400) (K : LnOK 0 l L) (m2 : 1 ≤ m) (m7 : m ≤ 7) (A : px_ac L.2.2 b e) (F : fav s.fa b) (hb : (px_sl L.1 L.2.1 L.2.2 s).bad = -1) : (if px_ia L = true then px_wt L 1 0 (nI m - 1) 3 (px_wt L 0 0 (nI m - 1) 3 (f3 (px_mi s.fa (7 - m) m (-1)))) else if L.1 = 3 ∨ L.1 = 4 then px_wt L 0 0 (nI m - 1) 3 (f3 (px_mi s.fa (7 - m) m (-1))) else f3 (px_mi s.fa (7 - m) m (-1))) = f3 (px_mi (px_sl L.1 L.2.1 L.2.2 s).fa (7 - m) m (-1)) ∧ fav (px_sl L.1 L.2.1 L.2.2 s).fa e := by
  have ok := K.2.2.2.2
  rcases px_gvA K with ⟨p, N, rfl⟩ | ⟨v, p, N0, N1, N2, N3, y, rfl⟩ | ⟨v, p, N0, N1, y, rfl⟩ | ⟨p, N, rfl⟩ | ⟨v, p, y, rfl⟩
  · rw [if_neg (px_ia_n (by omega) (by omega)), if_neg (show ¬ (0 = 3 ∨ 0 = 4) by omega), px_sl_0]
    obtain ⟨a1, a2⟩ := A
    exact ⟨rfl, F.mono (Nat.le_trans a1 (Nat.le_trans (Nat.le_succ _) a2))⟩
  · have o0 := ok N0 (List.mem_cons_self ..)
    have o1 := ok N1 (List.mem_cons_of_mem _ (List.mem_cons_self ..))
    rw [px_sl_1 y] at hb ⊢
    have hb : px_ab s.n p N0.1 N1.1 N0.2 N1.2 s.bad = -1 := hb
    obtain ⟨r0, r1, -⟩ := ab_m1 (by omega) (by omega) hb
    obtain ⟨p0, hp0, ep0⟩ := rf_06 r0
    obtain ⟨p1, hp1, ep1⟩ := rf_06 r1
    have ia : px_ia (v, p, [N0, N1, N2, N3]) = true := by
      unfold px_ia
      rcases y with rfl | rfl <;> rfl
    obtain ⟨a0, a1, a2, a3, a4⟩ := A
    have s0 := ms (L := (v, p, [N0, N1, N2, N3])) (i := 0) (m := m) (p := p0) (q := N0.2) (fa := s.fa) ep0 rfl hp0 m2 m7 (by omega) (F.mono a0)
    have s1 := ms (L := (v, p, [N0, N1, N2, N3])) (i := 1) (m := m) (p := p1) (q := N1.2) (fa := px_fa s.fa (nI p0) N0.2) ep1 rfl hp1 m2 m7 (by omega) (s0.2.mono a1)
    have a4' : N3.2 + 1 ≤ e := a4
    rw [if_pos ia, s0.1, s1.1]
    show f3 (px_mi (px_fa (px_fa s.fa (nI p0) N0.2) (nI p1) N1.2) (7 - m) m (-1)) = f3 (px_mi (px_fa (px_fa s.fa N0.1 N0.2) N1.1 N1.2) (7 - m) m (-1)) ∧ fav (px_fa (px_fa s.fa N0.1 N0.2) N1.1 N1.2) e
    rw [ep0, ep1]
    exact ⟨rfl, s1.2.mono (by omega)⟩
  · have o0 := ok N0 (List.mem_cons_self ..)
    rw [px_sl_3 y] at hb ⊢
    have hb : px_bt N0.1 0 6 N0.2 s.bad = -1 := hb
    obtain ⟨r0, -⟩ := bt_m1 (by omega) hb
    obtain ⟨p0, hp0, ep0⟩ := rf_06 r0
    obtain ⟨a0, a1, a2⟩ := A
    have a2' : N1.2 + 1 ≤ e := a2
    have s0 := ms (L := (v, p, [N0, N1])) (i := 0) (m := m) (p := p0) (q := N0.2) (fa := s.fa) ep0 rfl hp0 m2 m7 (by omega) (F.mono a0)
    rw [if_neg (px_ia_n (by omega) (by omega)), if_pos y, s0.1]
    show f3 (px_mi (px_fa s.fa (nI p0) N0.2) (7 - m) m (-1)) = f3 (px_mi (px_fa s.fa N0.1 N0.2) (7 - m) m (-1)) ∧ fav (px_fa s.fa N0.1 N0.2) e
    rw [ep0]
    exact ⟨rfl, s0.2.mono (by omega)⟩
  · rw [if_neg (px_ia_n (by omega) (by omega)), if_neg (show ¬ (5 = 3 ∨ 5 = 4) by omega), px_sl_5]
    obtain ⟨a1, a2⟩ := A
    exact ⟨rfl, F.mono (Nat.le_trans a1 (Nat.le_trans (Nat.le_succ _) a2))⟩
  · rw [if_neg (px_ia_n (by omega) (by omega)), if_neg (show ¬ (v = 3 ∨ v = 4) by omega), px_sl_6 y]
    exact ⟨rfl, F.mono A⟩
theorem ps_eq {l m : Nat} (hl : l ≤ 400) (m2 : 1 ≤ m) (m7 : m ≤ 7) : ∀ (ls : List px_L) (b : Nat) (s : px_S), (∀ L, L ∈ ls → LnOK 0 l L) → px_al ls b → fav s.fa b → (px_sS ls s).bad = -1 → px_ps (nI m - 1) ls (f3 (px_mi s.fa (7 - m) m (-1))) = f3 (px_mi (px_sS ls s).fa (7 - m) m (-1))
  | [], b, s, _, _, _, _ => rfl
  | L :: r, b, s, K, A, F, hb => by
    have K1 := K L (List.mem_cons_self ..)
    have K2 : ∀ M, M ∈ r → LnOK 0 l M := fun M hM => K M (List.mem_cons_of_mem _ hM)
    obtain ⟨e, A1, A2⟩ := A
    obtain ⟨i1, i2⟩ := ps_1 hl K1 m2 m7 A1 F (sS_m1 hb)
    rw [px_ps, i1, px_sS]
    rw [px_sS] at hb
    exact ps_eq hl m2 m7 r e _ K2 A2 i2 hb
theorem pt_eq {l : Nat} (hl : l ≤ 400) : ∀ (ls : List px_L) (s : px_S), (∀ L, L ∈ ls → LnOK 0 l L) → (px_sS ls s).bad = -1 → (∃ m, 2 ≤ m ∧ m ≤ 7 ∧ s.pts = nI m) → px_pt ls s.pts = (px_sS ls s).pts ∧ ∃ m, 2 ≤ m ∧ m ≤ 7 ∧ (px_sS ls s).pts = nI m
  | [], s, _, _, h => ⟨rfl, h⟩
  | L :: r, s, K, hb, h => by
    have K1 := K L (List.mem_cons_self ..)
    have ok := K1.2.2.2.2
    have K2 : ∀ M, M ∈ r → LnOK 0 l M := fun M hM => K M (List.mem_cons_of_mem _ hM)
    have b := sS_m1 hb
    have key : (if L.1 = 0 then (px_no L 0).1 else s.pts) = (px_sl L.1 L.2.1 L.2.2 s).pts ∧ ∃ m, 2 ≤ m ∧ m ≤ 7 ∧ (px_sl L.1 L.2.1 L.2.2 s).pts = nI m := by
      rcases px_gvA K1 with ⟨p, N, rfl⟩ | ⟨v, p, N0, N1, N2, N3, y, rfl⟩ | ⟨v, p, N0, N1, y, rfl⟩ | ⟨p, N, rfl⟩ | ⟨v, p, y, rfl⟩
      · have o0 := ok N (List.mem_cons_self ..)
        rw [px_sl_0] at b
        have b : px_bt N.1 2 7 N.2 s.bad = -1 := b
        obtain ⟨r0, -⟩ := bt_m1 (by omega) b
        rw [if_pos rfl, px_sl_0]
        show N.1 = px_rd N.1 2 7 ∧ ∃ m, 2 ≤ m ∧ m ≤ 7 ∧ px_rd N.1 2 7 = nI m
        rw [px_rd_in r0]
        obtain ⟨m, h1, h2, em⟩ := rf_in_t (l := 2) (u := 7) (by omega) r0 (by omega)
        exact ⟨rfl, m, h1, h2, em⟩
      · rw [if_neg (show ¬ v = 0 by omega), px_sl_1 y]
        exact ⟨rfl, h⟩
      · rw [if_neg (show ¬ v = 0 by omega), px_sl_3 y]
        exact ⟨rfl, h⟩
      · rw [if_neg (show ¬ 5 = 0 by omega), px_sl_5]
        exact ⟨rfl, h⟩
      · rw [if_neg (show ¬ v = 0 by omega), px_sl_6 y]
        exact ⟨rfl, h⟩
    rw [px_pt, key.1, px_sS]
    rw [px_sS] at hb
    exact pt_eq hl r _ K2 hb key.2
theorem su_eq {l : Nat} (hl : l ≤ 400) : ∀ (ls : List px_L) (s : px_S) (f : Nat → Int32), (∀ L, L ∈ ls → LnOK 0 l L) → (px_sS ls s).bad = -1 → (∀ i, i < 7 → f i = s.su i) → ∀ i, i < 7 → px_su ls f i = (px_sS ls s).su i
  | [], s, f, _, _, h => h
  | L :: r, s, f, K, hb, h => by
    have K1 := K L (List.mem_cons_self ..)
    have ok := K1.2.2.2.2
    have K2 : ∀ M, M ∈ r → LnOK 0 l M := fun M hM => K M (List.mem_cons_of_mem _ hM)
    have b := sS_m1 hb
    rw [px_su, px_sS]
    rw [px_sS] at hb
    refine su_eq hl r _ _ K2 hb (fun i hi => ?_)
    rcases px_gvA K1 with ⟨p, N, rfl⟩ | ⟨v, p, N0, N1, N2, N3, y, rfl⟩ | ⟨v, p, N0, N1, y, rfl⟩ | ⟨p, N, rfl⟩ | ⟨v, p, y, rfl⟩
    · rw [if_neg (show ¬ 0 = 3 by omega), if_neg (show ¬ 0 = 4 by omega), px_sl_0]
      exact h i hi
    · rw [if_neg (show ¬ v = 3 by omega), if_neg (show ¬ v = 4 by omega), px_sl_1 y]
      exact h i hi
    · have o0 := ok N0 (List.mem_cons_self ..)
      rw [px_sl_3 y] at b ⊢
      have b : px_bt N0.1 0 6 N0.2 s.bad = -1 := b
      obtain ⟨r0, -⟩ := bt_m1 (by omega) b
      show _ = px_pw s.su (px_rd N0.1 0 6).toNatClampNeg (if v = 3 then N1.1 else -N1.1) i
      rw [px_rd_in r0]
      rcases y with rfl | rfl
      · rw [if_pos rfl, if_pos rfl]
        show px_pw f N0.1.toNatClampNeg N1.1 i = _
        unfold px_pw
        split
        · rfl
        · exact h i hi
      · rw [if_neg (show ¬ 4 = 3 by omega), if_pos rfl, if_neg (show ¬ 4 = 3 by omega)]
        show px_pw f N0.1.toNatClampNeg (-N1.1) i = _
        unfold px_pw
        split
        · rfl
        · exact h i hi
    · rw [if_neg (show ¬ 5 = 3 by omega), if_neg (show ¬ 5 = 4 by omega), px_sl_5]
      exact h i hi
    · rw [if_neg (show ¬ v = 3 by omega), if_neg (show ¬ v = 4 by omega), px_sl_6 y]
      exact h i hi
theorem sum_cg {f g : Nat → Int32} : ∀ (n i : Nat) (x : Int32), (∀ j, i ≤ j → j < i + n → f j = g j) → px_sum f n i x = px_sum g n i x
  | 0, i, x, _ => rfl
  | n + 1, i, x, h => by
    rw [px_sum, px_sum, h i (Nat.le_refl _) (by omega)]
    exact sum_cg n (i + 1) _ (fun j h1 h2 => h j (by omega) (by omega))
/-- lay finds the same at fault on both sides -/
theorem px_lay_eq {c : Nat → Int32} {l : Nat} {s : px_S} (hl : l ≤ 400) (Z : S0 s) : px_lay c l = px_rlay c l s := by
  have hp0 := (px_p_le (c := c) (l := l) (a := 0) (Nat.zero_le _)).2
  have K := px_all_ok (c := c) (l := l) (o := 0) 80 _ hp0
  have A := px_all_al (c := c) (l := l) (o := 0) 80 _ hp0 0 (Nat.zero_le _)
  unfold px_lay px_rlay
  generalize (px_all c l 0 80 (px_p c l 0)).1 = ls at K A
  cases (px_all c l 0 80 (px_p c l 0)).2 with
  | some p => rfl
  | none =>
    show px_cg ls (nI l) (0, -1) = px_rg (px_sS ls s) (nI l)
    obtain ⟨zb, zf, zp, zn, zr, zs, zt⟩ := Z
    have e1 := gs_bad hl ls 0 s K (Or.inl ⟨by omega, zn⟩)
    have f0 : fb s.bad = (0, -1) := by rw [zb]; rfl
    rw [f0] at e1
    unfold px_cg px_rg
    simp only
    rw [e1]
    by_cases b : (px_sS ls s).bad = -1
    · have fb1 : fb (px_sS ls s).bad = (0, -1) := by rw [b]; rfl
      obtain ⟨pe, m, m2, m7, em⟩ := pt_eq hl ls s K b ⟨2, by omega, by omega, zp⟩
      rw [zp] at pe
      have F : fav s.fa 0 := fun i hi => Or.inl (zf i hi)
      have e2 := ps_eq hl (m := m) (by omega) m7 ls 0 s K A F b
      rw [mi_all (7 - m) m (fun j h1 h2 => zf j (by omega))] at e2
      have f1 : f3 (-1) = (0, -1) := rfl
      rw [f1] at e2
      have h2 : (if (fb (px_sS ls s).bad).1 = 0 then px_ps (px_pt ls 2 - 1) ls (fb (px_sS ls s).bad) else fb (px_sS ls s).bad) = f3 (px_mi (px_sS ls s).fa (7 - m) m (-1)) := by
        rw [fb1, if_pos rfl, pe, em]
        exact e2
      rw [h2, if_neg (show ¬ (px_sS ls s).bad ≠ -1 from fun y => y b), em, nI_clamp (by omega)]
      have e3 : px_sum (px_su ls (fun _ => 0)) 7 0 0 = px_sum (px_sS ls s).su 7 0 0 := sum_cg 7 0 0 (fun j _ h2 => su_eq hl ls s _ K b (fun i hi => (zs i hi).symm) j (by omega))
      rw [e3]
      by_cases y : px_mi (px_sS ls s).fa (7 - m) m (-1) = -1
      · rw [if_neg (show ¬ px_mi (px_sS ls s).fa (7 - m) m (-1) ≠ -1 from fun z => z y), y, f1]
        by_cases z : px_sum (px_sS ls s).su 7 0 0 = 0
        · rw [if_pos z, if_pos z, if_pos rfl]
        · rw [if_neg z, if_neg z, if_pos rfl]
          unfold bm
          rw [if_pos rfl]
      · rw [if_pos (show px_mi (px_sS ls s).fa (7 - m) m (-1) ≠ -1 from y), if_neg (f3_k y)]
        unfold f3
        rw [if_neg y]
    · have n0 := fb_bad b
      rw [if_neg n0, if_neg n0, if_pos (show (px_sS ls s).bad ≠ -1 from b)]
      unfold fb
      rw [if_neg b]
/-- the text beyond its length doesn't count -/
theorem cg_sk {c e : Nat → Int32} {l : Nat} (h : ∀ i, i < l → c i = e i) : ∀ (f a : Nat), a + f ≤ l → px_sk c f a = px_sk e f a
  | 0, a, _ => rfl
  | f + 1, a, ha => by rw [px_sk, px_sk, h a (by omega), cg_sk h f (a + 1) (by omega)]
theorem cg_rn {c e : Nat → Int32} {l : Nat} {k : Int32} (h : ∀ i, i < l → c i = e i) : ∀ (f a : Nat), a + f ≤ l → px_rn c k f a = px_rn e k f a
  | 0, a, _ => rfl
  | f + 1, a, ha => by rw [px_rn, px_rn, h a (by omega), cg_rn h f (a + 1) (by omega)]
section PCG
variable {c e : Nat → Int32} {l : Nat}
theorem cg_p (h : ∀ i, i < l → c i = e i) {a : Nat} (ha : a ≤ l) : px_p c l a = px_p e l a := cg_sk h (l - a) a (by omega)
theorem cg_k (h : ∀ i, i < l → c i = e i) {p : Nat} : px_k c l p = px_k e l p := by
  unfold px_k
  split
  · rename_i z
    rw [h p z]
  · rfl
theorem cg_e (h : ∀ i, i < l → c i = e i) {p : Nat} (hp : p ≤ l) : px_e c l p = px_e e l p := by
  unfold px_e
  rw [cg_k h, cg_rn h (l - p) p (by omega)]
theorem cg_t (h : ∀ i, i < l → c i = e i) {p : Nat} (hp : p ≤ l) : px_t c l p = px_t e l p := by
  unfold px_t
  rw [cg_k h, cg_e h hp]
theorem cg_nx (h : ∀ i, i < l → c i = e i) {p : Nat} (hp : p ≤ l) : px_nx c l p = px_nx e l p := by
  unfold px_nx
  rw [cg_e h hp, cg_p h (px_e_le hp).2]
theorem cg_nm (h : ∀ i, i < l → c i = e i) : ∀ (f a : Nat) (x : Int32), a + f ≤ l → px_nm c f a x = px_nm e f a x
  | 0, a, x, _ => rfl
  | f + 1, a, x, ha => by rw [px_nm, px_nm, h a (by omega), cg_nm h f (a + 1) _ (by omega)]
theorem cg_num (h : ∀ i, i < l → c i = e i) {p : Nat} (hp : p ≤ l) : px_num c l p = px_num e l p := by
  unfold px_num
  rw [cg_e h hp]
  have := px_e_le (c := e) hp
  exact cg_nm h _ _ _ (by omega)
theorem cg_mt (h : ∀ i, i < l → c i = e i) {p i : Nat} : ∀ (f j : Nat), p + j + f ≤ l → px_mt c p i f j = px_mt e p i f j
  | 0, j, _ => rfl
  | f + 1, j, hj => by rw [px_mt, px_mt, h (p + j) (by omega), cg_mt h f (j + 1) (by omega)]
theorem cg_is (h : ∀ i, i < l → c i = e i) {p q i : Nat} (hq : q ≤ l) (hp : p ≤ q) : px_is c p q i = px_is e p q i := by
  unfold px_is
  by_cases z : tv_len.getD i 0 = q - p
  · rw [cg_mt h _ 0 (by omega)]
  · rw [decide_eq_false z, Bool.false_and, Bool.false_and]
theorem cg_vb (h : ∀ i, i < l → c i = e i) {o : Int32} {p q : Nat} (hq : q ≤ l) (hp : p ≤ q) : ∀ (f i : Nat), px_vb c o p q f i = px_vb e o p q f i
  | 0, i => rfl
  | f + 1, i => by rw [px_vb, px_vb, cg_is h hq hp, cg_vb h hq hp f (i + 1)]
theorem cg_ns (h : ∀ i, i < l → c i = e i) : ∀ (k p : Nat), p ≤ l → px_ns c l k p = px_ns e l k p
  | 0, p, _ => rfl
  | k + 1, p, hp => by rw [px_ns, px_ns, cg_t h hp, cg_num h hp, cg_nx h hp, cg_ns h k _ (px_nx_s hp).2]
theorem cg_ln (h : ∀ i, i < l → c i = e i) {o : Int32} {p : Nat} (hp : p ≤ l) : px_ln c l o p = px_ln e l o p := by
  have a := px_e_le (c := e) hp
  have b := px_nx_s (c := e) hp
  by_cases t : px_t e l p = 1
  · have t' : px_t c l p = 1 := (cg_t h hp).trans t
    have ev : px_vb c o p (px_e c l p) 15 0 = px_vb e o p (px_e e l p) 15 0 := by
      rw [cg_e h hp]
      exact cg_vb h a.2 a.1 15 0
    cases z : px_vb e o p (px_e e l p) 15 0 with
    | none => rw [px_lnN t z, px_lnN t' (ev.trans z)]
    | some v =>
      have en : px_ns c l (px_ar o v).toNatClampNeg (px_nx c l p) = px_ns e l (px_ar o v).toNatClampNeg (px_nx e l p) := by
        rw [cg_nx h hp]
        exact cg_ns h _ _ b.2
      have nl := (px_ns_s (c := e) (l := l) (px_ar o v).toNatClampNeg _ b.2).2.1
      by_cases n : (px_ns e l (px_ar o v).toNatClampNeg (px_nx e l p)).2.2 = true ∧ px_t e l (px_ns e l (px_ar o v).toNatClampNeg (px_nx e l p)).2.1 = 3
      · rw [px_lnT t z n, px_lnT t' (ev.trans z) (by rw [en, cg_t h nl]; exact n), en, cg_nx h nl]
      · rw [px_lnF t z n, px_lnF t' (ev.trans z) (by rw [en, cg_t h nl]; exact n), en]
  · have t' : px_t c l p ≠ 1 := fun y => t ((cg_t h hp).symm.trans y)
    rw [px_lnW t, px_lnW t']
theorem cg_all (h : ∀ i, i < l → c i = e i) {o : Int32} : ∀ (f p : Nat), p ≤ l → px_all c l o f p = px_all e l o f p
  | 0, p, hp => by rw [px_all, px_all, cg_t h hp]
  | f + 1, p, hp => by
    rw [px_all, px_all, cg_t h hp, cg_ln h hp]
    cases z : (px_ln e l o p).1 with
    | none => rfl
    | some L =>
      simp only
      rw [cg_all h f _ (px_ln5 hp z).2]
theorem cg_all0 (h : ∀ i, i < l → c i = e i) {o : Int32} : px_all c l o 80 (px_p c l 0) = px_all e l o 80 (px_p e l 0) := by
  rw [cg_p h (Nat.zero_le _)]
  exact cg_all h 80 _ (px_p_le (Nat.zero_le _)).2
theorem cg_lay (h : ∀ i, i < l → c i = e i) : px_lay c l = px_lay e l := by
  unfold px_lay
  rw [cg_all0 h]
theorem cg_wrk (h : ∀ i, i < l → c i = e i) : px_wrk c l = px_wrk e l := by
  unfold px_wrk
  rw [cg_all0 h]
end PCG
