/-! ===== cut, lack on both sides ===== -/
section TFC
variable {h g r : LH} {t M d n k m b : Nat}
theorem sm_add {x y : Int32} (hx : -100000 ≤ x.toInt ∧ x.toInt ≤ 100000) (hy : -100000 ≤ y.toInt ∧ y.toInt ≤ 100000) : (x + y).toInt = x.toInt + y.toInt := by
  rw [Int32.toInt_add, Int.bmod_def]
  split <;> omega
theorem sm_sub {x y : Int32} (hx : -100000 ≤ x.toInt ∧ x.toInt ≤ 100000) (hy : -100000 ≤ y.toInt ∧ y.toInt ≤ 100000) : (x - y).toInt = x.toInt - y.toInt := by
  rw [Int32.toInt_sub, Int.bmod_def]
  split <;> omega
/-- what two sets leave, one less the other -/
theorem sm_cmp {x y : Int32} (hx : -100000 ≤ x.toInt ∧ x.toInt ≤ 100000) (hy : -100000 ≤ y.toInt ∧ y.toInt ≤ 100000) : (0 < x - y ↔ y < x) ∧ (x - y = 0 ↔ x = y) := by
  have s := sm_sub hx hy
  have e0 : (0 : Int32).toInt = 0 := by decide
  constructor
  · rw [Int32.lt_iff_toInt_lt, Int32.lt_iff_toInt_lt, s, e0]
    omega
  · rw [← Int32.toInt_inj, ← Int32.toInt_inj, s, e0]
    omega
theorem v99 {x : Int32} {s : Nat} (hs : s ≤ 198) (e : x + 99 = nI s) : -99 ≤ x.toInt ∧ x.toInt ≤ 99 := by
  have ex : x = nI s - 99 := by rw [← e]; exact (Int32.add_sub_cancel x 99).symm
  have : (nI s - 99).toInt = (s : Int) - (99 : Nat) := pk_sub_toInt (a := s) (b := 99) (by omega) (by decide)
  rw [ex, this]
  omega
theorem sh1_bd {s : Int32} (S : ∀ p, p < n → -99 ≤ (h.1 (b + 1) p).toInt ∧ (h.1 (b + 1) p).toInt ≤ 99) : ∀ (f p : Nat) (r : Int32) (B : Nat), p + f = n → B + 99 * f ≤ 90000 → -(B : Int) ≤ r.toInt ∧ r.toInt ≤ (B : Int) → -((B + 99 * f : Nat) : Int) ≤ (nt_sh1 h b s f p r).toInt ∧ (nt_sh1 h b s f p r).toInt ≤ ((B + 99 * f : Nat) : Int)
  | 0, p, r, B, hp, hB, hr => by
    rw [nt_sh1]
    exact hr
  | f + 1, p, r, B, hp, hB, hr => by
    rw [nt_sh1]
    have sp := S p (by omega)
    have := sh1_bd (s := s) S f (p + 1) (if ((s >>> (nI p &&& 31)) &&& 1) = 1 then r + h.1 (b + 1) p else r) (B + 99) (by omega) (by omega) (by
      split
      · have := sm_add (x := r) (y := h.1 (b + 1) p) (by omega) (by omega)
        omega
      · omega)
    rw [show B + 99 + 99 * f = B + 99 * (f + 1) by omega] at this
    exact this
theorem sh2_bd {s : Int32} (S : ∀ a, a < k → 0 ≤ (h.1 (b + 4) a).toInt ∧ (h.1 (b + 4) a).toInt ≤ 99) : ∀ (f a : Nat) (r : Int32) (B : Nat), a + f = k → B + 99 * f ≤ 90000 → -(B : Int) ≤ r.toInt ∧ r.toInt ≤ (B : Int) → -((B + 99 * f : Nat) : Int) ≤ (nt_sh2 h b s f a r).toInt ∧ (nt_sh2 h b s f a r).toInt ≤ ((B + 99 * f : Nat) : Int)
  | 0, p, r, B, hp, hB, hr => by
    rw [nt_sh2]
    exact hr
  | f + 1, p, r, B, hp, hB, hr => by
    rw [nt_sh2]
    have sp := S p (by omega)
    have := sh2_bd (s := s) S f (p + 1) (if h.1 (b + 7) p = 3 then r else if ((s >>> (h.1 (b + 2) p &&& 31)) &&& 1) = 1 then (if ((s >>> (h.1 (b + 3) p &&& 31)) &&& 1) = 0 then r - h.1 (b + 4) p else r) else r) (B + 99) (by omega) (by omega) (by
      split
      · omega
      · split
        · split
          · have := sm_sub (x := r) (y := h.1 (b + 4) p) (by omega) (by omega)
            omega
          · omega
        · omega)
    rw [show B + 99 + 99 * f = B + 99 * (f + 1) by omega] at this
    exact this
theorem short_bd (G : GI r n k M) (N : NR h b r n k m) (s : Int32) : -100000 ≤ (nt_short h b n k s).toInt ∧ (nt_short h b n k s).toInt ≤ 100000 := by
  have n7 := G.1.1.2.1
  have k14 := G.1.1.2.2
  obtain ⟨⟨-, su, E, F, -⟩, -, -⟩ := N
  obtain ⟨-, A2, -, A4⟩ := G.2.2.2.2.1
  unfold nt_short
  have b1 := sh1_bd (h := h) (b := b) (s := s) (n := n) (fun p hp => by
    obtain ⟨c, hc, e⟩ := A4 p hp
    rw [su p hp]
    exact v99 hc e) n 0 0 0 (by omega) (by omega) (by decide)
  have b2 := sh2_bd (h := h) (b := b) (s := s) (k := k) (fun a ha => by
    obtain ⟨v, w, h1, h2, h3, h4⟩ := A2 a ha
    rw [(F.1 a ha).1, h4, nI_toInt (by omega)]
    omega) k 0 (nt_sh1 h b s n 0 0) (0 + 99 * n) (by omega) (by omega) b1
  omega
theorem xv_boA {hc : LH} (H : RM g n k) (E : TLe hc b g n k) (F : FLe hc b g n k) (S : SRe hc b g k) {s0 : Int32} {Q : tf_Q} : ∀ (f a : Nat) (s : Int32) (x4 : Value), a + f = k → Q (.int (nt_sh2 hc b s0 f a s)) g → lx_X9_bothOf 298 (tf_Cd 298 (d + 1)) Q 47 [.ref 270, .int s0, .int s, .int (nI a), x4] [] g
  | 0, a, s, x4, ha, q => by
    have hn := H.1
    exact go_X9_bothOf_47 (by decide) ⟨fun _ => go_X9_bothOf_125 (by decide) q, fun z => absurd (H.k2 (by omega) (by omega)) z⟩
  | f + 1, a, s, x4, ha, q => by
    have hn := H.1
    rw [nt_sh2, (E.1 a (by omega)).1, (E.1 a (by omega)).2, (F.1 a (by omega)).1] at q
    have hs : hc.1 (b + 7) a = 3 ↔ ¬ rm g a 6 = 0 := by
      rcases S a (by omega) with ⟨z6, e7, v⟩ | ⟨z6, e7, -⟩
      · rw [e7, z6]
        obtain ⟨j, hj, ej⟩ := vi_nI v
        rw [ej]
        exact ⟨fun z => absurd ((nI_eq (a := j) (b := 3) (by omega) (by omega)).mp z) (by omega), fun z => absurd rfl z⟩
      · rw [e7, z6]
        exact ⟨fun _ => by decide, fun _ => rfl⟩
    have e117 : ∀ (x4 y : Int32), Q (.int (nt_sh2 hc b s0 f (a + 1) (s - y))) g → lx_X9_bothOf 298 (tf_Cd 298 (d + 1)) Q 117 [.ref 270, .int s0, .int s, .int (nI a), .int x4] [.int y, .int s] g := fun x4 y q => go_X9_bothOf_117 (by decide) (by rw [nI_1]; exact xv_boA H E F S f (a + 1) _ _ (by omega) q)
    have e116 : ∀ x4 : Int32, Q (.int (nt_sh2 hc b s0 f (a + 1) s)) g → lx_X9_bothOf 298 (tf_Cd 298 (d + 1)) Q 116 [.ref 270, .int s0, .int s, .int (nI a), .int x4] [.int s] g := fun x4 q => go_X9_bothOf_116 (by decide) (e117 _ _ (by rw [Int32.sub_zero]; exact q))
    have e88 : Q (.int (nt_sh2 hc b s0 f (a + 1) s)) g → lx_X9_bothOf 298 (tf_Cd 298 (d + 1)) Q 88 [.ref 270, .int s0, .int s, .int (nI a), x4] [] g := fun q => go_X9_bothOf_88 (by decide) (go_X9_bothOf_89 (by decide) ⟨fun _ => e116 _ q, fun z => absurd rfl z⟩)
    have e89 : (rm g a 6 = 0 → Q (.int (nt_sh2 hc b s0 f (a + 1) (s - rm g a 2))) g) → (¬ rm g a 6 = 0 → Q (.int (nt_sh2 hc b s0 f (a + 1) s)) g) → lx_X9_bothOf 298 (tf_Cd 298 (d + 1)) Q 89 [.ref 270, .int s0, .int s, .int (nI a), x4] [.int 1] g := fun q1 q2 => go_X9_bothOf_89 (by decide) ⟨fun z => absurd z (by decide), fun _ => sx_of (d := d) a 6 rfl rfl (by omega) (by omega) _ (go_X9_bothOf_104 (by decide) ⟨fun z => sx_of (d := d) a 2 rfl rfl (by omega) (by omega) _ (go_X9_bothOf_113 (by decide) (e117 _ _ (q1 z))), fun z => e116 _ (q2 z)⟩)⟩
    refine go_X9_bothOf_47 (by decide) ⟨fun z => absurd z (H.k1 (by omega)), fun _ => sx_of (d := d) a 0 rfl rfl (by omega) (by omega) _ (go_X9_bothOf_64 (by decide) ⟨fun c1 => sx_of (d := d) a 1 rfl rfl (by omega) (by omega) _ (go_X9_bothOf_78 (by decide) ⟨fun c2 => e89 (fun z => ?_) (fun z => ?_), fun c2 => e88 ?_⟩), fun c1 => e88 ?_⟩)⟩
    · rw [if_neg (fun y => (hs.mp y) z), if_pos c1, if_pos c2] at q
      exact q
    · rw [if_pos (hs.mpr z)] at q
      exact q
    · rw [if_pos c1, if_neg c2] at q
      split at q <;> exact q
    · rw [if_neg c1] at q
      split at q <;> exact q
theorem xv_boP {hc : LH} (H : RM g n k) (su : ∀ p, p < n → hc.1 (b + 1) p = g.1 271 (44 + p)) (E : TLe hc b g n k) (F : FLe hc b g n k) (S : SRe hc b g k) {s0 : Int32} {Q : tf_Q} : ∀ (f p : Nat) (s : Int32), p + f = n → Q (.int (nt_sh2 hc b s0 k 0 (nt_sh1 hc b s0 f p s))) g → lx_X9_bothOf 298 (tf_Cd 298 (d + 1)) Q 4 [.ref 270, .int s0, .int s, .int (nI p), tf_z] [] g
  | 0, p, s, hp, q => by
    have hn := H.1
    exact go_X9_bothOf_4 (by decide) ⟨fun _ => go_X9_bothOf_45 (by decide) (xv_boA H E F S k 0 _ _ (by omega) q), fun z => absurd (H.n2 (by omega) (by omega)) z⟩
  | f + 1, p, s, hp, q => by
    have hn := H.1
    have i44' : (44 : Int32) + nI p = nI (44 + p) := nI_add 44 p
    rw [nt_sh1] at q
    have e37 : ∀ y : Int32, Q (.int (nt_sh2 hc b s0 k 0 (nt_sh1 hc b s0 f (p + 1) (s + y)))) g → lx_X9_bothOf 298 (tf_Cd 298 (d + 1)) Q 37 [.ref 270, .int s0, .int s, .int (nI p), tf_z] [.int y, .int s] g := fun y q => go_X9_bothOf_37 (by decide) (by rw [nI_1]; exact xv_boP H su E F S f (p + 1) _ (by omega) q)
    refine go_X9_bothOf_4 (by decide) ⟨fun z => absurd z (H.n1 (by omega)), fun _ => ⟨fun c => ⟨by rw [i44']; exact vi_of (by omega) (by omega), e37 _ ?_⟩, fun c => go_X9_bothOf_36 (by decide) (e37 _ ?_)⟩⟩
    · rw [if_pos c, su p (by omega)] at q
      rw [i44', nI_clamp (by omega)]
      exact q
    · rw [if_neg c] at q
      rw [Int32.add_zero]
      exact q
theorem xv_bo {hc : LH} (H : RM g n k) (su : ∀ p, p < n → hc.1 (b + 1) p = g.1 271 (44 + p)) (E : TLe hc b g n k) (F : FLe hc b g n k) (S : SRe hc b g k) (s0 : Int32) : tf_Rt (d + 2) 107 [.ref 270, .int s0] g (.int (nt_short hc b n k s0)) g := fun Q q => en_X9_bothOf (by decide) (go_X9_bothOf_0 (by decide) (xv_boP H su E F S n 0 0 (by omega) q))
/-- how many ones -/
def on_v (x : Int32) : Nat → Nat → Int32 → Int32
  | 0, _, s => s
  | f + 1, p, s => on_v x f (p + 1) (s + ((x >>> (nI p &&& 31)) &&& 1))
theorem xv_onL {x0 : Int32} {Q : tf_Q} : ∀ (f p : Nat) (s : Int32), p + f = 7 → Q (.int (on_v x0 f p s)) h → lx_X9_ones 298 (tf_Cd 298 d) Q 4 [.int x0, .int s, .int (nI p)] [] h
  | 0, p, s, hp, q => by
    have e : p = 7 := by omega
    subst e
    exact go_X9_ones_4 (by decide) ⟨fun _ => go_X9_ones_24 (by decide) q, fun z => absurd (nI_le (a := 7) (b := 7) (by omega) (by omega)) z⟩
  | f + 1, p, s, hp, q => go_X9_ones_4 (by decide) ⟨fun z => absurd z (nI_ge (a := p) (b := 7) (by omega) (by omega)), fun _ => by rw [nI_1]; exact xv_onL f (p + 1) _ (by omega) q⟩
theorem on_jb : ∀ s, s < 128 → on_v (nI s) 7 0 0 = jb (nI s) := by decide +kernel
theorem xv_on {s : Nat} (hs : s < 128) : tf_Rt (d + 1) 108 [.int (nI s)] h (.int (jb (nI s))) h := fun Q q => en_X9_ones (by decide) (go_X9_ones_0 (by decide) (xv_onL 7 0 0 (by omega) (by rw [on_jb s hs]; exact q)))
theorem xv_cuL {hc : LH} (H : RM g n k) (su : ∀ p, p < n → hc.1 (b + 1) p = g.1 271 (44 + p)) (E : TLe hc b g n k) (F : FLe hc b g n k) (S : SRe hc b g k) (B : ∀ s, -100000 ≤ (nt_short hc b n k s).toInt ∧ (nt_short hc b n k s).toInt ≤ 100000) {Q : tf_Q} : ∀ (f s c : Nat) (x3 : Value), s + f = 2 ^ n → c < 128 → Q (.int (nt_ws hc b n k f s (nI c) (nt_short hc b n k (nI c)))) g → lx_X9_cut 298 (tf_Cd 298 (d + 2)) Q 9 [.ref 270, .int (nI c), .int (nI s), x3] [] g
  | 0, s, c, x3, hs, hc2, q => by
    have hp := nt_pw H.1.2.1
    refine go_X9_cut_9 (by decide) ⟨fun _ => go_X9_cut_64 (by decide) q, fun z => absurd ?_ z⟩
    rw [rm_shl H]
    exact nI_le (by omega) (by omega)
  | f + 1, s, c, x3, hs, hc2, q => by
    have hp := nt_pw H.1.2.1
    rw [nt_ws] at q
    have e57 : ∀ (x3 : Int32) (w : Nat), w < 128 → Q (.int (nt_ws hc b n k f (s + 1) (nI w) (nt_short hc b n k (nI w)))) g → lx_X9_cut 298 (tf_Cd 298 (d + 2)) Q 57 [.ref 270, .int (nI c), .int (nI s), .int x3] [.int (nI w)] g := fun x3 w hw q => go_X9_cut_57 (by decide) (by rw [nI_1]; exact xv_cuL H su E F S B f (s + 1) w _ (by omega) hw q)
    obtain ⟨cm1, cm2⟩ := sm_cmp (B (nI s)) (B (nI c))
    refine go_X9_cut_9 (by decide) ⟨fun z => ?_, fun _ => xv_bo (d := d) H su E F S (nI s) _ (go_X9_cut_26 (by decide) (xv_bo (d := d) H su E F S (nI c) _ (go_X9_cut_31 (by decide) ⟨fun c1 => go_X9_cut_52 (by decide) (e57 _ s (by omega) ?_), fun c1 => ⟨fun c2 => xv_on (d := d + 1) (by omega) _ (go_X9_cut_45 (by decide) (xv_on (d := d + 1) hc2 _ (go_X9_cut_49 (by decide) ⟨fun c3 => go_X9_cut_56 (by decide) (e57 _ c hc2 ?_), fun c3 => go_X9_cut_52 (by decide) (e57 _ s (by omega) ?_)⟩))), fun c2 => go_X9_cut_56 (by decide) (e57 _ c hc2 ?_)⟩⟩)))⟩
    · rw [rm_shl H] at z
      exact absurd z (nI_ge (by omega) (by omega))
    · rw [if_pos (cm1.mp c1)] at q
      exact q
    · rw [if_neg (fun y => c1 (cm1.mpr y)), if_pos (cm2.mp c2), if_pos c3] at q
      exact q
    · rw [if_neg (fun y => c1 (cm1.mpr y)), if_pos (cm2.mp c2), if_neg c3] at q
      exact q
    · rw [if_neg (fun y => c1 (cm1.mpr y)), if_neg (fun y => c2 (cm2.mpr y))] at q
      exact q
theorem bit0 : ∀ p, p < 8 → ¬ (((0 : Int32) >>> (nI p &&& 31)) &&& 1) = 1 := by decide
theorem sh1_0 : ∀ (f p : Nat) (r : Int32), p + f ≤ 8 → nt_sh1 h b 0 f p r = r
  | 0, _, _, _ => rfl
  | f + 1, p, r, hp => by rw [nt_sh1, if_neg (bit0 p (by omega)), sh1_0 f (p + 1) r (by omega)]
theorem sh2_0 (tl : ∀ a, a < k → vp_in (h.1 (b + 2) a) 8) : ∀ (f a : Nat) (r : Int32), a + f = k → nt_sh2 h b 0 f a r = r
  | 0, _, _, _ => rfl
  | f + 1, a, r, ha => by
    obtain ⟨j, hj, e⟩ := vi_nI (tl a (by omega))
    rw [nt_sh2, e, if_neg (bit0 j hj), sh2_0 tl f (a + 1) _ (by omega)]
    split <;> rfl
theorem short_0 (N : NO h b n k) : nt_short h b n k 0 = 0 := by
  have n7 := N.2.1
  unfold nt_short
  rw [sh1_0 n 0 0 (by omega), sh2_0 (k := k) (fun a ha => vi_mono (N.2.2.2.2.2.2.1 a (by omega)) (by omega)) k 0 0 (by omega)]
theorem xv_cut (G0 : GI h n k M) (N : NR h 0 h n k m) (H : NO h 0 n k) : XV 109 [] h (nt_ws h 0 n k (2 ^ n - 1) 1 0 0) := by
  intro Q q
  have q2 : ∀ (g : LH), Q (.int (nt_ws h 0 n k (2 ^ n - 1) 1 0 0)) g := fun g => q _ g rfl
  clear q
  have G : GI (w1 h 270 0 0) n k M := G0.w (by decide)
  have N1 := N.w0 (v := 0) (i := 0) G0
  have B := short_bd G N1
  obtain ⟨⟨-, su, E, F, -, S⟩, -, -⟩ := N1
  have hp := nt_pw G.1.1.2.1
  refine en_X9_cut (by decide) (go_X9_cut_0 (by decide) ?_)
  show lx_X9_cut 298 (tf_Cd 298 10) Q 9 [.ref 270, .int (nI 0), .int (nI 1), tf_z] [] (w1 h 270 0 0)
  generalize w1 h 270 0 0 = h1 at *
  refine xv_cuL (d := 8) (hc := h) (b := 0) G.1 su E F S B (2 ^ n - 1) 1 0 _ (by omega) (by omega) ?_
  rw [show nt_short h 0 n k (nI 0) = 0 from short_0 H]
  exact q2 _
theorem ze_28 (I : IZ h t) : lk_eq h 207 [.ref 240] 109 [.ref 270] (fun g => IZ g (t + 1)) := by
  obtain ⟨n, k, m, hm, H, G, N⟩ := I.1.1
  exact ze_q (iz_28 I) (pq_cut H.1) (xv_cut G N H.1)
theorem xv_laL {hc : LH} (H : RM g n k) (su : ∀ p, p < n → hc.1 (b + 1) p = g.1 271 (44 + p)) (E : TLe hc b g n k) (F : FLe hc b g n k) (S : SRe hc b g k) {Q : tf_Q} : ∀ (f s : Nat) (w : Int32), s + f = 2 ^ n → Q (.int (2 * nt_short hc b n k (nt_ws hc b n k f s w (nt_short hc b n k w)))) g → lx_X9_lack 298 (tf_Cd 298 (d + 2)) Q 9 [.ref 270, .int (nt_short hc b n k w), .int (nI s)] [] g
  | 0, s, w, hs, q => by
    have hp := nt_pw H.1.2.1
    refine go_X9_lack_9 (by decide) ⟨fun _ => go_X9_lack_37 (by decide) q, fun z => absurd ?_ z⟩
    rw [rm_shl H]
    exact nI_le (by omega) (by omega)
  | f + 1, s, w, hs, q => by
    have hp := nt_pw H.1.2.1
    rw [nt_ws] at q
    refine go_X9_lack_9 (by decide) ⟨fun z => ?_, fun _ => xv_bo (d := d) H su E F S (nI s) _ (go_X9_lack_27 (by decide) (sx_greater (d := d + 1) _ _ _ (go_X9_lack_30 (by decide) ?_)))⟩
    · rw [rm_shl H] at z
      exact absurd z (nI_ge (by omega) (by omega))
    · rw [nI_1]
      unfold rf_gr
      by_cases c1 : nt_short hc b n k w < nt_short hc b n k (nI s)
      · rw [if_pos c1] at q
        rw [if_pos (Int32.le_of_lt c1)]
        exact xv_laL H su E F S f (s + 1) (nI s) (by omega) q
      · rw [if_neg c1] at q
        by_cases c2 : nt_short hc b n k (nI s) = nt_short hc b n k w
        · rw [if_pos c2] at q
          have e : (if nt_short hc b n k w ≤ nt_short hc b n k (nI s) then nt_short hc b n k (nI s) else nt_short hc b n k w) = nt_short hc b n k w := by
            split
            · exact c2
            · rfl
          rw [e]
          split at q
          · exact xv_laL H su E F S f (s + 1) w (by omega) q
          · rw [← c2]
            exact xv_laL H su E F S f (s + 1) (nI s) (by omega) q
        · rw [if_neg c2] at q
          rw [if_neg (fun z => c1 (Int32.lt_of_le_of_ne z (fun y => c2 y.symm)))]
          exact xv_laL H su E F S f (s + 1) w (by omega) q
theorem xv_lack (G0 : GI h n k M) (N : NR h 0 h n k m) (H : NO h 0 n k) : XV 110 [] h (2 * nt_short h 0 n k (nt_ws h 0 n k (2 ^ n - 1) 1 0 0)) := by
  intro Q q
  have q2 : ∀ (g : LH), Q (.int (2 * nt_short h 0 n k (nt_ws h 0 n k (2 ^ n - 1) 1 0 0))) g := fun g => q _ g rfl
  clear q
  have G : GI (w1 h 270 0 0) n k M := G0.w (by decide)
  obtain ⟨⟨-, su, E, F, -, S⟩, -, -⟩ := N.w0 (v := 0) (i := 0) G0
  have hp := nt_pw G.1.1.2.1
  have s0 := short_0 H
  refine en_X9_lack (by decide) (go_X9_lack_0 (by decide) ?_)
  show lx_X9_lack 298 (tf_Cd 298 10) Q 9 [.ref 270, .int 0, .int (nI 1)] [] (w1 h 270 0 0)
  generalize w1 h 270 0 0 = h1 at *
  have := xv_laL (d := 8) (hc := h) (b := 0) (Q := Q) G.1 su E F S (2 ^ n - 1) 1 0 (by omega) (by rw [s0]; exact q2 _)
  rw [s0] at this
  exact this
theorem ze_27 (I : IZ h t) : lk_eq h 206 [.ref 240] 110 [.ref 270] (fun g => IZ g (t + 1)) := by
  obtain ⟨n, k, m, hm, H, G, N⟩ := I.1.1
  exact ze_q (iz_27 I) (pq_lack H.1) (xv_lack G N H.1)
end TFC
