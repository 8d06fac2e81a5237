/-! ===== the class's pivots ===== -/
theorem nt_K11 {b : Nat} (K : tf_K b = 0) : tf_K (b + 11) = 4 := by
  have := nt_b225 K
  exact (by decide +kernel : ∀ b, b ≤ 225 → tf_K b = 0 → tf_K (b + 11) = 4) b this K
/-- a grid with its tallies: m pivots made -/
def NT (h : LH) (b n k m : Nat) : Prop := NO h b n k ∧ h.1 (b + 11) 0 = nI m ∧ ∃ s, s ≤ 14 ∧ h.1 (b + 11) 3 + 1 = nI s
theorem NT.lo {h g : LH} {b n k m : Nat} (H : NT h b n k m) (HN : NO g b n k) (e : g.1 (b + 11) = h.1 (b + 11)) : NT g b n k m := by
  obtain ⟨-, h1, h2⟩ := H
  exact ⟨HN, by rw [e]; exact h1, by rw [e]; exact h2⟩
section PV
variable {h : LH} {b d : Nat}
theorem nt_rem {k s i : Nat} (hs : s ≤ 14) (hi : i < k) (hk : k ≤ 14) : vp_in ((nI s + nI i) - (nI s + nI i) / nI k * nI k) k := by
  rw [nI_add, pk_rem (by omega) (by omega) (by omega)]
  exact vi_of (Nat.mod_lt _ (by omega)) (by omega)
theorem NT.st {n k m : Nat} (H : NT h b n k m) (rule : Int32) : ∀ i, i < k → vp_in (((if rule = 2 then h.1 (b + 11) 3 + 1 else 0) + nI i) - ((if rule = 2 then h.1 (b + 11) 3 + 1 else 0) + nI i) / nI k * nI k) k := by
  intro i hi
  obtain ⟨HN, -, s, hs, e⟩ := H
  have hb := HN.2.1
  split
  · rw [e]
    exact nt_rem hs hi (by omega)
  · exact nt_rem (s := 0) (by omega) hi (by omega)
theorem nt_pk_in {k : Nat} {rule st : Int32} (hst : ∀ i, i < k → vp_in ((st + nI i) - (st + nI i) / nI k * nI k) k) : ∀ (f i : Nat) (best most : Int32), i + f ≤ k → (best = -1 ∨ vp_in best k) → (nt_pk h b k rule st f i best most = -1 ∨ vp_in (nt_pk h b k rule st f i best most) k)
  | 0, i, best, most, hi, hb => hb
  | f + 1, i, best, most, hi, hb => by
    have hv := hst i (by omega)
    rw [nt_pk]
    split
    · split
      · exact nt_pk_in hst f (i + 1) _ _ (by omega) hb
      · exact nt_pk_in hst f (i + 1) _ _ (by omega) (Or.inr hv)
    · split
      · split
        · exact nt_pk_in hst f (i + 1) _ _ (by omega) hb
        · exact nt_pk_in hst f (i + 1) _ _ (by omega) (Or.inr hv)
      · exact Or.inr hv
theorem NT.pick {n k m : Nat} (H : NT h b n k m) (rule : Int32) : nt_pick h b k rule = -1 ∨ vp_in (nt_pick h b k rule) k := nt_pk_in (H.st rule) k 0 _ _ (by omega) (Or.inl rfl)
theorem sx_pick2 {n k m : Nat} (H : NT h b n k m) (rule : Int32) : tf_Rt (d + 3) 135 [.ref b, .int rule] h (.int (nt_pick h b k rule)) h := by
  have hb := H.1.2.1
  exact sx_pick H.1.1 H.1.2.2.2.1 hb.2.2 (fun a ha => H.1.ends (by omega)) (H.st rule)
theorem NO.tl {n k : Nat} (H : NO h b n k) {x : Int32} (hx : vp_in x 14) : vp_in (h.1 (b + 2) x.toNatClampNeg) 7 ∧ vp_in (h.1 (b + 3) x.toNatClampNeg) 7 := by
  obtain ⟨j, hj, e⟩ := vi_nI hx
  subst e
  rw [nI_clamp (by omega)]
  exact ⟨H.2.2.2.2.2.2.1 j hj, H.2.2.2.2.2.2.2 j hj⟩
def rt_cnt (h : LH) : Nat := (h.1 241 2).toNatClampNeg
theorem RO.cnt {c : Nat} (R : RO h c) : rt_cnt h = c := by
  have := R.2.1
  rw [rt_cnt, R.1, nI_clamp (by omega)]
/-! the cycle of an arc -/
def cy_fr (h : LH) (b : Nat) (x : Int32) : Int32 := if h.1 (b + 7) x.toNatClampNeg = 0 then h.1 (b + 2) x.toNatClampNeg else h.1 (b + 3) x.toNatClampNeg
def cy_to (h : LH) (b : Nat) (x : Int32) : Int32 := if h.1 (b + 7) x.toNatClampNeg = 0 then h.1 (b + 3) x.toNatClampNeg else h.1 (b + 2) x.toNatClampNeg
def cy_2 (h : LH) (b n : Nat) (u v : Int32) : LH := w1 (w1 h 241 2 0) 241 3 (rt_meet (w1 h 241 2 0) b n v 8 u)
def cy_5 (h : LH) (b n : Nat) (x u v al : Int32) : LH := rt_add (w1 (rt_desc (cy_2 h b n u v) b n 0 u) 241 5 ((rt_desc (cy_2 h b n u v) b n 0 u).1 241 2)) x al
def cy_6 (h : LH) (b n : Nat) (x u v al : Int32) : LH := rt_clb b 8 v (cy_5 h b n x u v al)
def cy_lv (b : Nat) : Nat → Nat → LH → LH
  | 0, _, h => h
  | f + 1, i, h => cy_lv b f (i + 1) (if nt_room h b (h.1 242 i) (h.1 243 i) = h.1 241 4 then w1 h 241 6 (nI i) else h)
def cy_7 (g : LH) (b : Nat) : LH := w1 (w1 g 241 4 (rt_lr g b (rt_cnt g) 0 1000000)) 241 6 (g.1 241 5)
def rt_cyc (h : LH) (b n : Nat) (x : Int32) : LH := cy_lv b (rt_cnt (cy_6 h b n x (cy_fr h b x) (cy_to h b x) (if h.1 (b + 7) x.toNatClampNeg = 0 then 1 else 0))) 0 (cy_7 (cy_6 h b n x (cy_fr h b x) (cy_to h b x) (if h.1 (b + 7) x.toNatClampNeg = 0 then 1 else 0)) b)
theorem sx_lvL {n k c : Nat} {x2 x3 x4 x5 : Int32} {Q : tf_Q} : ∀ (f i : Nat) (h : LH), NO h b n k → RO h c → i + f = c → Q tf_z (cy_lv b f i h) → lx_X3_cycle 298 (tf_Cd 298 (d + 1)) Q 122 [.ref 241, .ref b, .int x2, .int x3, .int x4, .int x5, .int (nI i)] [] h
  | 0, i, h, H, R, hi, q => by
    have hc := R.2.1
    refine go_X3_cycle_122 (by decide) H.1 ⟨fun _ => go_X3_cycle_168 (by decide) H.1 q, fun z => absurd ?_ z⟩
    rw [R.1]
    exact nI_le (by omega) (by omega)
  | f + 1, i, h, H, R, hi, q => by
    have hc := R.2.1
    have h8 : vp_in (nI i) 8 := vi_of (by omega) (by omega)
    have hcl : (nI i).toNatClampNeg = i := nI_clamp (by omega)
    rw [cy_lv] at q
    refine go_X3_cycle_122 (by decide) H.1 ⟨fun z => ?_, fun _ => ⟨h8, h8, ?_⟩⟩
    · rw [R.1] at z
      exact absurd z (nI_ge (by omega) (by omega))
    · rw [hcl]
      refine sx_room H.1 (R.2.2 i (by omega)) _ _ (go_X3_cycle_149 (by decide) H.1 ⟨fun c1 => go_X3_cycle_162 (by decide) H.1 ?_, fun c1 => go_X3_cycle_162 (by decide) H.1 ?_⟩)
      · rw [if_pos c1] at q
        rw [nI_1]
        exact sx_lvL f (i + 1) _ (H.hi (by decide)) (R.w (fun _ => by decide) (fun z => absurd z (by decide))) (by omega) q
      · rw [if_neg c1] at q
        rw [nI_1]
        exact sx_lvL f (i + 1) _ H R (by omega) q
theorem cy_lv_ok {n k c : Nat} : ∀ (f i : Nat) (h : LH), NO h b n k → RO h c → i + f ≤ 8 → vp_in (h.1 241 6) 8 → NO (cy_lv b f i h) b n k ∧ RO (cy_lv b f i h) c ∧ vp_in ((cy_lv b f i h).1 241 6) 8 ∧ (∀ e, e ≠ 241 → (cy_lv b f i h).1 e = h.1 e) ∧ (∀ j, j ≠ 6 → (cy_lv b f i h).1 241 j = h.1 241 j)
  | 0, i, h, H, R, hi, h6 => ⟨H, R, h6, fun _ _ => rfl, fun _ _ => rfl⟩
  | f + 1, i, h, H, R, hi, h6 => by
    unfold cy_lv
    split
    · obtain ⟨k1, k2, k3, k4, k5⟩ := cy_lv_ok (c := c) f (i + 1) (w1 h 241 6 (nI i)) (H.hi (by decide)) (R.w (fun _ => by decide) (fun z => absurd z (by decide))) (by omega) (by rw [w1_eq]; exact vi_of (by omega) (by omega))
      refine ⟨k1, k2, k3, fun e he => ?_, fun j hj => ?_⟩
      · rw [k4 e he, w1_ne he]
      · rw [k5 j hj, w1_at hj]
    · exact cy_lv_ok f (i + 1) h H R (by omega) h6
theorem cy_ok {n k c0 : Nat} (H : NO h b n k) (R0 : RO h c0) {x u v al : Int32} (hx : vp_in x 21) (hu : vp_in u 8) (hv : vp_in v 8) :
    (NO (w1 h 241 2 0) b n k ∧ RO (w1 h 241 2 0) 0) ∧ (NO (cy_2 h b n u v) b n k ∧ RO (cy_2 h b n u v) 0 ∧ vp_in ((cy_2 h b n u v).1 241 3) 8) ∧ (∃ c3, c3 ≤ 7 ∧ NO (rt_desc (cy_2 h b n u v) b n 0 u) b n k ∧ RO (rt_desc (cy_2 h b n u v) b n 0 u) c3 ∧ NO (w1 (rt_desc (cy_2 h b n u v) b n 0 u) 241 5 ((rt_desc (cy_2 h b n u v) b n 0 u).1 241 2)) b n k ∧ RO (w1 (rt_desc (cy_2 h b n u v) b n 0 u) 241 5 ((rt_desc (cy_2 h b n u v) b n 0 u).1 241 2)) c3 ∧ NO (cy_5 h b n x u v al) b n k ∧ RO (cy_5 h b n x u v al) (c3 + 1)) ∧ (∃ c6, NO (cy_6 h b n x u v al) b n k ∧ RO (cy_6 h b n x u v al) c6 ∧ vp_in ((cy_6 h b n x u v al).1 241 5) 8) ∧ (∀ e, e < 240 → (cy_6 h b n x u v al).1 e = h.1 e) := by
  have R1 : RO (w1 h 241 2 0) 0 := R0.c (c2 := 0) (by omega)
  have H1 : NO (w1 h 241 2 0) b n k := H.hi (by decide)
  have H2 : NO (cy_2 h b n u v) b n k := H1.hi (by decide)
  have R2 : RO (cy_2 h b n u v) 0 := R1.w (fun _ => by decide) (fun z => absurd z (by decide))
  have J2 : vp_in ((cy_2 h b n u v).1 241 3) 8 := by
    unfold cy_2
    rw [w1_eq]
    exact rt_meet_in H1 v 8 u hu
  obtain ⟨H3, ⟨c3, hc3, R3⟩, L3, T3⟩ := rt_desc_ok H2 R2 hu
  have H4 : NO (w1 (rt_desc (cy_2 h b n u v) b n 0 u) 241 5 ((rt_desc (cy_2 h b n u v) b n 0 u).1 241 2)) b n k := H3.hi (by decide)
  have R4 : RO (w1 (rt_desc (cy_2 h b n u v) b n 0 u) 241 5 ((rt_desc (cy_2 h b n u v) b n 0 u).1 241 2)) c3 := R3.w (fun _ => by decide) (fun z => absurd z (by decide))
  have H5 : NO (cy_5 h b n x u v al) b n k := H4.radd x al
  have R5 : RO (cy_5 h b n x u v al) (c3 + 1) := by
    have := R4.add hx al
    rw [if_pos (by omega)] at this
    exact this
  obtain ⟨H6, ⟨c6, -, R6⟩, L6, T6⟩ := rt_clb_ok 8 v _ _ H5 R5 hv
  refine ⟨⟨H1, R1⟩, ⟨H2, R2, J2⟩, ⟨c3, by omega, H3, R3, H4, R4, H5, R5⟩, ⟨c6, H6, R6, ?_⟩, fun e he => ?_⟩
  · show vp_in ((rt_clb b 8 v (cy_5 h b n x u v al)).1 241 5) 8
    rw [T6 5 (by decide)]
    unfold cy_5
    rw [rt_add_3 _ _ 5 (by decide), w1_eq, R3.1]
    exact vi_of (by omega) (by omega)
  · show (rt_clb b 8 v (cy_5 h b n x u v al)).1 e = h.1 e
    rw [L6 e he]
    unfold cy_5
    rw [rt_add_lo he, w1_ne (by omega), L3 e he]
    unfold cy_2
    rw [w1_ne (by omega), w1_ne (by omega)]
theorem cyc_ok {n k c0 : Nat} (H : NO h b n k) (R0 : RO h c0) {x : Int32} (hx : vp_in x 14) : NO (rt_cyc h b n x) b n k ∧ (∃ c, RO (rt_cyc h b n x) c) ∧ vp_in ((rt_cyc h b n x).1 241 5) 8 ∧ vp_in ((rt_cyc h b n x).1 241 6) 8 ∧ (∀ e, e < 240 → (rt_cyc h b n x).1 e = h.1 e) := by
  have ht := H.tl hx
  have hu : vp_in (cy_fr h b x) 8 := by
    unfold cy_fr
    split
    · exact vi_mono ht.1 (by omega)
    · exact vi_mono ht.2 (by omega)
  have hv : vp_in (cy_to h b x) 8 := by
    unfold cy_to
    split
    · exact vi_mono ht.2 (by omega)
    · exact vi_mono ht.1 (by omega)
  obtain ⟨-, -, -, ⟨c6, H6, R6, E6⟩, L6⟩ := cy_ok (al := if h.1 (b + 7) x.toNatClampNeg = 0 then 1 else 0) H R0 (vi_mono hx (by omega)) hu hv
  have hc6 := R6.2.1
  unfold rt_cyc
  rw [R6.cnt]
  have R7 : RO (cy_7 (cy_6 h b n x (cy_fr h b x) (cy_to h b x) (if h.1 (b + 7) x.toNatClampNeg = 0 then 1 else 0)) b) c6 := (R6.w (fun _ => by decide) (fun z => absurd z (by decide))).w (fun _ => by decide) (fun z => absurd z (by decide))
  obtain ⟨k1, k2, k3, k4, k5⟩ := cy_lv_ok (c := c6) c6 0 (cy_7 (cy_6 h b n x (cy_fr h b x) (cy_to h b x) (if h.1 (b + 7) x.toNatClampNeg = 0 then 1 else 0)) b) ((H6.hi (by decide)).hi (by decide)) R7 (by omega) (by unfold cy_7; rw [w1_eq]; exact E6)
  refine ⟨k1, ⟨c6, k2⟩, ?_, k3, fun e he => ?_⟩
  · rw [k5 5 (by decide)]
    unfold cy_7
    rw [w1_at (by decide), w1_at (by decide)]
    exact E6
  · rw [k4 e (by omega)]
    unfold cy_7
    rw [w1_ne (by omega), w1_ne (by omega), L6 e he]
theorem sx_cyc {n k c0 : Nat} (H : NO h b n k) (R0 : RO h c0) {x : Int32} (hx : vp_in x 14) : tf_Rt (d + 3) 158 [.ref 241, .ref b, .int x] h tf_z (rt_cyc h b n x) := by
  intro Q q
  have K := H.1
  have vx : vp_in x 21 := vi_mono hx (by omega)
  have ht := H.tl hx
  have t2 := vi_mono ht.1 (show 7 ≤ 8 by omega)
  have t3 := vi_mono ht.2 (show 7 ≤ 8 by omega)
  have main : ∀ u v al : Int32, vp_in u 8 → vp_in v 8 → Q tf_z (cy_lv b (rt_cnt (cy_6 h b n x u v al)) 0 (cy_7 (cy_6 h b n x u v al) b)) → lx_X3_cycle 298 (tf_Cd 298 (d + 2)) Q 55 [.ref 241, .ref b, .int x, .int al, .int u, tf_z, tf_z] [.int v] h := by
    intro u v al hu hv q2
    obtain ⟨⟨H1, R1⟩, ⟨H2, R2, J2⟩, ⟨c3, hc3, H3, R3, H4, R4, H5, R5⟩, ⟨c6, H6, R6, E6⟩, L6⟩ := cy_ok (al := al) H R0 vx hu hv
    refine go_X3_cycle_55 (by decide) K (sx_meet H1 hu hv _ (go_X3_cycle_71 (by decide) K (sx_desc H2 R2 J2 hu _ (go_X3_cycle_81 (by decide) K (sx_radd R4 x al _ (go_X3_cycle_95 (by decide) K (sx_clb H5 R5 hv _ (go_X3_cycle_102 (by decide) K (sx_lr K R6 _ (go_X3_cycle_108 (by decide) K ?_)))))))))) 
    rw [R6.cnt] at q2
    have e5 : (tf_up (cy_6 h b n x u v al).1 241 4 (rt_lr (cy_6 h b n x u v al) b c6 0 1000000)) 241 5 = (cy_6 h b n x u v al).1 241 5 := w1_at (h := cy_6 h b n x u v al) (c := 241) (i := 4) (j := 5) (v := rt_lr (cy_6 h b n x u v al) b c6 0 1000000) (by decide)
    have R7 : RO (cy_7 (cy_6 h b n x u v al) b) c6 := (R6.w (fun _ => by decide) (fun z => absurd z (by decide))).w (fun _ => by decide) (fun z => absurd z (by decide))
    have := sx_lvL (d := d + 1) (x2 := x) (x3 := al) (x4 := u) (x5 := v) c6 0 (cy_7 (cy_6 h b n x u v al) b) ((H6.hi (by decide)).hi (by decide)) R7 (by omega) q2
    unfold cy_7 at this
    rw [R6.cnt] at this
    show lx_X3_cycle 298 (tf_Cd 298 (d + 2)) Q 122 [.ref 241, .ref b, .int x, .int al, .int u, .int v, .int 0] [] (tf_up (tf_up (cy_6 h b n x u v al).1 241 4 (rt_lr (cy_6 h b n x u v al) b c6 0 1000000)) 241 6 ((tf_up (cy_6 h b n x u v al).1 241 4 (rt_lr (cy_6 h b n x u v al) b c6 0 1000000)) 241 5), (cy_6 h b n x u v al).2)
    rw [e5]
    exact this
  unfold rt_cyc cy_fr cy_to at q
  refine en_X3_cycle (by decide) K (go_X3_cycle_0 (by decide) K ⟨vx, fun c => go_X3_cycle_14 (by decide) K ⟨fun z => absurd z (by decide), fun _ => ⟨vx, go_X3_cycle_34 (by decide) K ⟨fun z => absurd z (by decide), fun _ => ⟨vx, main _ _ 1 t2 t3 ?_⟩⟩⟩⟩, fun c => go_X3_cycle_13 (by decide) K (go_X3_cycle_14 (by decide) K ⟨fun _ => go_X3_cycle_28 (by decide) K ⟨vx, go_X3_cycle_34 (by decide) K ⟨fun _ => go_X3_cycle_49 (by decide) K ⟨vx, main _ _ 0 t3 t2 ?_⟩, fun z => absurd rfl z⟩⟩, fun z => absurd rfl z⟩)⟩)
  · simp only [if_pos c] at q
    exact q
  · simp only [if_neg c] at q
    exact q
end PV
