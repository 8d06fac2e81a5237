/-! ===== the class's ways and cycles ===== -/
/-- the row of a way: how many edges, each an edge -/
def RO (h : LH) (c : Nat) : Prop := h.1 241 2 = nI c ∧ c ≤ 8 ∧ ∀ i, i < 8 → vp_in (h.1 242 i) 21
theorem RO.w {h : LH} {c e i : Nat} {v : Int32} (R : RO h c) (h1 : e = 241 → i ≠ 2) (h2 : e = 242 → vp_in v 21) : RO (w1 h e i v) c := by
  refine ⟨?_, R.2.1, fun j hj => ?_⟩
  · by_cases he : e = 241
    · subst he
      rw [w1_at (Ne.symm (h1 rfl))]
      exact R.1
    · rw [w1_ne (Ne.symm he)]
      exact R.1
  · by_cases he : e = 242
    · exact w1_set (P := fun z => vp_in z 21) (h2 he) (R.2.2 j hj)
    · rw [w1_ne (Ne.symm he)]
      exact R.2.2 j hj
theorem RO.c {h : LH} {c c2 : Nat} (R : RO h c) (hc : c2 ≤ 8) : RO (w1 h 241 2 (nI c2)) c2 := by
  refine ⟨w1_eq, hc, fun j hj => ?_⟩
  rw [w1_ne (by decide)]
  exact R.2.2 j hj
theorem NO.hi {h : LH} {b n k e i : Nat} {v : Int32} (H : NO h b n k) (he : 240 ≤ e) : NO (w1 h e i v) b n k := by
  have := (nt_KN H.1).1
  have h15 : b ≤ 225 := by
    rcases Nat.lt_or_ge 225 b with z | z
    · exact absurd H.1 ((by decide +kernel : ∀ b, b < 240 → 225 < b → ¬ tf_K b = 0) b this z)
    · exact z
  exact H.w (by omega) (by omega) (by omega) (by omega) (by omega)
theorem nt_b225 {b : Nat} (K : tf_K b = 0) : b ≤ 225 := by
  have := (nt_KN K).1
  rcases Nat.lt_or_ge 225 b with z | z
  · exact absurd K ((by decide +kernel : ∀ b, b < 240 → 225 < b → ¬ tf_K b = 0) b this z)
  · exact z
section RT
variable {h : LH} {b d : Nat}
def rt_add (h : LH) (e al : Int32) : LH := if 8 ≤ h.1 241 2 then h else w1 (w1 (w1 h 242 (h.1 241 2).toNatClampNeg e) 243 (h.1 241 2).toNatClampNeg (vp_nar .boolean al)) 241 2 (h.1 241 2 + 1)
theorem sx_radd {c : Nat} (R : RO h c) (e al : Int32) : tf_Rt (d + 1) 169 [.ref 241, .int e, .int al] h tf_z (rt_add h e al) := by
  intro Q q
  refine en_X3_add (by decide) (go_X3_add_0 (by decide) ⟨fun c1 => go_X3_add_39 (by decide) ?_, fun c1 => ?_⟩)
  · rw [rt_add, if_pos c1] at q
    exact q
  · rw [rt_add, if_neg c1] at q
    have hc : vp_in (h.1 241 2) 8 := by
      rw [R.1] at c1 ⊢
      have : c < 8 := by
        rcases Nat.lt_or_ge c 8 with z | z
        · exact z
        · exact absurd (nI_le (a := 8) (b := c) z (by have := R.2.1; omega)) c1
      exact vi_of this (by omega)
    have e1 : (tf_up h.1 242 (h.1 241 2).toNatClampNeg e) 241 2 = h.1 241 2 := by
      have a1 : (w1 h 242 (h.1 241 2).toNatClampNeg e).1 241 = h.1 241 := by rw [w1_ne (by decide)]
      exact congrFun a1 2
    have e2 : (tf_up (tf_up h.1 242 (h.1 241 2).toNatClampNeg e) 243 (h.1 241 2).toNatClampNeg (vp_nar .boolean al)) 241 2 = h.1 241 2 := by
      have a1 : (w1 (w1 h 242 (h.1 241 2).toNatClampNeg e) 243 (h.1 241 2).toNatClampNeg (vp_nar .boolean al)).1 241 = h.1 241 := by rw [w1_ne (by decide), w1_ne (by decide)]
      exact congrFun a1 2
    rw [e1, e2]
    exact ⟨hc, hc, go_X3_add_39 (by decide) q⟩
theorem RO.add {c : Nat} (R : RO h c) {e : Int32} (he : vp_in e 21) (al : Int32) : RO (rt_add h e al) (if c < 8 then c + 1 else c) := by
  unfold rt_add
  rw [R.1]
  split
  · rename_i c1
    have : 8 ≤ c := (nI_leI (a := 8) (b := c) (by omega) (by have := R.2.1; omega)).mp c1
    rw [if_neg (by omega)]
    exact R
  · rename_i c1
    have h8 : c < 8 := by
      rcases Nat.lt_or_ge c 8 with z | z
      · exact z
      · exact absurd (nI_le (a := 8) (b := c) z (by have := R.2.1; omega)) c1
    rw [if_pos h8, nI_1]
    exact RO.c (RO.w (RO.w R (fun z => absurd z (by decide)) (fun _ => he)) (fun z => absurd z (by decide)) (fun z => absurd z (by decide))) (by omega)
theorem NO.radd {n k : Nat} (H : NO h b n k) (e al : Int32) : NO (rt_add h e al) b n k := by
  unfold rt_add
  split
  · exact H
  · exact ((H.hi (by decide)).hi (by decide)).hi (by decide)
theorem rt_add_lo {e : Nat} (he : e < 240) (x al : Int32) : (rt_add h x al).1 e = h.1 e := by
  unfold rt_add
  split
  · rfl
  · rw [w1_ne (by omega), w1_ne (by omega), w1_ne (by omega)]
theorem rt_add_3 (x al : Int32) (i : Nat) (hi : i ≠ 2) : (rt_add h x al).1 241 i = h.1 241 i := by
  unfold rt_add
  split
  · rfl
  · rw [w1_at hi, w1_ne (by decide), w1_ne (by decide)]
/-- up to where the ways meet -/
def rt_clb (b : Nat) : Nat → Int32 → LH → LH
  | 0, _, h => h
  | f + 1, a, h => if a = h.1 241 3 then h else if a = 7 then h else rt_clb b f (h.1 (b + 8) a.toNatClampNeg) (rt_add h (h.1 (b + 9) a.toNatClampNeg) (if h.1 (b + 2) (h.1 (b + 9) a.toNatClampNeg).toNatClampNeg = a then 1 else 0))
theorem sx_clbL {n k : Nat} {x2 : Int32} {Q : tf_Q} : ∀ (f i : Nat) (a : Int32) (h : LH) (c : Nat) (x5 : Value), NO h b n k → RO h c → i + f = 8 → vp_in a 8 → Q tf_z (rt_clb b f a h) → lx_X3_climb 298 (tf_Cd 298 (d + 1)) Q 5 [.ref 241, .ref b, .int x2, .int a, .int (nI i), x5] [] h
  | 0, i, a, h, c, x5, H, R, hi, ha, q => go_X3_climb_5 (by decide) H.1 ⟨fun _ => go_X3_climb_69 (by decide) H.1 q, fun z => absurd (nI_le (a := 8) (b := i) (by omega) (by omega)) z⟩
  | f + 1, i, a, h, c, x5, H, R, hi, ha, q => by
    have hb := nt_b225 H.1
    rw [rt_clb] at q
    refine go_X3_climb_5 (by decide) H.1 ⟨fun z => absurd z (nI_ge (a := i) (b := 8) (by omega) (by omega)), fun _ => ⟨fun c1 => go_X3_climb_69 (by decide) H.1 ?_, fun c1 => ⟨fun c2 => go_X3_climb_69 (by decide) H.1 ?_, fun c2 => ⟨vi_7 ha c2, H.ue ha c2, fun c3 => ?_, fun c3 => go_X3_climb_52 (by decide) H.1 ?_⟩⟩⟩⟩
    · rw [if_pos c1] at q
      exact q
    · rw [if_neg c1, if_pos c2] at q
      exact q
    · rw [if_neg c1, if_neg c2, if_pos c3] at q
      refine go_X3_climb_53 (by decide) H.1 (sx_radd R _ _ _ (go_X3_climb_56 (by decide) H.1 ⟨vi_7 ha c2, ?_⟩))
      rw [rt_add_lo (by omega), nI_1]
      exact sx_clbL f (i + 1) _ _ _ _ (H.radd _ _) (R.add (H.ue ha c2) _) (by omega) (H.2.2.2.2.1.at ha c2) q
    · rw [if_neg c1, if_neg c2, if_neg c3] at q
      refine go_X3_climb_53 (by decide) H.1 (sx_radd R _ _ _ (go_X3_climb_56 (by decide) H.1 ⟨vi_7 ha c2, ?_⟩))
      rw [rt_add_lo (by omega), nI_1]
      exact sx_clbL f (i + 1) _ _ _ _ (H.radd _ _) (R.add (H.ue ha c2) _) (by omega) (H.2.2.2.2.1.at ha c2) q
theorem sx_clb {n k c : Nat} (H : NO h b n k) (R : RO h c) {a : Int32} (ha : vp_in a 8) : tf_Rt (d + 2) 167 [.ref 241, .ref b, .int a] h tf_z (rt_clb b 8 a h) :=
  fun _ q => en_X3_climb (by decide) H.1 (go_X3_climb_0 (by decide) H.1 (sx_clbL 8 0 a h c _ H R (by omega) ha q))
theorem rt_clb_ok {n k : Nat} : ∀ (f : Nat) (a : Int32) (h : LH) (c : Nat), NO h b n k → RO h c → vp_in a 8 → NO (rt_clb b f a h) b n k ∧ (∃ c2, c ≤ c2 ∧ RO (rt_clb b f a h) c2) ∧ (∀ e, e < 240 → (rt_clb b f a h).1 e = h.1 e) ∧ (∀ i, i ≠ 2 → (rt_clb b f a h).1 241 i = h.1 241 i)
  | 0, a, h, c, H, R, ha => ⟨H, ⟨c, Nat.le_refl _, R⟩, fun _ _ => rfl, fun _ _ => rfl⟩
  | f + 1, a, h, c, H, R, ha => by
    unfold rt_clb
    split
    · exact ⟨H, ⟨c, Nat.le_refl _, R⟩, fun _ _ => rfl, fun _ _ => rfl⟩
    · split
      · exact ⟨H, ⟨c, Nat.le_refl _, R⟩, fun _ _ => rfl, fun _ _ => rfl⟩
      · rename_i c2
        obtain ⟨k1, ⟨c3, k2, k2b⟩, k3, k4⟩ := rt_clb_ok f (h.1 (b + 8) a.toNatClampNeg) (rt_add h (h.1 (b + 9) a.toNatClampNeg) (if h.1 (b + 2) (h.1 (b + 9) a.toNatClampNeg).toNatClampNeg = a then 1 else 0)) _ (H.radd _ _) (R.add (H.ue ha c2) _) (H.2.2.2.2.1.at ha c2)
        refine ⟨k1, ⟨c3, ?_, k2b⟩, fun e he => ?_, fun i hi => ?_⟩
        · split at k2 <;> omega
        · rw [k3 e he, rt_add_lo he]
        · rw [k4 i hi, rt_add_3 _ _ i hi]
/-- down to a point, written from its end -/
def rt_ds (b c : Nat) : Nat → Int32 → LH → LH
  | 0, _, h => h
  | f + 1, a, h => if a = 7 then h else rt_ds b c f (h.1 (b + 8) a.toNatClampNeg) (w1 (w1 h 242 (c + f) (h.1 (b + 9) a.toNatClampNeg)) 243 (c + f) (vp_nar .boolean (if h.1 (b + 2) (h.1 (b + 9) a.toNatClampNeg).toNatClampNeg = a then 0 else 1)))
theorem sx_dsL {n k c m : Nat} {x2 : Int32} {Q : tf_Q} (hcm : c + m ≤ 8) : ∀ (f : Nat) (a : Int32) (h : LH), NO h b n k → RO h c → f ≤ m → vp_in a 8 → Q tf_z (w1 (rt_ds b c f a h) 241 2 (nI (c + m))) → lx_X3_descend 298 (tf_Cd 298 d) Q 44 [.ref 241, .ref b, .int x2, .int (nI m), .int a, .int (nI (c + f) + (-1))] [] h
  | 0, a, h, H, R, hf, ha, q => by
    refine go_X3_descend_44 (by decide) H.1 ⟨fun _ => go_X3_descend_118 (by decide) H.1 ?_, fun z => absurd ?_ z⟩
    · rw [R.1, nI_add]
      exact q
    · rw [R.1, Nat.add_zero]
      exact (by decide +kernel : ∀ c, c ≤ 8 → nI c + (-1) < nI c) c R.2.1
  | f + 1, a, h, H, R, hf, ha, q => by
    have hb := nt_b225 H.1
    rw [rt_ds] at q
    have e5 : nI (c + (f + 1)) + (-1) = nI (c + f) := pk_m1 (c + f)
    rw [e5]
    have hcl : (nI (c + f)).toNatClampNeg = c + f := nI_clamp (by omega)
    have h8 : vp_in (nI (c + f)) 8 := vi_of (by omega) (by omega)
    refine go_X3_descend_44 (by decide) H.1 ⟨fun z => ?_, fun _ => ⟨fun c1 => go_X3_descend_118 (by decide) H.1 ?_, fun c1 => ?_⟩⟩
    · rw [R.1] at z
      exact absurd z (nI_nlt (by omega) (by omega))
    · rw [if_pos c1] at q
      rw [R.1, nI_add]
      exact q
    · rw [if_neg c1] at q
      have e1 : (tf_up h.1 242 (c + f) (h.1 (b + 9) a.toNatClampNeg)) 242 (c + f) = h.1 (b + 9) a.toNatClampNeg := w1_eq (h := h) (c := 242) (i := c + f) (v := h.1 (b + 9) a.toNatClampNeg)
      have e2 : (tf_up h.1 242 (c + f) (h.1 (b + 9) a.toNatClampNeg)) (b + 2) = h.1 (b + 2) := w1_ne (h := h) (c := 242) (i := c + f) (v := h.1 (b + 9) a.toNatClampNeg) (by omega)
      rw [hcl, e1, e2]
      have H2 : ∀ v, NO (w1 (w1 h 242 (c + f) (h.1 (b + 9) a.toNatClampNeg)) 243 (c + f) v) b n k := fun v => (H.hi (by decide)).hi (by decide)
      have R2 : ∀ v, RO (w1 (w1 h 242 (c + f) (h.1 (b + 9) a.toNatClampNeg)) 243 (c + f) v) c := fun v => RO.w (RO.w R (fun z => absurd z (by decide)) (fun _ => H.ue ha c1)) (fun z => absurd z (by decide)) (fun z => absurd z (by decide))
      have e8 : ∀ v, (tf_up (tf_up h.1 242 (c + f) (h.1 (b + 9) a.toNatClampNeg)) 243 (c + f) v) (b + 8) = h.1 (b + 8) := by
        intro v
        have a1 : (w1 (w1 h 242 (c + f) (h.1 (b + 9) a.toNatClampNeg)) 243 (c + f) v).1 (b + 8) = h.1 (b + 8) := by rw [w1_ne (by omega), w1_ne (by omega)]
        exact a1
      have k102 : ∀ v : Int32, Q tf_z (w1 (rt_ds b c f (h.1 (b + 8) a.toNatClampNeg) (w1 (w1 h 242 (c + f) (h.1 (b + 9) a.toNatClampNeg)) 243 (c + f) (vp_nar .boolean v))) 241 2 (nI (c + m))) → lx_X3_descend 298 (tf_Cd 298 d) Q 102 [.ref 241, .ref b, .int x2, .int (nI m), .int a, .int (nI (c + f))] [.int v, .int (nI (c + f)), .ref 243] (w1 h 242 (c + f) (h.1 (b + 9) a.toNatClampNeg)) := by
        intro v q2
        refine go_X3_descend_102 (ny0 := 8) (by decide) H.1 (by decide +kernel) (by decide +kernel) (by decide) ⟨h8, vi_7 ha c1, ?_⟩
        rw [hcl, e8]
        exact sx_dsL hcm f _ _ (H2 _) (R2 _) (by omega) (H.2.2.2.2.1.at ha c1) q2
      refine ⟨vi_7 ha c1, h8, h8, H.ue ha c1, fun c2 => go_X3_descend_101 (ny0 := 8) (by decide) H.1 (by decide +kernel) (by decide +kernel) (by decide) (k102 0 ?_), fun c2 => k102 1 ?_⟩
      · rw [if_pos c2] at q
        exact q
      · rw [if_neg c2] at q
        exact q
theorem rt_ds_ok {n k c : Nat} : ∀ (f : Nat) (a : Int32) (h : LH), NO h b n k → RO h c → vp_in a 8 → NO (rt_ds b c f a h) b n k ∧ RO (rt_ds b c f a h) c ∧ (∀ e, e < 240 → (rt_ds b c f a h).1 e = h.1 e) ∧ (rt_ds b c f a h).1 241 = h.1 241
  | 0, a, h, H, R, ha => ⟨H, R, fun _ _ => rfl, rfl⟩
  | f + 1, a, h, H, R, ha => by
    unfold rt_ds
    split
    · exact ⟨H, R, fun _ _ => rfl, rfl⟩
    · rename_i c1
      obtain ⟨k1, k2, k3, k4⟩ := rt_ds_ok (c := c) f (h.1 (b + 8) a.toNatClampNeg) (w1 (w1 h 242 (c + f) (h.1 (b + 9) a.toNatClampNeg)) 243 (c + f) (vp_nar .boolean (if h.1 (b + 2) (h.1 (b + 9) a.toNatClampNeg).toNatClampNeg = a then 0 else 1))) ((H.hi (by decide)).hi (by decide)) (RO.w (RO.w R (fun z => absurd z (by decide)) (fun _ => H.ue ha c1)) (fun z => absurd z (by decide)) (fun z => absurd z (by decide))) (H.2.2.2.2.1.at ha c1)
      refine ⟨k1, k2, fun e he => ?_, ?_⟩
      · rw [k3 e he, w1_ne (by omega), w1_ne (by omega)]
      · rw [k4, w1_ne (by decide), w1_ne (by decide)]
/-- how many edges lie between, if they fit -/
def rt_dm (h : LH) (b n c : Nat) (a : Int32) : Nat := if nt_dep h b n a < nt_dep h b n (h.1 241 3) then 9 else nt_dep h b n a - nt_dep h b n (h.1 241 3)
def rt_desc (h : LH) (b n c : Nat) (a : Int32) : LH := if c + rt_dm h b n c a ≤ 8 then w1 (rt_ds b c (rt_dm h b n c a) a h) 241 2 (nI (c + rt_dm h b n c a)) else h
theorem sx_desc {n k c : Nat} (H : NO h b n k) (R : RO h c) (hj : vp_in (h.1 241 3) 8) {a : Int32} (ha : vp_in a 8) : tf_Rt (d + 2) 168 [.ref 241, .ref b, .int a] h tf_z (rt_desc h b n c a) := by
  intro Q q
  have hb := H.2.1
  have hc := R.2.1
  have d1 := nt_dep_le h b n a
  have d2 := nt_dep_le h b n (h.1 241 3)
  refine en_X3_descend (by decide) H.1 (go_X3_descend_0 (by decide) H.1 (sx_dep H.1 H.2.2.1 hb.2.1 H.2.2.2.2.1 ha _ (go_X3_descend_5 (by decide) H.1 (sx_dep H.1 H.2.2.1 hb.2.1 H.2.2.2.2.1 hj _ (go_X3_descend_13 (by decide) H.1 ⟨fun c1 => go_X3_descend_30 (by decide) H.1 ?_, fun c1 => ⟨fun c2 => ?_, fun c2 => go_X3_descend_30 (by decide) H.1 ?_⟩⟩)))))
  · have hlt : nt_dep h b n a < nt_dep h b n (h.1 241 3) := by
      rcases Nat.lt_or_ge (nt_dep h b n a) (nt_dep h b n (h.1 241 3)) with z | z
      · exact z
      · rw [pk_sub z] at c1
        exact absurd c1 (nI_pos (by omega))
    rw [rt_desc, rt_dm, if_pos hlt, if_neg (by omega)] at q
    exact q
  · have hge : ¬ nt_dep h b n a < nt_dep h b n (h.1 241 3) := fun z => c1 (pk_sneg (by omega) z)
    have hm : rt_dm h b n c a = nt_dep h b n a - nt_dep h b n (h.1 241 3) := by rw [rt_dm, if_neg hge]
    rw [pk_sub (by omega), ← hm] at c2 ⊢
    rw [R.1, nI_add] at c2
    have hfit : c + rt_dm h b n c a ≤ 8 := (nI_leI (a := c + rt_dm h b n c a) (b := 8) (by omega) (by omega)).mp c2
    rw [rt_desc, if_pos hfit] at q
    refine go_X3_descend_31 (by decide) H.1 ?_
    rw [R.1, nI_add, Int32.sub_eq_add_neg]
    exact sx_dsL hfit _ a h H R (Nat.le_refl _) ha q
  · have hge : ¬ nt_dep h b n a < nt_dep h b n (h.1 241 3) := fun z => c1 (pk_sneg (by omega) z)
    have hm : rt_dm h b n c a = nt_dep h b n a - nt_dep h b n (h.1 241 3) := by rw [rt_dm, if_neg hge]
    rw [pk_sub (by omega), ← hm, R.1, nI_add] at c2
    have hfit : ¬ c + rt_dm h b n c a ≤ 8 := fun z => c2 (nI_le (a := c + rt_dm h b n c a) (b := 8) z (by omega))
    rw [rt_desc, if_neg hfit] at q
    exact q
theorem rt_desc_ok {n k c : Nat} (H : NO h b n k) (R : RO h c) {a : Int32} (ha : vp_in a 8) : NO (rt_desc h b n c a) b n k ∧ (∃ c2, c2 ≤ c + 7 ∧ RO (rt_desc h b n c a) c2) ∧ (∀ e, e < 240 → (rt_desc h b n c a).1 e = h.1 e) ∧ (∀ i, i ≠ 2 → (rt_desc h b n c a).1 241 i = h.1 241 i) := by
  have hb := H.2.1
  have d1 := nt_dep_le h b n a
  have hR := R.2.1
  unfold rt_desc
  split
  · rename_i hfit
    obtain ⟨k1, k2, k3, k4⟩ := rt_ds_ok (c := c) (rt_dm h b n c a) a h H R ha
    refine ⟨k1.hi (by decide), ⟨c + rt_dm h b n c a, ?_, RO.c k2 hfit⟩, fun e he => ?_, fun i hi => ?_⟩
    · unfold rt_dm at hfit ⊢
      split
      · rename_i z
        rw [if_pos z] at hfit
        omega
      · omega
    · rw [w1_ne (by omega), k3 e he]
    · rw [w1_at hi, k4]
  · exact ⟨H, ⟨c, by omega, R⟩, fun _ _ => rfl, fun _ _ => rfl⟩
/-- where two ways up meet -/
def rt_meet (h : LH) (b n : Nat) (o : Int32) : Nat → Int32 → Int32
  | 0, _ => 7
  | f + 1, a => if a = 7 then 7 else if nt_onw h b a n o = true then a else rt_meet h b n o f (h.1 (b + 8) a.toNatClampNeg)
theorem rt_meet_in {n k : Nat} (H : NO h b n k) (o : Int32) : ∀ (f : Nat) (a : Int32), vp_in a 8 → vp_in (rt_meet h b n o f a) 8
  | 0, _, _ => vi_of (j := 7) (m := 8) (by omega) (by omega)
  | f + 1, a, ha => by
    unfold rt_meet
    split
    · exact vi_of (j := 7) (m := 8) (by omega) (by omega)
    · rename_i c
      split
      · exact ha
      · exact rt_meet_in H o f _ (H.2.2.2.2.1.at ha c)
theorem sx_meetL {n k : Nat} (H : NO h b n k) {x1 o : Int32} (ho : vp_in o 8) {Q : tf_Q} : ∀ (f i : Nat) (a : Int32), i + f = 8 → vp_in a 8 → Q (.int (rt_meet h b n o f a)) h → lx_X3_meeting 298 (tf_Cd 298 (d + 1)) Q 5 [.ref b, .int x1, .int o, .int a, .int (nI i)] [] h
  | 0, i, a, hi, ha, q => go_X3_meeting_5 (by decide) H.1 ⟨fun _ => go_X3_meeting_42 (by decide) H.1 q, fun z => absurd (nI_le (a := 8) (b := i) (by omega) (by omega)) z⟩
  | f + 1, i, a, hi, ha, q => by
    have hb := H.2.1
    rw [rt_meet] at q
    refine go_X3_meeting_5 (by decide) H.1 ⟨fun z => absurd z (nI_ge (a := i) (b := 8) (by omega) (by omega)), fun _ => ⟨fun c => go_X3_meeting_42 (by decide) H.1 ?_, fun c => sx_onw H.1 H.2.2.1 hb.2.1 H.2.2.2.2.1 ho a _ (go_X3_meeting_24 (by decide) H.1 ⟨fun c2 => go_X3_meeting_29 (by decide) H.1 ⟨vi_7 ha c, ?_⟩, fun c2 => ?_⟩)⟩⟩
    · rw [if_pos c] at q
      exact q
    · rw [bI_0] at c2
      rw [if_neg c, c2] at q
      rw [nI_1]
      exact sx_meetL H ho f (i + 1) _ (by omega) (H.2.2.2.2.1.at ha c) q
    · rw [bI_0, Bool.not_eq_false] at c2
      rw [if_neg c, if_pos c2] at q
      exact q
theorem sx_meet {n k : Nat} (H : NO h b n k) {a o : Int32} (ha : vp_in a 8) (ho : vp_in o 8) : tf_Rt (d + 2) 166 [.ref b, .int a, .int o] h (.int (rt_meet h b n o 8 a)) h :=
  fun _ q => en_X3_meeting (by decide) H.1 (go_X3_meeting_0 (by decide) H.1 (sx_meetL H ho 8 0 a (by omega) ha q))
/-- the least room on the way -/
def rt_lr (h : LH) (b : Nat) : Nat → Nat → Int32 → Int32
  | 0, _, r => r
  | f + 1, i, r => rt_lr h b f (i + 1) (if nt_room h b (h.1 242 i) (h.1 243 i) < r then nt_room h b (h.1 242 i) (h.1 243 i) else r)
theorem sx_lrL (K : tf_K b = 0) {c : Nat} (R : RO h c) {Q : tf_Q} : ∀ (f i : Nat) (r : Int32), i + f = c → Q (.int (rt_lr h b f i r)) h → lx_X3_leastRoom 298 (tf_Cd 298 (d + 1)) Q 5 [.ref 241, .ref b, .int r, .int (nI i)] [] h
  | 0, i, r, hi, q => by
    have hc := R.2.1
    refine go_X3_leastRoom_5 (by decide) K ⟨fun _ => go_X3_leastRoom_40 (by decide) K q, fun z => absurd ?_ z⟩
    rw [R.1]
    exact nI_le (by omega) (by omega)
  | f + 1, i, r, hi, q => by
    have hc := R.2.1
    have h8 : vp_in (nI i) 8 := vi_of (by omega) (by omega)
    have hcl : (nI i).toNatClampNeg = i := nI_clamp (by omega)
    refine go_X3_leastRoom_5 (by decide) K ⟨fun z => ?_, fun _ => ⟨h8, h8, ?_⟩⟩
    · rw [R.1] at z
      exact absurd z (nI_ge (by omega) (by omega))
    · rw [hcl]
      refine sx_room K (R.2.2 i (by omega)) _ _ (go_X3_leastRoom_30 (by decide) K ?_)
      rw [tf_Cd_ext (by decide)]
      refine ⟨rfl, go_X3_leastRoom_33 (by decide) K ?_⟩
      rw [nI_1]
      exact sx_lrL K R f (i + 1) _ (by omega) q
theorem sx_lr (K : tf_K b = 0) {c : Nat} (R : RO h c) : tf_Rt (d + 2) 162 [.ref 241, .ref b] h (.int (rt_lr h b c 0 1000000)) h :=
  fun _ q => en_X3_leastRoom (by decide) K (go_X3_leastRoom_0 (by decide) K (sx_lrL K R c 0 _ (by omega) q))
def rt_cs (h : LH) (b : Nat) : Nat → Nat → Int32 → Int32
  | 0, _, r => r
  | f + 1, i, r => rt_cs h b f (i + 1) (r + (if h.1 243 i = 0 then -(h.1 (b + 5) (h.1 242 i).toNatClampNeg) else h.1 (b + 5) (h.1 242 i).toNatClampNeg))
theorem sx_csL (K : tf_K b = 0) {c : Nat} (R : RO h c) {Q : tf_Q} : ∀ (f i : Nat) (r : Int32), i + f = c → Q (.int (rt_cs h b f i r)) h → lx_X3_cost 298 (tf_Cd 298 d) Q 4 [.ref 241, .ref b, .int r, .int (nI i)] [] h
  | 0, i, r, hi, q => by
    have hc := R.2.1
    refine go_X3_cost_4 (by decide) K ⟨fun _ => go_X3_cost_56 (by decide) K q, fun z => absurd ?_ z⟩
    rw [R.1]
    exact nI_le (by omega) (by omega)
  | f + 1, i, r, hi, q => by
    have hc := R.2.1
    have h8 : vp_in (nI i) 8 := vi_of (by omega) (by omega)
    have hcl : (nI i).toNatClampNeg = i := nI_clamp (by omega)
    have h21 := R.2.2 i (by omega)
    rw [rt_cs] at q
    refine go_X3_cost_4 (by decide) K ⟨fun z => ?_, fun _ => ⟨h8, fun c1 => go_X3_cost_36 (by decide) K ⟨h8, ?_, go_X3_cost_48 (by decide) K ?_⟩, fun c1 => ⟨h8, ?_, go_X3_cost_48 (by decide) K ?_⟩⟩⟩
    · rw [R.1] at z
      exact absurd z (nI_ge (by omega) (by omega))
    · rw [hcl]
      exact h21
    · rw [hcl] at c1 ⊢
      rw [if_pos c1] at q
      rw [nI_1]
      exact sx_csL K R f (i + 1) _ (by omega) q
    · rw [hcl]
      exact h21
    · rw [hcl] at c1 ⊢
      rw [if_neg c1] at q
      rw [nI_1]
      exact sx_csL K R f (i + 1) _ (by omega) q
theorem sx_cs (K : tf_K b = 0) {c : Nat} (R : RO h c) : tf_Rt (d + 1) 163 [.ref 241, .ref b] h (.int (rt_cs h b c 0 0)) h :=
  fun _ q => en_X3_cost (by decide) K (go_X3_cost_0 (by decide) K (sx_csL K R c 0 0 (by omega) q))
end RT
