/-! ===== the law's loop ===== -/
section LKX
variable {p : Program} {l : Launch} {e : Env} {s : State} {m : MethodId} {below : List Frame} {meth : Method} {c : Code} {b n : Nat} {xs : Nat → Int32} {D : va_G} {cA : Nat → ClassId} {ad : Nat → Nat}
theorem lx_600 (K : lk_cx p s m meth c b n xs D cA ad) (hl : l.stackTraces = false) {t : Nat} (ht : t ≤ 511) {x4 : Int32} {x5 x6 : Value} {h : LH} (hi1 : vp_in (x4 + 1) n) (hi2 : vp_in (x4 + 2) n) (I : IZ h t) (hE : ∀ (g : LH) (y5 y6 : Value), IZ g (t + 1) → lk_At p l e s m below meth c b D cA ad (t + 1) 1234 [.ref 500, .ref 240, .ref 270, .ref 297, .int x4, y5, y6] [] g) : lk_At p l e s m below meth c b D cA ad t 600 [.ref 500, .ref 240, .ref 270, .ref 297, .int x4, x5, x6] [] h := by
  have ht1 : t + 1 ≤ 512 := by omega
  refine lk_go K (by omega) (go_L_600 ⟨hi1, hi2, ?_⟩)
  refine xl_call K hl rfl xh_ck_arc xh_w_arc rfl ck_X8_arc xt_d_arc xl_w_arc xl_d_arc ht ?_
  have fin : ∀ (g : LH) (k : Int32), g.1 = h.1 → lk_At p l e s m below meth c b D cA ad (t + 1) 617 [.ref 500, .ref 240, .ref 270, .ref 297, .int x4, x5, x6] [.int k] g := by
    intro g k eg
    have I2 : IZ g t := I.ext eg
    refine lk_go K ht1 (go_L_617 ⟨hi1, hi2, iz_ap I2 (rs_arc I2.2.1.1.2 _ _) (by omega) _ (fun w g2 q => ?_)⟩)
    obtain ⟨⟨y, rfl⟩, R⟩ := q
    exact lk_go K ht1 (go_L_635 (hE _ _ _ R))
  exact xa_arc I.2.1.1.1.1 _ _ (fun a => ⟨a, rfl, fin _ _ rfl⟩) (fin _ _ rfl)
theorem lx_640 (K : lk_cx p s m meth c b n xs D cA ad) (hl : l.stackTraces = false) {t : Nat} (ht : t ≤ 511) {x4 : Int32} {x5 x6 : Value} {h : LH} (hi1 : vp_in (x4 + 1) n) (hi2 : vp_in (x4 + 2) n) (I : IZ h t) (hE : ∀ (g : LH) (y5 y6 : Value), IZ g (t + 1) → lk_At p l e s m below meth c b D cA ad (t + 1) 1234 [.ref 500, .ref 240, .ref 270, .ref 297, .int x4, y5, y6] [] g) : lk_At p l e s m below meth c b D cA ad t 640 [.ref 500, .ref 240, .ref 270, .ref 297, .int x4, x5, x6] [] h := by
  have ht1 : t + 1 ≤ 512 := by omega
  refine lk_go K (by omega) (go_L_640 ⟨hi1, hi2, ?_⟩)
  refine xl_call K hl rfl xh_ck_point xh_w_point rfl ck_X8_point xt_d_point xl_w_point xl_d_point ht ?_
  have fin : ∀ (g : LH) (k : Int32), g.1 = h.1 → lk_At p l e s m below meth c b D cA ad (t + 1) 657 [.ref 500, .ref 240, .ref 270, .ref 297, .int x4, x5, x6] [.int k] g := by
    intro g k eg
    have I2 : IZ g t := I.ext eg
    refine lk_go K ht1 (go_L_657 ⟨hi1, hi2, iz_ap I2 (rs_point I2.2.1.1.2 _ _) (by omega) _ (fun w g2 q => ?_)⟩)
    obtain ⟨⟨y, rfl⟩, R⟩ := q
    exact lk_go K ht1 (go_L_675 (hE _ _ _ R))
  exact xa_point I.2.1.1.1.1 _ _ (fun a => ⟨a, rfl, fin _ _ rfl⟩) (fin _ _ rfl)
theorem lk_lt {n t : Nat} (hn : n ≤ 2048) (ht : t ≤ 512) : Int32.ofNat n - 4 < nI (4 * t) ↔ n < 4 * t + 4 := by
  have e1 : (nI (4 * t)).toInt = ((4 * t : Nat) : Int) := nI_toInt (by omega)
  have e2 : (Int32.ofNat n - 4).toInt = (n : Int) - 4 := by
    have : (nI n - nI 4).toInt = (n : Int) - (4 : Nat) := pk_sub_toInt (by omega) (by decide)
    exact this
  rw [Int32.lt_iff_toInt_lt, e1, e2]
  omega
theorem law_run (K : lk_cx p s m meth c b n xs D cA ad) (hl : l.stackTraces = false) (hn : n ≤ 2048) : ∀ (f t : Nat) (h : LH) (x5 x6 : Value), t + f = 513 → IZ h t → (t = 0 ∨ 4 * t ≤ n) → lk_At p l e s m below meth c b D cA ad t 23 [.ref 500, .ref 240, .ref 270, .ref 297, .int (nI (4 * t)), x5, x6] [] h := by
  intro f
  induction f with
  | zero =>
    intro t h x5 x6 hf I h4
    exfalso
    omega
  | succ f ih =>
    intro t h x5 x6 hf I h4
    have ht : t ≤ 512 := by omega
    refine lk_go K ht (go_L_23 ⟨fun _ => lk_go K ht (go_L_1240 rfl), fun q => ?_⟩)
    have hle : 4 * t + 4 ≤ n := by
      rcases Nat.lt_or_ge n (4 * t + 4) with z | z
      · exact absurd ((lk_lt hn ht).mpr z) q
      · exact z
    have ht5 : t ≤ 511 := by omega
    have ht1 : t + 1 ≤ 512 := by omega
    have hi0 : vp_in (nI (4 * t)) n := vi_of (by omega) (by omega)
    have hi1 : vp_in (nI (4 * t) + 1) n := by
      have e9 : nI (4 * t) + 1 = nI (4 * t + 1) := nI_add (4 * t) 1
      rw [e9]
      exact vi_of (by omega) (by omega)
    have hi2 : vp_in (nI (4 * t) + 2) n := by
      have e9 : nI (4 * t) + 2 = nI (4 * t + 2) := nI_add (4 * t) 2
      rw [e9]
      exact vi_of (by omega) (by omega)
    have hi3 : vp_in (nI (4 * t) + 3) n := by
      have e9 : nI (4 * t) + 3 = nI (4 * t + 3) := nI_add (4 * t) 3
      rw [e9]
      exact vi_of (by omega) (by omega)
    have hE1 : ∀ (g : LH) (y5 y6 : Value), IZ g (t + 1) → lk_At p l e s m below meth c b D cA ad (t + 1) 1234 [.ref 500, .ref 240, .ref 270, .ref 297, .int (nI (4 * t)), y5, y6] [] g := by
      intro g y5 y6 I2
      refine lk_go K ht1 (go_L_1234 ?_)
      have e9 : nI (4 * t) + 4 = nI (4 * (t + 1)) := nI_add (4 * t) 4
      rw [e9]
      exact ih (t + 1) g y5 y6 (by omega) I2 (Or.inr (by omega))
    have hE : ∀ (y5 y6 : Value) (g : LH), IZ g (t + 1) → lk_At p l e s m below meth c b D cA ad t 1234 [.ref 500, .ref 240, .ref 270, .ref 297, .int (nI (4 * t)), y5, y6] [] g := fun y5 y6 g I2 => lk_wide (hE1 g y5 y6 I2)
    refine ⟨hi0, fun _ => hE _ _ _ (I.up (by omega)), ?_⟩
    exact ⟨fun _ => lcs_0 K ht hi1 hi2 (iz_0 I _) (hE _ _),
      fun _ => lcs_1 K ht  (iz_1 I ht5) (hE _ _),
      fun _ => lcs_2 K ht hi1 (fun _ _ => iz_2 I _) (hE _ _),
      fun _ => lcs_3 K ht  ((ze_3 I ht5).sp) (hE _ _),
      fun _ => lcs_4 K ht hi1 ((ze_4 I ht5 _).sp) (hE _ _),
      fun _ => lcs_5 K ht hi1 ((ze_5 I ht5 _).sp) (hE _ _),
      fun _ => lcs_6 K ht hi1 hi2 hi3 ((ze_6 I ht5 _ _ _).sp) (hE _ _),
      fun _ => lcs_7 K ht hi1 hi2 (fun _ hy => (ze_7 I ht5 _ _ hy).sp) (hE _ _),
      fun _ => lcs_8 K ht hi1 hi2 ((ze_8 I ht5 _ _).sp) (hE _ _),
      fun _ => lcs_9 K ht hi1 hi2 ((ze_9 I ht5 _ _).sp) (hE _ _),
      fun _ => lcs_10 K ht  (iz_10 I ht5) (hE _ _),
      fun _ => lcs_11 K ht  ((ze_11 I ht5).sp) (hE _ _),
      fun _ => lcs_12 K ht  ((ze_12 I).sp) (hE _ _),
      fun _ => lcs_13 K ht hi1 (iz_13 I _) (hE _ _),
      fun _ => lx_600 K hl ht5 hi1 hi2 I hE1,
      fun _ => lx_640 K hl ht5 hi1 hi2 I hE1,
      fun _ => lcs_16 K ht hi1 (iz_16 I _) (hE _ _),
      fun _ => lcs_17 K ht hi1 hi2 hi3 (iz_17 I _ _ _) (hE _ _),
      fun _ => lcs_18 K ht hi1 (iz_18 I _) (hE _ _),
      fun _ => lcs_19 K ht hi1 hi2 (iz_19 I ht5 _ _) (hE _ _),
      fun _ => lcs_20 K ht hi1 (iz_20 I _) (hE _ _),
      fun _ => lcs_21 K ht hi1 hi2 (fun _ _ => iz_21 I _ _) (hE _ _),
      fun _ => lcs_22 K ht hi1 hi2 (iz_22 I _ _) (hE _ _),
      fun _ => lcs_23 K ht hi1 hi2 (iz_23 I _ _) (hE _ _),
      fun _ => lcs_24 K ht hi1 (iz_24 I _) (hE _ _),
      fun _ => lcs_25 K ht hi1 hi2 (fun _ _ => iz_25 I _ _) (hE _ _),
      fun _ => lcs_26 K ht  (iz_26 I ht5) (hE _ _),
      fun _ => lcs_27 K ht  (iz_27 I) (hE _ _),
      fun _ => lcs_28 K ht  (iz_28 I) (hE _ _),
      fun _ => lcs_29 K ht hi1 (iz_29 I ht5 _) (hE _ _),
      fun _ => lcs_30 K ht hi1 hi2 (iz_30 I ht5 _ _) (hE _ _),
      fun _ => lcs_31 K ht hi1 hi2 (ze_31 I ht5 _ _) (hE _ _),
      fun _ => lcs_32 K ht hi1 (iz_32 I _) (hE _ _),
      fun _ => lcs_33 K ht hi1 (iz_33 I _) (hE _ _), trivial⟩
end LKX

