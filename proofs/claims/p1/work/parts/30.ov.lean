/-! ===== the reference keeps a row: told at once ===== -/
def kp_c (k : Nat) (h : LH) : LH := (fun c => if c = 274 then (fun i => if i < k then h.1 271 i else h.1 274 i) else h.1 c, h.2)
def kp_H (h : LH) : LH := (tf_up (kp_c 170 h).1 270 5 1, h.2)
theorem kp_c0 (h : LH) : kp_c 0 h = h := by
  obtain ⟨h1, h2⟩ := h
  simp only [kp_c, Prod.mk.injEq, and_true]
  funext c i
  by_cases hc : c = 274
  · subst hc
    simp
  · simp [hc]
theorem kp_step (k : Nat) (h : LH) : (tf_up (kp_c k h).1 274 k ((kp_c k h).1 271 k), (kp_c k h).2) = kp_c (k + 1) h := by
  obtain ⟨h1, h2⟩ := h
  simp only [kp_c, Prod.mk.injEq, and_true]
  funext c i
  simp only [tf_up, upd]
  by_cases hc : c = 274
  · subst hc
    by_cases hi : i = k
    · subst hi
      simp [upd]
    · by_cases h9 : i < k
      · simp [upd, hi, h9, show i < k + 1 by omega]
      · simp [upd, hi, h9, show ¬ i < k + 1 by omega]
  · simp [hc]
theorem kp_loop {d : Nat} {Q : tf_Q} {h : LH} (h0 : h.1 270 5 = 0) (q : Q tf_z (kp_H h)) : ∀ (f k : Nat), k + f = 170 → lx_X9_keeps 298 (tf_Cd 298 d) Q 52 [.ref 270, .int 0, .int (nI k)] [] (kp_c k h)
  | 0, k, hk => by
    have : k = 170 := by omega
    subst this
    refine go_X9_keeps_52 (by decide) ⟨fun _ => go_X9_keeps_92 (by decide) ?_, fun c => absurd (nI_le (a := 170) (b := 170) (Nat.le_refl _) (by omega)) c⟩
    have e : (kp_c 170 h).1 270 5 + 1 = 1 := by
      show h.1 270 5 + 1 = 1
      rw [h0]
      decide
    rw [e]
    exact q
  | f + 1, k, hk => by
    have e1 : (173 * (0 : Int32)) + nI k = nI k := by simp
    have e0 : (kp_c k h).1 270 5 = 0 := h0
    have e2 : (170 * ((kp_c k h).1 270 5)) + nI k = nI k := by rw [e0]; simp
    refine go_X9_keeps_52 (by decide) ⟨fun c => absurd c (nI_ge (a := k) (b := 170) (by omega) (by omega)), fun _ => ⟨?_, ?_, ?_⟩⟩
    · exact pk_in k 865 (by omega) e1
    · exact pk_in k 1700 (by omega) e2
    · rw [e2, e1, nI_clamp (by omega), kp_step, nI_1]
      exact kp_loop h0 q f (k + 1) (by omega)
theorem kp_ok {d : Nat} {Q : tf_Q} {h : LH} (h0 : h.1 270 5 = 0) (q : Q tf_z (kp_H h)) : tf_Cd 298 (d + 1) 54 [.ref 270, .int 0] h Q := by
  refine en_X9_keeps (by decide) (go_X9_keeps_0 (by decide) ⟨fun c => ?_, fun _ => go_X9_keeps_50 (by decide) ?_⟩)
  · rw [h0] at c
    exact absurd c (by decide)
  · have := kp_loop (d := d) h0 q 170 0 rfl
    rw [kp_c0] at this
    exact this
def kp_ov (kn : Nat) (As : List tf_av) (h : LH) : Option (Value × LH) := if kn = 54 then (match As with
  | [.inl (.ref r), .inl (.int s)] => if r = 270 ∧ s = 0 ∧ h.1 270 5 = 0 then some (tf_z, kp_H h) else none
  | _ => none) else none
theorem kp_ov_ok {kn d : Nat} {As : List tf_av} {As' : List Value} {h : LH} {v : Value} {h' : LH} (hx : kp_ov kn As h = some (v, h')) (hg : tf_gl As As') (Q : tf_Q) (hq : Q v h') : tf_Cd 298 (d + 1) kn As' h Q := by
  unfold kp_ov at hx
  split at hx
  · rename_i hk
    subst hk
    split at hx
    · split at hx
      · rename_i hc
        cases hx
        obtain ⟨rfl, rfl, h0⟩ := hc
        obtain ⟨s1, e1, hg⟩ := tf_glk hg
        obtain ⟨s2, e2, hg⟩ := tf_glk hg
        have e3 := tf_gl_nil hg
        subst e3
        subst e2
        subst e1
        exact kp_ok h0 hq
      · cases hx
    · cases hx
  · cases hx
/-- method kn with d levels of calls, run, with ranges and with what is told at once -/
def tf_yo (fu : Nat) : Nat → Nat → List tf_av → LH → Option (Value × LH)
  | 0, kn, As, h => (match tf_kn As with | some Bs => tf_ye 298 kn Bs h | none => none)
  | d + 1, kn, As, h => match kp_ov kn As h with
    | some r => some r
    | none => if kn < 1000 then (if tf_rca 298 (tf_mc kn) (tf_ml kn) As = true then tf_yr 298 (tf_F (tf_mo kn)) (tf_M (tf_mo kn)) (tf_I (tf_mo kn)) (tf_yo fu d) (tf_rkOf (tf_mr kn)) (tf_B kn) fu 0 (tf_ena (tf_ml kn) As) [] h else none) else (match tf_kn As with | some Bs => tf_ye 298 kn Bs h | none => none)
set_option maxRecDepth 100000 in
theorem tf_yo_ok {fu : Nat} : ∀ (d kn : Nat) (As : List tf_av) (As' : List Value) (h : LH) (v : Value) (h' : LH), tf_yo fu d kn As h = some (v, h') → tf_gl As As' → ∀ Q : tf_Q, Q v h' → tf_Cd 298 d kn As' h Q
  | 0, kn, As, As', h, v, h', hx, hg, Q, hq => by
    simp only [tf_yo] at hx
    split at hx
    · rename_i hk
      rw [tf_kn_ok hk hg]
      exact tf_ye_ok hx Q hq
    · cases hx
  | d + 1, kn, As, As', h, v, h', hx, hg, Q, hq => by
    simp only [tf_yo] at hx
    split at hx
    · rename_i r hov
      cases hx
      exact kp_ov_ok hov hg Q hq
    · simp only [tf_Cd]
      split at hx
      · rename_i hk
        rw [if_pos hk]
        split at hx
        · rename_i hrc
          exact ⟨tf_rca_ok hrc hg, tf_yr_ok (tf_yo_ok d) _ _ _ [] _ [] _ v h' (tf_ena_ok hg) trivial hx hq⟩
        · cases hx
      · rename_i hk
        rw [if_neg hk]
        split at hx
        · rename_i hk
          rw [tf_kn_ok hk hg]
          exact tf_ye_ok hx Q hq
        · cases hx
