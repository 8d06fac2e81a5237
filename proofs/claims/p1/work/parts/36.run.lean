/-! ===== arc and point, run ===== -/
def xz_b (hp : List Nat) (F : Nat → Option (Nat × Nat)) (M : Nat → Option (Nat × Nat × Bool)) (I : Nat → Option Value) (call : Nat → List tf_av → LH → Option (Value × LH)) (rk : Nat) : Nat → List (Instr × Nat) → List tf_av → List tf_av → LH → Option ((Nat × List tf_av × List tf_av × LH) ⊕ ((Value × LH) ⊕ LH))
  | pc, [], L, st, h => some (.inl (pc, L, st, h))
  | pc, (i, n) :: r, L, st, h => if hp.contains pc = true then (match st with | [] => some (.inr (.inr h)) | _ => none) else (match tf_ys 298 F M I call rk pc i L st h with
    | some (.inl (L, st, h)) => xz_b hp F M I call rk (pc + n) r L st h
    | some (.inr (.inl q)) => some (.inl q)
    | some (.inr (.inr q)) => some (.inr (.inl q))
    | none => none)
theorem xz_b_ok {hp : List Nat} {C : tf_C} {F : Nat → Option (Nat × Nat)} {M : Nat → Option (Nat × Nat × Bool)} {I : Nat → Option Value} {call : Nat → List tf_av → LH → Option (Value × LH)} {rk : Nat} {Q : tf_Q} {QX : LH → Prop} {X : tf_X} (hc : ∀ kn As As' h v h', call kn As h = some (v, h') → tf_gl As As' → ∀ Q : tf_Q, Q v h' → C kn As' h Q) : ∀ (b : List (Instr × Nat)) (pc : Nat) (L st : List tf_av) (L' st' : List Value) (h : LH) (r : (Nat × List tf_av × List tf_av × LH) ⊕ ((Value × LH) ⊕ LH)), tf_gl L L' → tf_gl st st' → xz_b hp F M I call rk pc b L st h = some r → (match r with | .inl (pc, L, st, h) => ∀ L' st', tf_gl L L' → tf_gl st st' → X pc L' st' h | .inr (.inl (v, h)) => Q v h | .inr (.inr h) => QX h) → tf_wp 298 C F M I (xt_E hp QX) rk Q X pc b L' st' h
  | [], pc, L, st, L', st', h, r, hL, hS, hx, hr => by
    cases hx
    exact hr _ _ hL hS
  | (i, n) :: b, pc, L, st, L', st', h, r, hL, hS, hx, hr => by
    simp only [xz_b] at hx
    simp only [tf_wp, xt_E]
    split at hx
    · rename_i hm
      rw [if_pos hm]
      split at hx
      · cases hx
        exact ⟨tf_gl_nil hS, hr⟩
      · cases hx
    · rename_i hm
      rw [if_neg hm]
      split at hx
      · rename_i hs
        exact tf_ys_ok hc hL hS hs (fun L2 st2 hL2 hS2 => xz_b_ok hc b (pc + n) _ _ L2 st2 _ r hL2 hS2 hx hr)
      · rename_i hs
        cases hx
        exact tf_ys_ok hc hL hS hs hr
      · rename_i hs
        cases hx
        exact tf_ys_ok hc hL hS hs hr
      · cases hx
def xz_k (Q : tf_Q) (QX : LH → Prop) (r : (Value × LH) ⊕ LH) : Prop := match r with
  | .inl (v, h) => Q v h
  | .inr h => QX h
def xz_r (hp : List Nat) (F : Nat → Option (Nat × Nat)) (M : Nat → Option (Nat × Nat × Bool)) (I : Nat → Option Value) (call : Nat → List tf_av → LH → Option (Value × LH)) (rk : Nat) (B : tf_Bk) : Nat → Nat → List tf_av → List tf_av → LH → Option ((Value × LH) ⊕ LH)
  | 0, _, _, _, _ => none
  | n + 1, pc, L, st, h => match xz_b hp F M I call rk pc (tf_at B pc) L st h with
    | some (.inl (pc, L, st, h)) => xz_r hp F M I call rk B n pc L st h
    | some (.inr r) => some r
    | none => none
theorem xz_r_ok {hp : List Nat} {C : tf_C} {F : Nat → Option (Nat × Nat)} {M : Nat → Option (Nat × Nat × Bool)} {I : Nat → Option Value} {call : Nat → List tf_av → LH → Option (Value × LH)} {rk : Nat} {B : tf_Bk} {Q : tf_Q} {QX : LH → Prop} (hc : ∀ kn As As' h v h', call kn As h = some (v, h') → tf_gl As As' → ∀ Q : tf_Q, Q v h' → C kn As' h Q) : ∀ (n pc : Nat) (L st : List tf_av) (L' st' : List Value) (h : LH) (r : (Value × LH) ⊕ LH), tf_gl L L' → tf_gl st st' → xz_r hp F M I call rk B n pc L st h = some r → xz_k Q QX r → tf_LW 298 C F M I (xt_E hp QX) rk B Q pc L' st' h
  | 0, _, _, _, _, _, _, _, _, _, hx, _ => by cases hx
  | n + 1, pc, L, st, L', st', h, r, hL, hS, hx, hq => by
    simp only [xz_r] at hx
    refine tf_LW_go ?_
    split at hx
    · rename_i hs
      exact xz_b_ok hc _ _ _ _ _ _ _ _ hL hS hs (fun L2 st2 hL2 hS2 => xz_r_ok hc n _ _ _ L2 st2 _ r hL2 hS2 hx hq)
    · rename_i r2 hs
      cases hx
      refine xz_b_ok hc _ _ _ _ _ _ _ _ hL hS hs ?_
      rcases r with ⟨v, h9⟩ | h9
      · exact hq
      · exact hq
    · cases hx
def xz_run (B : tf_Bk) (hp : List Nat) (As : List tf_av) (h : LH) : Option ((Value × LH) ⊕ LH) := if tf_rca 298 6 3 As = true then xz_r hp (tf_F 6) (tf_M 6) (tf_I 6) (tf_yo 100000 6) 1 B 1000 0 (tf_ena 3 As) [] h else none
theorem xz_run_ok {B : tf_Bk} {hp : List Nat} {As : List tf_av} {As' : List Value} {h : LH} {r : (Value × LH) ⊕ LH} (hx : xz_run B hp As h = some r) (hg : tf_gl As As') {Q : tf_Q} {QX : LH → Prop} (hq : xz_k Q QX r) : xt_Cd B hp As' h Q QX := by
  unfold xz_run at hx
  split at hx
  · rename_i hrc
    exact ⟨tf_rca_ok hrc hg, xz_r_ok (tf_yo_ok 6) _ _ _ [] _ [] _ r (tf_ena_ok hg) trivial hx hq⟩
  · cases hx
/-- arc or point, then the reference's, then whether it threw: the same -/
def lk_thr (B : tf_Bk) (hp : List Nat) (km : Nat) (x y : Int32) (h : LH) (P : LH → Prop) : Prop :=
  (∃ (a b : Int32) (g g2 g3 : LH), (∀ (Q : tf_Q) (QX : LH → Prop), Q (.int a) g → xt_Cd B hp [.ref 240, .int x, .int y] h Q QX) ∧ tf_Rt 11 km [.ref 270, .int x, .int y] (g.1, tf_upL g.2 297 0 a.toInt64) (.int b) g2 ∧ tf_Rt 11 0 [.ref 270] g2 (.int 0) g3 ∧ lg_cmp (g3.2 297 (0 : Int32).toNatClampNeg) b.toInt64 = 0 ∧ P g3) ∨
  (∃ (b : Int32) (g g2 g3 : LH), (∀ (Q : tf_Q) (QX : LH → Prop), QX g → xt_Cd B hp [.ref 240, .int x, .int y] h Q QX) ∧ tf_Rt 11 km [.ref 270, .int x, .int y] g (.int b) g2 ∧ tf_Rt 11 0 [.ref 270] g2 (.int 1) g3 ∧ P g3)
def p1_px (B : tf_Bk) (hp : List Nat) (km : Nat) (As Bs : List tf_av) : Bool := match xz_run B hp As tk_h with
  | some (.inl (.int a, g)) => (match tf_yo 100000 11 km Bs (g.1, tf_upL g.2 297 0 a.toInt64) with
    | some (.int b, g2) => (match tf_yo 100000 11 0 [p1_M] g2 with
      | some (.int th, g3) => decide (th = 0) && decide (lg_cmp (g3.2 297 (0 : Int32).toNatClampNeg) b.toInt64 = 0)
      | _ => false)
    | _ => false)
  | some (.inr g) => (match tf_yo 100000 11 km Bs g with
    | some (.int _, g2) => (match tf_yo 100000 11 0 [p1_M] g2 with
      | some (.int th, _) => decide (th = 1)
      | _ => false)
    | _ => false)
  | _ => false
theorem p1_px_ok {B : tf_Bk} {hp : List Nat} {km : Nat} {As Bs : List tf_av} {x y : Int32} (h : p1_px B hp km As Bs = true) (ha : tf_gl As [.ref 240, .int x, .int y]) (hb : tf_gl Bs [.ref 270, .int x, .int y]) : lk_thr B hp km x y tk_h (fun _ => True) := by
  unfold p1_px at h
  split at h
  · rename_i a g hx
    split at h
    · rename_i b g2 hm
      split at h
      · rename_i th g3 ht
        simp only [Bool.and_eq_true, decide_eq_true_eq] at h
        obtain ⟨rfl, hc⟩ := h
        exact Or.inl ⟨a, b, g, g2, g3, fun Q QX hq => xz_run_ok hx ha hq, fun Q hq => tf_yo_ok _ _ _ _ _ _ _ hm hb Q hq, fun Q hq => tf_yo_ok _ _ _ _ _ _ _ ht (show tf_gl [p1_M] [.ref 270] from ⟨rfl, trivial⟩) Q hq, hc, trivial⟩
      · cases h
    · cases h
  · rename_i g hx
    split at h
    · rename_i b g2 hm
      split at h
      · rename_i th g3 ht
        have h := of_decide_eq_true h
        subst h
        exact Or.inr ⟨b, g, g2, g3, fun Q QX hq => xz_run_ok hx ha hq, fun Q hq => tf_yo_ok _ _ _ _ _ _ _ hm hb Q hq, fun Q hq => tf_yo_ok _ _ _ _ _ _ _ ht (show tf_gl [p1_M] [.ref 270] from ⟨rfl, trivial⟩) Q hq, trivial⟩
      · cases h
    · cases h
  · cases h
def p1_cx (B : tf_Bk) (hp : List Nat) (km : Nat) (P1 : List (Int × Int)) (P2 : Int × Int → List (Int × Int)) : Bool := p1_cov (-2147483648) P1 && P1.all (fun a => p1_cov (-2147483648) (P2 a) && (P2 a).all (fun b => p1_px B hp km [p1_X, p1_pv a, p1_pv b] [p1_M, p1_pv a, p1_pv b]))
theorem p1_xx {B : tf_Bk} {hp : List Nat} {km : Nat} {P1 : List (Int × Int)} {P2 : Int × Int → List (Int × Int)} (h : p1_cx B hp km P1 P2 = true) (x y : Int32) : lk_thr B hp km x y tk_h (fun _ => True) := by
  simp only [p1_cx, Bool.and_eq_true] at h
  obtain ⟨q, hq, hx⟩ := p1_cov_ok (x := x) h.1 (tf_i32r x).1
  have h2 := List.all_eq_true.mp h.2 q hq
  simp only [Bool.and_eq_true] at h2
  obtain ⟨q2, hq2, hy⟩ := p1_cov_ok (x := y) h2.1 (tf_i32r y).1
  have e1 := p1_pv_ok hx
  have e2 := p1_pv_ok hy
  exact p1_px_ok (List.all_eq_true.mp h2.2 q2 hq2) ⟨rfl, e1, e2, trivial⟩ ⟨rfl, e1, e2, trivial⟩
set_option maxRecDepth 1000000 in
theorem pk_14 (x y : Int32) : lk_thr tb_X8_arc xt_p_arc 74 x y tk_h (fun _ => True) := p1_xx (P1 := p1_A) (P2 := fun _ => p1_all) (by decide +kernel) x y
set_option maxRecDepth 1000000 in
theorem pk_15 (x y : Int32) : lk_thr tb_X8_point xt_p_point 76 x y tk_h (fun _ => True) := p1_xx (P1 := p1_F) (P2 := fun _ => [(-2147483648, -1)] ++ p1_up 0 7 ++ [(7, 2147483647)]) (by decide +kernel) x y
def p1_void : Bool := match tf_yo 100000 11 192 [p1_X] tk_h with
  | some (_, g) => (match tf_yo 100000 11 67 [p1_M] g with
    | some _ => true
    | none => false)
  | none => false
set_option maxRecDepth 1000000 in
theorem p1_void_ok : p1_void = true := by decide +kernel
theorem pk_10 : ∃ (v w : Value) (g1 g2 : LH), tf_Rt 11 192 [.ref 240] tk_h v g1 ∧ tf_Rt 11 67 [.ref 270] g1 w g2 ∧ (fun _ : LH => True) g2 := by
  have h := p1_void_ok
  unfold p1_void at h
  split at h
  · rename_i v g hx
    split at h
    · rename_i r hm
      obtain ⟨w, g2⟩ := r
      exact ⟨v, w, g, g2, fun Q hq => tf_yo_ok _ _ _ _ _ _ _ hx (show tf_gl [p1_X] [.ref 240] from ⟨rfl, trivial⟩) Q hq, fun Q hq => tf_yo_ok _ _ _ _ _ _ _ hm (show tf_gl [p1_M] [.ref 270] from ⟨rfl, trivial⟩) Q hq, trivial⟩
    · cases h
  · cases h
theorem pk_0 (x : Int64) : lk_two tk_h 182 [.ref 240, .long x] 9 [.ref 270, .long x] (fun _ => True) := by
  have h0 : tk_h.1 251 1 = nI 0 := by decide +kernel
  have h1 : tk_h.1 271 (170 : Int32).toNatClampNeg = nI 0 := by decide +kernel
  refine ⟨sp_ans x 0, _, _, sp_X (n := 0) (by decide) h0, sp_M (n := 0) (by decide) ?_, trivial⟩
  split
  · rw [sp_puts_out (by decide)]
    exact h1
  · exact h1
section LKX
variable {p : Program} {l : Launch} {e : Env} {s : State} {m : MethodId} {below : List Frame} {meth : Method} {c : Code} {b n : Nat} {xs : Nat → Int32} {D : va_G} {cA : Nat → ClassId} {ad : Nat → Nat}
theorem lx_600 (K : lk_cx p s m meth c b n xs D cA ad) (hl : l.stackTraces = false) {t : Nat} (ht : t ≤ 511) {x4 : Int32} {x5 x6 : Value} {h : LH} {P : LH → Prop} (hi1 : vp_in (x4 + 1) n) (hi2 : vp_in (x4 + 2) n) (hq : lk_thr tb_X8_arc xt_p_arc 74 (xs (x4 + 1 : Int32).toNatClampNeg) (xs (x4 + 2 : Int32).toNatClampNeg) h P) (hE : ∀ (g : LH) (y5 y6 : Value), P g → lk_At p l e s m below meth c b D cA ad (t + 1) 1290 [.ref 500, .ref 240, .ref 270, .ref 297, .int x4, y5, y6] [] g) : lk_At p l e s m below meth c b D cA ad t 600 [.ref 500, .ref 240, .ref 270, .ref 297, .int x4, x5, x6] [] h := by
  have ht1 : t + 1 ≤ 512 := by omega
  refine lk_go K (by omega) (go_L_600 ⟨hi1, hi2, ?_⟩)
  refine xl_call K hl rfl xh_ck_arc xh_w_arc rfl ck_X8_arc xt_d_arc xl_w_arc xl_d614 ht ?_
  rcases hq with ⟨a, b2, g, g2, g3, h1, h2, h3, hc, hp⟩ | ⟨b2, g, g2, g3, h1, h2, h3, hp⟩
  · exact h1 _ _ ⟨a, rfl, lk_go K ht1 (go_L_617 ⟨hi1, hi2, h2 _ (lk_go K ht1 (go_L_635 (h3 _ (lk_go K ht1 (go_L_641 ⟨fun _ => lk_go K ht1 (go_L_648 ⟨fun _ => ⟨fun _ => lk_go K ht1 (go_L_665 (hE _ _ _ hp)), fun q => absurd hc q⟩, fun q => absurd rfl q⟩), fun q => absurd rfl q⟩)))))⟩)⟩
  · exact h1 _ _ (lk_go K ht1 (go_L_617 ⟨hi1, hi2, h2 _ (lk_go K ht1 (go_L_635 (h3 _ (lk_go K ht1 (go_L_641 ⟨fun _ => lk_go K ht1 (go_L_648 ⟨fun q => absurd q (by decide), fun _ => lk_go K ht1 (go_L_665 (hE _ _ _ hp))⟩), fun q => absurd rfl q⟩)))))⟩))
theorem lx_668 (K : lk_cx p s m meth c b n xs D cA ad) (hl : l.stackTraces = false) {t : Nat} (ht : t ≤ 511) {x4 : Int32} {x5 x6 : Value} {h : LH} {P : LH → Prop} (hi1 : vp_in (x4 + 1) n) (hi2 : vp_in (x4 + 2) n) (hq : lk_thr tb_X8_point xt_p_point 76 (xs (x4 + 1 : Int32).toNatClampNeg) (xs (x4 + 2 : Int32).toNatClampNeg) h P) (hE : ∀ (g : LH) (y5 y6 : Value), P g → lk_At p l e s m below meth c b D cA ad (t + 1) 1290 [.ref 500, .ref 240, .ref 270, .ref 297, .int x4, y5, y6] [] g) : lk_At p l e s m below meth c b D cA ad t 668 [.ref 500, .ref 240, .ref 270, .ref 297, .int x4, x5, x6] [] h := by
  have ht1 : t + 1 ≤ 512 := by omega
  refine lk_go K (by omega) (go_L_668 ⟨hi1, hi2, ?_⟩)
  refine xl_call K hl rfl xh_ck_point xh_w_point rfl ck_X8_point xt_d_point xl_w_point xl_d682 ht ?_
  rcases hq with ⟨a, b2, g, g2, g3, h1, h2, h3, hc, hp⟩ | ⟨b2, g, g2, g3, h1, h2, h3, hp⟩
  · exact h1 _ _ ⟨a, rfl, lk_go K ht1 (go_L_685 ⟨hi1, hi2, h2 _ (lk_go K ht1 (go_L_703 (h3 _ (lk_go K ht1 (go_L_709 ⟨fun _ => lk_go K ht1 (go_L_716 ⟨fun _ => ⟨fun _ => lk_go K ht1 (go_L_733 (hE _ _ _ hp)), fun q => absurd hc q⟩, fun q => absurd rfl q⟩), fun q => absurd rfl q⟩)))))⟩)⟩
  · exact h1 _ _ (lk_go K ht1 (go_L_685 ⟨hi1, hi2, h2 _ (lk_go K ht1 (go_L_703 (h3 _ (lk_go K ht1 (go_L_709 ⟨fun _ => lk_go K ht1 (go_L_716 ⟨fun q => absurd q (by decide), fun _ => lk_go K ht1 (go_L_733 (hE _ _ _ hp))⟩), fun q => absurd rfl q⟩)))))⟩))
end LKX
