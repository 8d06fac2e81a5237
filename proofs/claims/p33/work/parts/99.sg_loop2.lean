/-! ===== the reference's loop over orders ===== -/
section SGL
variable {h : LH} {n k M : Nat} {V : Nat → Nat}
theorem wr_X {o : Nat} (hM : M ≤ 17000000) (ho : o ≤ 80) (e23 : h.1 270 23 = nI o) (NBh : NBo h o) (W : ∀ i, i < o → h.2 279 i = px_W.getD (V i) 0) (hv : ∀ i, i < o → V i = 2 ∨ (5 ≤ V i ∧ V i < 15)) (h9 : ∀ i, i < o → V i = 9 → ∃ NN, NN ≤ 60 ∧ h.1 280 (4 * i + 0) = nI NN) {x1 : Int32} {Q : tf_Q} : ∀ (f i : Nat) (g hc : LH) (m : Nat), i + f = o → GI g n k (M + 100 * i) → NR hc 0 g n k m → FD h g → g.2 = h.2 → (∀ g2 : LH, GI g2 n k (M + 8000) → NR (odf n k V (fun i j => h.1 280 (4 * i + j)) f i hc m).1 0 g2 n k (odf n k V (fun i j => h.1 280 (4 * i + j)) f i hc m).2.1 → FD h g2 → lx_X9_work 298 (tf_Cd 298 10) Q 127 [.ref 270, .int x1, .int (nI (odf n k V (fun i j => h.1 280 (4 * i + j)) f i hc m).2.2)] [] g2) → lx_X9_work 298 (tf_Cd 298 10) Q 72 [.ref 270, .int x1, .int (nI i)] [] g
  | 0, i, g, hc, m, hf, G, N, F, F2, q => go_X9_work_72 (by decide) ⟨fun _ => q g (G.mono (by omega)) N F, fun c => absurd (by rw [F.2.1 23 (by decide) (by decide), e23]; exact nI_le (by omega) (by omega)) c⟩
  | f + 1, i, g, hc, m, hf, G, N, F, F2, q => by
    have e4 : (4 : Int32) * nI i = nI (4 * i) := by rw [show (4 : Int32) = nI 4 from rfl, nI_mul]
    have e41 : nI (4 * i) + 1 = nI (4 * i + 1) := nI_1 _
    have e42 : nI (4 * i) + 2 = nI (4 * i + 2) := nI_add _ 2
    have g280 : g.1 280 = h.1 280 := F.1 280 (by decide) (by decide) (by decide)
    refine go_X9_work_72 (by decide) ⟨fun c => absurd (by rw [F.2.1 23 (by decide) (by decide), e23] at c; exact c) (nI_ge (by omega) (by omega)), fun _ => ?_⟩
    rw [e4, e41, e42, nI_clamp (show i < 2 ^ 31 by omega), nI_clamp (show 4 * i < 2 ^ 31 by omega), nI_clamp (show 4 * i + 1 < 2 ^ 31 by omega), nI_clamp (show 4 * i + 2 < 2 ^ 31 by omega), F2, W i (by omega), g280]
    have va : vp_in (h.1 280 (4 * i)) 100 := NBh i (by omega) 0 (by decide)
    refine ⟨vi_of (by omega) (by omega), vi_of (by omega) (by omega), vi_of (by omega) (by omega), vi_of (by omega) (by omega), ((sp_id (d := 2) G (by omega) va).cj ((sq_id (d := 2) G (by omega) va).cj (rx_od (d := 2) (v := V i) (hv i (by omega)) (h9 i (by omega)) (by omega) G N))) _ (fun v g2 p => ?_)⟩
    obtain ⟨⟨-, G2, Fd⟩, F3, rfl, N2⟩ := p
    rw [odf] at q
    have q' : ∀ g2 : LH, GI g2 n k (M + 8000) → NR (if (od hc n k m (V i) (h.1 280 (4 * i)) (h.1 280 (4 * i + 1)) (h.1 280 (4 * i + 2))).2.2 = true then odf n k V (fun i j => h.1 280 (4 * i + j)) f (i + 1) (od hc n k m (V i) (h.1 280 (4 * i)) (h.1 280 (4 * i + 1)) (h.1 280 (4 * i + 2))).1 (od hc n k m (V i) (h.1 280 (4 * i)) (h.1 280 (4 * i + 1)) (h.1 280 (4 * i + 2))).2.1 else ((od hc n k m (V i) (h.1 280 (4 * i)) (h.1 280 (4 * i + 1)) (h.1 280 (4 * i + 2))).1, (od hc n k m (V i) (h.1 280 (4 * i)) (h.1 280 (4 * i + 1)) (h.1 280 (4 * i + 2))).2.1, i)).1 0 g2 n k (if (od hc n k m (V i) (h.1 280 (4 * i)) (h.1 280 (4 * i + 1)) (h.1 280 (4 * i + 2))).2.2 = true then odf n k V (fun i j => h.1 280 (4 * i + j)) f (i + 1) (od hc n k m (V i) (h.1 280 (4 * i)) (h.1 280 (4 * i + 1)) (h.1 280 (4 * i + 2))).1 (od hc n k m (V i) (h.1 280 (4 * i)) (h.1 280 (4 * i + 1)) (h.1 280 (4 * i + 2))).2.1 else ((od hc n k m (V i) (h.1 280 (4 * i)) (h.1 280 (4 * i + 1)) (h.1 280 (4 * i + 2))).1, (od hc n k m (V i) (h.1 280 (4 * i)) (h.1 280 (4 * i + 1)) (h.1 280 (4 * i + 2))).2.1, i)).2.1 → FD h g2 → lx_X9_work 298 (tf_Cd 298 10) Q 127 [.ref 270, .int x1, .int (nI (if (od hc n k m (V i) (h.1 280 (4 * i)) (h.1 280 (4 * i + 1)) (h.1 280 (4 * i + 2))).2.2 = true then odf n k V (fun i j => h.1 280 (4 * i + j)) f (i + 1) (od hc n k m (V i) (h.1 280 (4 * i)) (h.1 280 (4 * i + 1)) (h.1 280 (4 * i + 2))).1 (od hc n k m (V i) (h.1 280 (4 * i)) (h.1 280 (4 * i + 1)) (h.1 280 (4 * i + 2))).2.1 else ((od hc n k m (V i) (h.1 280 (4 * i)) (h.1 280 (4 * i + 1)) (h.1 280 (4 * i + 2))).1, (od hc n k m (V i) (h.1 280 (4 * i)) (h.1 280 (4 * i + 1)) (h.1 280 (4 * i + 2))).2.1, i)).2.2)] [] g2 := q
    clear q
    generalize od hc n k m (V i) (h.1 280 (4 * i)) (h.1 280 (4 * i + 1)) (h.1 280 (4 * i + 2)) = P at N2 q'
    refine go_X9_work_118 (by decide) ⟨fun z => ?_, fun z => ?_⟩
    · rw [bI_0] at z
      rw [if_neg (by rw [z]; decide)] at q'
      exact q' g2 (G2.mono (by omega)) N2 (F.tr Fd)
    · rw [bI_0, Bool.not_eq_false] at z
      rw [if_pos z] at q'
      rw [nI_1]
      exact wr_X hM ho e23 NBh W hv h9 f (i + 1) g2 P.1 P.2.1 (by omega) (G2.mono (by omega)) N2 (F.tr Fd) (F3.trans F2) q'
end SGL
