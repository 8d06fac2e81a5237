/-! ===== the reference's object: TreeFlowsModel() ===== -/
def tj_bh : BH := [(7, 44, [.int 0, .ref 1, .ref 2, .ref 3, .ref 4, .int 0, .int 0, .int 0, .int 0, .int 0, .int 0, .long 0, .int 0, .int 0, .ref 5, .ref 6, .ref 7, .ref 8, .int 0, .int 0, .int 0, .ref 9, .ref 10, .int 0, .ref 11, .ref 12, .ref 13, .ref 14, .ref 15, .ref 16, .int 0, .int 0, .ref 17, .ref 18, .ref 19, .ref 20, .int 0, .int 0, .ref 21, .ref 22, .ref 23, .ref 24, .ref 25, .ref 26]), (8, 865, []), (10, 1600, []), (11, 3, []), (8, 1700, []), (8, 4, []), (8, 7, []), (8, 98, []), (8, 7, []), (12, 100, []), (8, 400, []), (8, 8, []), (8, 8, []), (8, 8, []), (8, 8, []), (8, 16, []), (11, 16, []), (8, 64, []), (8, 14, []), (8, 8, []), (8, 9, []), (8, 14, []), (8, 14, []), (8, 14, []), (8, 7, []), (8, 7, []), (8, 7, [])]
def tj_run : Option (List Value × BH) := tg_run 7 (tf_F 7) (tg_N 7) (tg_N2 7) (tg_K 7) tg_none tc_X9 214 2000 0 (tf_en 1 [.ref 0]) [] [(7, 44, tg_new 7)]
theorem tj_run_eq : tj_run = some ([.ref 0], tj_bh) := by decide +kernel
theorem tj_len : tj_bh.length = 27 := by decide +kernel
theorem tj_slots : tg_sl tj_bh = 5050 := by decide +kernel
def tj_ad (ad adm : Nat → Nat) : Nat → Nat := fun c => if 270 ≤ c ∧ c < 297 then adm (c - 270) else ad c
def tj_h0 (h : LH) : LH := (fun c => if 270 ≤ c then fun _ => 0 else h.1 c, fun c => if 270 ≤ c then fun _ => 0 else h.2 c)
def tj_ck (i : Nat) : Bool := match tj_bh.getD i (99, 0, []) with
  | (kd, len, vals) => decide (kd = tf_K (270 + i)) && (if kd < 8 then decide (vals.length = tf_Wl kd) && (List.range (tf_Wl kd)).all (fun k => match tf_S kd k, vals.getD k .null with
      | 0, .int v => decide (v = 0)
      | 1, .long v => decide (v = 0)
      | 2, .ref r => decide (tf_R (270 + i) k = 270 + r) && decide (r < 27)
      | _, _ => false)
    else decide (len = tf_N (270 + i)) && decide (kd < 13))
theorem tj_ck_all : (List.range 27).all tj_ck = true := by decide +kernel
/-- where references of the first 270 cells lead: among these -/
def tj_ckr (c : Nat) : Bool := if tf_K c < 8 then (List.range (tf_Wl (tf_K c))).all (fun k => tf_S (tf_K c) k != 2 || decide (tf_R c k < 270)) else if tf_K c < 13 then true else if tf_K c = 15 then true else (List.range (tf_N c)).all (fun i => decide (tf_R c i < 270))
theorem tj_ckr_all : (List.range 270).all tj_ckr = true := by decide +kernel
theorem tj_S3 {ci k : Nat} (h8 : ci < 8) (hk : k < tf_Wl ci) (h0 : ¬ tf_S ci k = 0) (h1 : ¬ tf_S ci k = 1) : tf_S ci k = 2 := by
  have h : (List.range 8).all (fun ci => (List.range (tf_Wl ci)).all (fun k => decide (tf_S ci k < 3))) = true := by decide +kernel
  have := of_decide_eq_true (tf_rng (tf_rng h h8) hk)
  omega
theorem tj_old {D : va_G} {cA : Nat → ClassId} {ad adm : Nat → Nat} {h : LH} {H : Heap} {c : Nat} (hc : c < 270) (hv : va_at D vwCl (ad c, tf_E cA ad h c) H) : va_at D vwCl (tj_ad ad adm c, tf_E cA (tj_ad ad adm) (tj_h0 h) c) H := by
  have hk := tf_rng tj_ckr_all hc
  have ea : ∀ d, d < 270 → tj_ad ad adm d = ad d := fun d hd => by simp only [tj_ad]; rw [if_neg (by omega)]
  have e1 : (tj_h0 h).1 c = h.1 c := by simp only [tj_h0]; rw [if_neg (by omega)]
  have e2 : (tj_h0 h).2 c = h.2 c := by simp only [tj_h0]; rw [if_neg (by omega)]
  have eb : ∀ v, tf_vb (tj_ad ad adm) v = tf_vb ad v := by
    intro v
    unfold tf_vb tj_ad
    split
    · rfl
    · rw [if_neg (by omega)]
  rw [ea c hc]
  unfold tj_ckr at hk
  unfold tf_E at hv ⊢
  by_cases h8 : tf_K c < 8
  · rw [if_pos h8] at hk hv ⊢
    have hl : (List.range (tf_Wl (tf_K c))).map (tf_fv (tj_ad ad adm) (tj_h0 h) c) = (List.range (tf_Wl (tf_K c))).map (tf_fv ad h c) := by
      refine List.map_congr_left fun k hkm => ?_
      have hq := tf_rng hk (List.mem_range.mp hkm)
      simp only [tf_fv, e1, e2]
      simp only [Bool.or_eq_true, bne_iff_ne, ne_eq, decide_eq_true_eq] at hq
      split
      · rfl
      · split
        · rfl
        · rename_i n0 n1
          have hS : tf_S (tf_K c) k = 2 ∨ tf_S (tf_K c) k ≠ 2 := Decidable.em _
          rcases hq with hq | hq
          · exact absurd (tj_S3 h8 (List.mem_range.mp hkm) n0 n1) hq
          · rw [ea _ hq]
    rw [hl]
    exact hv
  · rw [if_neg h8] at hk hv ⊢
    by_cases h12 : tf_K c < 12
    · rw [if_pos h12] at hv ⊢
      rw [e1]
      exact hv
    · rw [if_neg h12] at hv ⊢
      by_cases h12' : tf_K c = 12
      · rw [if_pos h12'] at hv ⊢
        rw [e2]
        exact hv
      · rw [if_neg h12'] at hv ⊢
        by_cases h15 : tf_K c = 15
        · rw [if_pos h15] at hv ⊢
          simp only [e1, eb]
          exact hv
        · rw [if_neg h15] at hv ⊢
          rw [if_neg (by omega), if_neg h15] at hk
          have hv : H[ad c]? = some (vp_cell (cA (tf_K c)) (tf_N c, .inr (.inr (.inr (.inr (fun i => some (ad (tf_R c i)))))))) := hv
          show H[ad c]? = some (vp_cell _ _)
          rw [hv]
          refine congrArg some ?_
          rw [vp_cell_q, vp_cell_q]
          refine ti_arrV fun i hi => ?_
          have := of_decide_eq_true (tf_rng hk hi)
          rw [ea _ this]
theorem tj_new {D : va_G} {cA : Nat → ClassId} {ad adm : Nat → Nat} {h : LH} {H : Heap} {i : Nat} (hi : i < 27) {b : Nat × Nat × List Value} (hb : tj_bh[i]? = some b) (hv : va_at D vwCl (adm i, tg_E cA adm b) H) : va_at D vwCl (tj_ad ad adm (270 + i), tf_E cA (tj_ad ad adm) (tj_h0 h) (270 + i)) H := by
  have hk := tf_rng tj_ck_all hi
  have hbd : tj_bh.getD i (99, 0, []) = b := by rw [List.getD_eq_getElem?_getD, hb]; rfl
  obtain ⟨kd, len, vals⟩ := b
  simp only [tj_ck, hbd, Bool.and_eq_true, decide_eq_true_eq] at hk
  obtain ⟨hkd, hk⟩ := hk
  have ea : ∀ d, d < 27 → tj_ad ad adm (270 + d) = adm d := fun d hd => by simp only [tj_ad]; rw [if_pos (by omega), Nat.add_sub_cancel_left]
  have e1 : (tj_h0 h).1 (270 + i) = fun _ => 0 := by simp only [tj_h0]; rw [if_pos (by omega)]
  have e2 : (tj_h0 h).2 (270 + i) = fun _ => 0 := by simp only [tj_h0]; rw [if_pos (by omega)]
  rw [ea i hi]
  have he : tg_E cA adm (kd, len, vals) = tf_E cA (tj_ad ad adm) (tj_h0 h) (270 + i) := by
    unfold tg_E tf_E
    by_cases h8 : kd < 8
    · rw [if_pos h8] at hk
      simp only [Bool.and_eq_true, decide_eq_true_eq] at hk
      obtain ⟨hl, hv⟩ := hk
      rw [if_pos h8, if_pos (by rw [← hkd]; exact h8), ← hkd]
      refine congrArg (fun l => (Sum.inr (kd, l) : va_E)) (List.ext_getElem? fun k => ?_)
      by_cases hkl : k < tf_Wl kd
      · have h1 := tf_rng hv hkl
        rw [List.getElem?_map, List.getElem?_map, List.getElem?_range hkl, List.getElem?_eq_getElem (by rw [hl]; exact hkl)]
        have hg : vals.getD k .null = vals[k]'(by rw [hl]; exact hkl) := by rw [List.getD_eq_getElem?_getD, List.getElem?_eq_getElem (by rw [hl]; exact hkl)]; rfl
        rw [hg] at h1
        simp only [Option.map_some, tf_fv, ← hkd, e1, e2]
        generalize vals[k]'(by rw [hl]; exact hkl) = v at h1 ⊢
        split at h1
        · rename_i hs0
          rw [hs0, if_pos rfl, of_decide_eq_true h1]
          rfl
        · rename_i hs1
          rw [hs1, if_neg (by decide), if_pos rfl, of_decide_eq_true h1]
          rfl
        · rename_i hs2
          rw [hs2, if_neg (by decide), if_neg (by decide)]
          simp only [Bool.and_eq_true, decide_eq_true_eq] at h1
          rw [h1.1, ea _ h1.2]
          rfl
        · cases h1
      · rw [List.getElem?_eq_none (by simp; omega), List.getElem?_eq_none (by simp; omega)]
    · rw [if_neg h8] at hk
      simp only [Bool.and_eq_true, decide_eq_true_eq] at hk
      have h8' : ¬ tf_K (270 + i) < 8 := by rw [← hkd]; exact h8
      rw [if_neg h8, if_neg h8', ← hkd]
      by_cases h12 : kd < 12
      · rw [if_pos h12, if_pos h12, e1, ← hk.1]
      · have h12' : kd = 12 := by omega
        rw [if_neg h12, if_neg h12, if_pos h12', if_pos h12', e2, ← hk.1]
  rw [← he]
  exact hv
theorem tj_world {D : va_G} {cA : Nat → ClassId} {ad adm : Nat → Nat} {h : LH} {H : Heap} (hv : va_P D vwCl (tf_ws cA ad 270 h ++ tg_ws cA adm tj_bh) H) : va_P D vwCl (tf_ws cA (tj_ad ad adm) 297 (tj_h0 h)) H := by
  have hlen : (tf_ws cA ad 270 h).length = 270 := by simp [tf_ws]
  intro k q hq
  obtain ⟨hk, rfl⟩ := tf_ws_lt hq
  by_cases h270 : k < 270
  · refine tj_old h270 (hv k _ ?_)
    rw [List.getElem?_append_left (by rw [hlen]; exact h270)]
    exact tf_ws_get h270
  · obtain ⟨i, rfl⟩ : ∃ i, k = 270 + i := ⟨k - 270, by omega⟩
    have hi : i < 27 := by omega
    have hl : i < tj_bh.length := by rw [tj_len]; exact hi
    obtain ⟨b, hb⟩ : ∃ b, tj_bh[i]? = some b := ⟨_, List.getElem?_eq_getElem hl⟩
    have hg := tg_get (cA := cA) (ad := adm) hb (tf_ws cA ad 270 h)
    exact tj_new hi hb (hv _ _ hg)
theorem tj_inj {cA : Nat → ClassId} {ad adm : Nat → Nat} {h : LH} {A : Nat → Prop} (hD : va_D A (tf_ws cA ad 270 h ++ tg_ws cA adm tj_bh)) : tf_inj (tj_ad ad adm) 297 ∧ ∀ c, c < 297 → A (tj_ad ad adm c) := by
  have hlen : (tf_ws cA ad 270 h).length = 270 := by simp [tf_ws]
  have hg : ∀ c, c < 297 → ∃ e, (tf_ws cA ad 270 h ++ tg_ws cA adm tj_bh)[c]? = some (tj_ad ad adm c, e) := by
    intro c hc
    by_cases h270 : c < 270
    · refine ⟨tf_E cA ad h c, ?_⟩
      rw [List.getElem?_append_left (by rw [hlen]; exact h270), tf_ws_get h270]
      simp only [tj_ad]
      rw [if_neg (by omega)]
    · obtain ⟨i, rfl⟩ : ∃ i, c = 270 + i := ⟨c - 270, by omega⟩
      have hi : i < 27 := by omega
      have hl : i < tj_bh.length := by rw [tj_len]; exact hi
      obtain ⟨b, hb⟩ : ∃ b, tj_bh[i]? = some b := ⟨_, List.getElem?_eq_getElem hl⟩
      have hg := tg_get (cA := cA) (ad := adm) hb (tf_ws cA ad 270 h)
      rw [hlen] at hg
      refine ⟨tg_E cA adm b, hg.trans ?_⟩
      simp only [tj_ad]
      rw [if_pos (by omega), Nat.add_sub_cancel_left]
  refine ⟨fun i j hi hj e => ?_, fun c hc => ?_⟩
  · obtain ⟨e1, h1⟩ := hg i hi
    obtain ⟨e2, h2⟩ := hg j hj
    exact hD.1 _ _ _ _ h1 h2 e
  · obtain ⟨e1, h1⟩ := hg c hc
    exact hD.2 _ _ h1
def tj_B : tf_Bk := [(214, [(.aload_n 0, 1), (.getfield 7, 3), (.sipush 172, 3), (.iconst (-1), 1), (.iastore, 1), (.aload_n 0, 1), (.invokevirtual 91, 3), (.aload_n 0, 1), (.invokevirtual 94, 3), (.return_, 1)])]
theorem tj_B_ok : tf_Bck cX9_init 1 tj_B = true := by decide +kernel
def tj_x : Option (Value × LH) := tf_xr 297 (tf_F 7) (tf_M 7) (tf_I 7) (tf_xd 297 700 3) 0 tj_B 20 214 [.ref 270] [] (tj_h0 ti_h)
/-- the table of a new TreeFlows and a new TreeFlowsModel -/
def tj_h : LH := match tj_x with
  | some (_, h) => h
  | none => ti_h
theorem tj_x_z : (match tj_x with | some (v, _) => decide (v = tf_z) | none => false) = true := by decide +kernel
theorem tj_x_eq : tj_x = some (tf_z, tj_h) := by
  have h := tj_x_z
  unfold tj_h
  cases hr : tj_x with
  | none => rw [hr] at h; cases h
  | some r =>
    rw [hr] at h
    obtain ⟨v, g⟩ := r
    simp only [decide_eq_true_eq] at h
    rw [h]
