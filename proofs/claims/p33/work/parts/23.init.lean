/-! ===== the first object: TreeFlows() ===== -/
def ti_sub : Nat → BH → Nat → Option BH := fun k => match k with
  | 1 => tg_sX2
  | 2 => tg_sX3
  | 3 => tg_sX6
  | 4 => tg_sX4
  | 5 => tg_sX1
  | _ => fun _ _ => none
/-- the heap when all rows of a TreeFlows are made, ahead of clear(2) -/
def ti_run : Option (List Value × BH) := tg_run 6 (tf_F 6) (tg_N 6) (tg_N2 6) (tg_K 6) ti_sub tc_X8 176 2000 0 (tf_en 2 [.ref 0]) [] [(6, 13, tg_new 6)]
def ti_bh : BH := [(6, 13, [.ref 1, .ref 16, .ref 31, .ref 34, .ref 41, .ref 43, .ref 49, .ref 50, .int 0, .int 0, .ref 51, .ref 52, .ref 53]), (0, 14, [.int 0, .int 0, .int 0, .ref 2, .ref 3, .ref 4, .ref 5, .ref 6, .ref 7, .ref 8, .ref 9, .ref 10, .ref 11, .ref 12]), (8, 7, []), (8, 21, []), (8, 21, []), (8, 21, []), (8, 21, []), (8, 21, []), (8, 21, []), (8, 7, []), (8, 7, []), (8, 8, []), (4, 7, [.int 0, .int 0, .int 0, .int (-1), .ref 13, .ref 14, .ref 15]), (8, 12, []), (8, 12, []), (8, 12, []), (0, 14, [.int 0, .int 0, .int 0, .ref 17, .ref 18, .ref 19, .ref 20, .ref 21, .ref 22, .ref 23, .ref 24, .ref 25, .ref 26, .ref 27]), (8, 7, []), (8, 21, []), (8, 21, []), (8, 21, []), (8, 21, []), (8, 21, []), (8, 21, []), (8, 7, []), (8, 7, []), (8, 8, []), (4, 7, [.int 0, .int 0, .int 0, .int (-1), .ref 28, .ref 29, .ref 30]), (8, 12, []), (8, 12, []), (8, 12, []), (2, 7, [.ref 32, .ref 33, .int 0, .int 0, .int 0, .int 0, .int 0]), (8, 8, []), (11, 8, []), (5, 9, [.int 0, .ref 35, .ref 36, .ref 37, .ref 38, .ref 39, .ref 40, .int 0, .int 0]), (8, 14, []), (8, 14, []), (8, 98, []), (8, 14, []), (8, 7, []), (8, 7, []), (1, 4, [.ref 42, .int 0, .int 0, .int (-1)]), (9, 400, []), (3, 11, [.int 0, .int 0, .int (-1), .ref 44, .ref 45, .ref 46, .ref 47, .ref 48, .int 0, .int 0, .int 0]), (15, 80, List.replicate 80 .null), (8, 80, []), (8, 320, []), (8, 320, []), (8, 7, []), (8, 7, []), (13, 11, [.ref 54, .ref 69, .ref 84, .ref 99, .ref 114, .ref 129, .ref 144, .ref 159, .ref 174, .ref 189, .ref 204]), (13, 3, [.ref 219, .ref 236, .ref 253]), (14, 3, [.ref 234, .ref 251, .ref 268]), (11, 3, []), (0, 14, [.int 0, .int 0, .int 0, .ref 55, .ref 56, .ref 57, .ref 58, .ref 59, .ref 60, .ref 61, .ref 62, .ref 63, .ref 64, .ref 65]), (8, 7, []), (8, 21, []), (8, 21, []), (8, 21, []), (8, 21, []), (8, 21, []), (8, 21, []), (8, 7, []), (8, 7, []), (8, 8, []), (4, 7, [.int 0, .int 0, .int 0, .int (-1), .ref 66, .ref 67, .ref 68]), (8, 12, []), (8, 12, []), (8, 12, []), (0, 14, [.int 0, .int 0, .int 0, .ref 70, .ref 71, .ref 72, .ref 73, .ref 74, .ref 75, .ref 76, .ref 77, .ref 78, .ref 79, .ref 80]), (8, 7, []), (8, 21, []), (8, 21, []), (8, 21, []), (8, 21, []), (8, 21, []), (8, 21, []), (8, 7, []), (8, 7, []), (8, 8, []), (4, 7, [.int 0, .int 0, .int 0, .int (-1), .ref 81, .ref 82, .ref 83]), (8, 12, []), (8, 12, []), (8, 12, []), (0, 14, [.int 0, .int 0, .int 0, .ref 85, .ref 86, .ref 87, .ref 88, .ref 89, .ref 90, .ref 91, .ref 92, .ref 93, .ref 94, .ref 95]), (8, 7, []), (8, 21, []), (8, 21, []), (8, 21, []), (8, 21, []), (8, 21, []), (8, 21, []), (8, 7, []), (8, 7, []), (8, 8, []), (4, 7, [.int 0, .int 0, .int 0, .int (-1), .ref 96, .ref 97, .ref 98]), (8, 12, []), (8, 12, []), (8, 12, []), (0, 14, [.int 0, .int 0, .int 0, .ref 100, .ref 101, .ref 102, .ref 103, .ref 104, .ref 105, .ref 106, .ref 107, .ref 108, .ref 109, .ref 110]), (8, 7, []), (8, 21, []), (8, 21, []), (8, 21, []), (8, 21, []), (8, 21, []), (8, 21, []), (8, 7, []), (8, 7, []), (8, 8, []), (4, 7, [.int 0, .int 0, .int 0, .int (-1), .ref 111, .ref 112, .ref 113]), (8, 12, []), (8, 12, []), (8, 12, []), (0, 14, [.int 0, .int 0, .int 0, .ref 115, .ref 116, .ref 117, .ref 118, .ref 119, .ref 120, .ref 121, .ref 122, .ref 123, .ref 124, .ref 125]), (8, 7, []), (8, 21, []), (8, 21, []), (8, 21, []), (8, 21, []), (8, 21, []), (8, 21, []), (8, 7, []), (8, 7, []), (8, 8, []), (4, 7, [.int 0, .int 0, .int 0, .int (-1), .ref 126, .ref 127, .ref 128]), (8, 12, []), (8, 12, []), (8, 12, []), (0, 14, [.int 0, .int 0, .int 0, .ref 130, .ref 131, .ref 132, .ref 133, .ref 134, .ref 135, .ref 136, .ref 137, .ref 138, .ref 139, .ref 140]), (8, 7, []), (8, 21, []), (8, 21, []), (8, 21, []), (8, 21, []), (8, 21, []), (8, 21, []), (8, 7, []), (8, 7, []), (8, 8, []), (4, 7, [.int 0, .int 0, .int 0, .int (-1), .ref 141, .ref 142, .ref 143]), (8, 12, []), (8, 12, []), (8, 12, []), (0, 14, [.int 0, .int 0, .int 0, .ref 145, .ref 146, .ref 147, .ref 148, .ref 149, .ref 150, .ref 151, .ref 152, .ref 153, .ref 154, .ref 155]), (8, 7, []), (8, 21, []), (8, 21, []), (8, 21, []), (8, 21, []), (8, 21, []), (8, 21, []), (8, 7, []), (8, 7, []), (8, 8, []), (4, 7, [.int 0, .int 0, .int 0, .int (-1), .ref 156, .ref 157, .ref 158]), (8, 12, []), (8, 12, []), (8, 12, []), (0, 14, [.int 0, .int 0, .int 0, .ref 160, .ref 161, .ref 162, .ref 163, .ref 164, .ref 165, .ref 166, .ref 167, .ref 168, .ref 169, .ref 170]), (8, 7, []), (8, 21, []), (8, 21, []), (8, 21, []), (8, 21, []), (8, 21, []), (8, 21, []), (8, 7, []), (8, 7, []), (8, 8, []), (4, 7, [.int 0, .int 0, .int 0, .int (-1), .ref 171, .ref 172, .ref 173]), (8, 12, []), (8, 12, []), (8, 12, []), (0, 14, [.int 0, .int 0, .int 0, .ref 175, .ref 176, .ref 177, .ref 178, .ref 179, .ref 180, .ref 181, .ref 182, .ref 183, .ref 184, .ref 185]), (8, 7, []), (8, 21, []), (8, 21, []), (8, 21, []), (8, 21, []), (8, 21, []), (8, 21, []), (8, 7, []), (8, 7, []), (8, 8, []), (4, 7, [.int 0, .int 0, .int 0, .int (-1), .ref 186, .ref 187, .ref 188]), (8, 12, []), (8, 12, []), (8, 12, []), (0, 14, [.int 0, .int 0, .int 0, .ref 190, .ref 191, .ref 192, .ref 193, .ref 194, .ref 195, .ref 196, .ref 197, .ref 198, .ref 199, .ref 200]), (8, 7, []), (8, 21, []), (8, 21, []), (8, 21, []), (8, 21, []), (8, 21, []), (8, 21, []), (8, 7, []), (8, 7, []), (8, 8, []), (4, 7, [.int 0, .int 0, .int 0, .int (-1), .ref 201, .ref 202, .ref 203]), (8, 12, []), (8, 12, []), (8, 12, []), (0, 14, [.int 0, .int 0, .int 0, .ref 205, .ref 206, .ref 207, .ref 208, .ref 209, .ref 210, .ref 211, .ref 212, .ref 213, .ref 214, .ref 215]), (8, 7, []), (8, 21, []), (8, 21, []), (8, 21, []), (8, 21, []), (8, 21, []), (8, 21, []), (8, 7, []), (8, 7, []), (8, 8, []), (4, 7, [.int 0, .int 0, .int 0, .int (-1), .ref 216, .ref 217, .ref 218]), (8, 12, []), (8, 12, []), (8, 12, []), (0, 14, [.int 0, .int 0, .int 0, .ref 220, .ref 221, .ref 222, .ref 223, .ref 224, .ref 225, .ref 226, .ref 227, .ref 228, .ref 229, .ref 230]), (8, 7, []), (8, 21, []), (8, 21, []), (8, 21, []), (8, 21, []), (8, 21, []), (8, 21, []), (8, 7, []), (8, 7, []), (8, 8, []), (4, 7, [.int 0, .int 0, .int 0, .int (-1), .ref 231, .ref 232, .ref 233]), (8, 12, []), (8, 12, []), (8, 12, []), (1, 4, [.ref 235, .int 0, .int 0, .int (-1)]), (9, 400, []), (0, 14, [.int 0, .int 0, .int 0, .ref 237, .ref 238, .ref 239, .ref 240, .ref 241, .ref 242, .ref 243, .ref 244, .ref 245, .ref 246, .ref 247]), (8, 7, []), (8, 21, []), (8, 21, []), (8, 21, []), (8, 21, []), (8, 21, []), (8, 21, []), (8, 7, []), (8, 7, []), (8, 8, []), (4, 7, [.int 0, .int 0, .int 0, .int (-1), .ref 248, .ref 249, .ref 250]), (8, 12, []), (8, 12, []), (8, 12, []), (1, 4, [.ref 252, .int 0, .int 0, .int (-1)]), (9, 400, []), (0, 14, [.int 0, .int 0, .int 0, .ref 254, .ref 255, .ref 256, .ref 257, .ref 258, .ref 259, .ref 260, .ref 261, .ref 262, .ref 263, .ref 264]), (8, 7, []), (8, 21, []), (8, 21, []), (8, 21, []), (8, 21, []), (8, 21, []), (8, 21, []), (8, 7, []), (8, 7, []), (8, 8, []), (4, 7, [.int 0, .int 0, .int 0, .int (-1), .ref 265, .ref 266, .ref 267]), (8, 12, []), (8, 12, []), (8, 12, []), (1, 4, [.ref 269, .int 0, .int 0, .int (-1)]), (9, 400, [])]
theorem ti_run_eq : ti_run = some ([.ref 0, .int 3], ti_bh) := by decide +kernel
theorem ti_len : ti_bh.length = 270 := by decide +kernel
theorem ti_slots : tg_sl ti_bh = 6052 := by decide +kernel
def ti_pl : List Nat := [1, 2, 3, 4, 5, 6, 7, 8, 9, 10, 11, 12, 13, 14, 15, 16, 17, 18, 19, 20, 21, 22, 23, 24, 25, 26, 27, 28, 29, 30, 54, 55, 56, 57, 58, 59, 60, 61, 62, 63, 64, 65, 66, 67, 68, 69, 70, 71, 72, 73, 74, 75, 76, 77, 78, 79, 80, 81, 82, 83, 84, 85, 86, 87, 88, 89, 90, 91, 92, 93, 94, 95, 96, 97, 98, 99, 100, 101, 102, 103, 104, 105, 106, 107, 108, 109, 110, 111, 112, 113, 114, 115, 116, 117, 118, 119, 120, 121, 122, 123, 124, 125, 126, 127, 128, 129, 130, 131, 132, 133, 134, 135, 136, 137, 138, 139, 140, 141, 142, 143, 144, 145, 146, 147, 148, 149, 150, 151, 152, 153, 154, 155, 156, 157, 158, 159, 160, 161, 162, 163, 164, 165, 166, 167, 168, 169, 170, 171, 172, 173, 174, 175, 176, 177, 178, 179, 180, 181, 182, 183, 184, 185, 186, 187, 188, 189, 190, 191, 192, 193, 194, 195, 196, 197, 198, 199, 200, 201, 202, 203, 204, 205, 206, 207, 208, 209, 210, 211, 212, 213, 214, 215, 216, 217, 218, 219, 220, 221, 222, 223, 224, 225, 226, 227, 228, 229, 230, 231, 232, 233, 236, 237, 238, 239, 240, 241, 242, 243, 244, 245, 246, 247, 248, 249, 250, 253, 254, 255, 256, 257, 258, 259, 260, 261, 262, 263, 264, 265, 266, 267, 0, 31, 32, 33, 34, 35, 36, 37, 38, 39, 40, 41, 42, 234, 235, 251, 252, 268, 269, 43, 44, 45, 46, 47, 48, 49, 50, 51, 52, 53]
def ti_p (c : Nat) : Nat := ti_pl.getD c 0
theorem ti_p_inj : ∀ i, i < 270 → ∀ j, j < 270 → ti_p i = ti_p j → i = j := by
  have h : (List.range 270).all (fun i => decide (ti_p i < 270) && (List.range 270).all (fun j => decide (ti_p i = ti_p j → i = j))) = true := by decide +kernel
  intro i hi j hj e
  have h1 := tf_rng h hi
  simp only [Bool.and_eq_true] at h1
  have h2 := tf_rng h1.2 hj
  simpa using (of_decide_eq_true h2) e
theorem ti_p_lt {i : Nat} (hi : i < 270) : ti_p i < 270 := by
  have h : (List.range 270).all (fun i => decide (ti_p i < 270)) = true := by decide +kernel
  exact of_decide_eq_true (tf_rng h hi)
/-- the table ahead of clear(2) -/
def ti_h0 : LH := (fun c k => if c = 260 then -1 else match ti_bh.getD (ti_p c) (99, 0, []) with
  | (kd, _, vals) => if kd < 8 then (match vals.getD k .null with
    | .int v => v
    | _ => 0) else 0, fun _ _ => 0)
/-- a cell of the builder is the cell of the table -/
def ti_ck (c : Nat) : Bool := match ti_bh.getD (ti_p c) (99, 0, []) with
  | (kd, len, vals) => decide (kd = tf_K c) && (if kd < 8 then decide (vals.length = tf_Wl kd) && (List.range (tf_Wl kd)).all (fun k => match tf_S kd k, vals.getD k .null with
      | 0, .int v => decide (ti_h0.1 c k = v)
      | 1, .long v => decide (ti_h0.2 c k = v)
      | 2, .ref r => decide (r = ti_p (tf_R c k)) && decide (tf_R c k < 270)
      | _, _ => false) && (List.range (tf_Wl kd)).all (fun k => decide (tf_S kd k < 3))
    else decide (len = tf_N c) && (if kd < 13 then true else if kd = 15 then vals.all (fun v => decide (v = .null)) && decide (c = 260) else decide (vals.length = len) && (List.range len).all (fun i => match vals.getD i .null with
      | .ref r => decide (r = ti_p (tf_R c i))
      | _ => false)) && decide (c = 260 ∨ kd ≠ 15))
theorem ti_ck_all : (List.range 270).all ti_ck = true := by decide +kernel
theorem ti_zero {c : Nat} (hc : c < 270) (h8 : 8 ≤ tf_K c) (h15 : tf_K c ≠ 15) : ti_h0.1 c = fun _ => 0 := by
  have h := tf_rng ti_ck_all hc
  funext k
  simp only [ti_ck, Bool.and_eq_true, decide_eq_true_eq] at h
  have hkd := h.1
  have hne : c ≠ 260 := by
    intro e
    subst e
    exact h15 (by decide +kernel)
  simp only [ti_h0, if_neg hne]
  rw [if_neg (by rw [hkd]; omega)]
theorem ti_arrV {cA : ClassId} {n : Nat} {f g : Nat → Value} (h : ∀ i, i < n → f i = g i) : arrV cA n f = arrV cA n g := by
  unfold arrV
  congr 1
  refine Array.ext (by simp) fun i h1 h2 => ?_
  simp only [Array.size_ofFn] at h1
  simp [h i h1]
set_option maxHeartbeats 2000000 in
theorem ti_cell {D : va_G} {cA : Nat → ClassId} {ad : Nat → Nat} {H : Heap} {c : Nat} (hc : c < 270) {b : Nat × Nat × List Value} (hb : ti_bh[ti_p c]? = some b) (h : va_at D vwCl (ad (ti_p c), tg_E cA ad b) H) : va_at D vwCl (ad (ti_p c), tf_E cA (fun c => ad (ti_p c)) ti_h0 c) H := by
  have hk := tf_rng ti_ck_all hc
  have hbd : ti_bh.getD (ti_p c) (99, 0, []) = b := by rw [List.getD_eq_getElem?_getD, hb]; rfl
  obtain ⟨kd, len, vals⟩ := b
  simp only [ti_ck, hbd, Bool.and_eq_true, decide_eq_true_eq] at hk
  obtain ⟨hkd, hk⟩ := hk
  by_cases h8 : kd < 8
  · rw [if_pos h8] at hk
    simp only [Bool.and_eq_true, decide_eq_true_eq] at hk
    obtain ⟨⟨hl, hv⟩, hs⟩ := hk
    have he : tg_E cA ad (kd, len, vals) = tf_E cA (fun c => ad (ti_p c)) ti_h0 c := by
      unfold tg_E tf_E
      rw [if_pos h8, if_pos (by rw [← hkd]; exact h8), ← hkd]
      refine congrArg (fun l => (Sum.inr (kd, l) : va_E)) (List.ext_getElem? fun k => ?_)
      by_cases hkl : k < tf_Wl kd
      · have h1 := tf_rng hv hkl
        have h2 := of_decide_eq_true (tf_rng hs hkl)
        rw [List.getElem?_map, List.getElem?_map, List.getElem?_range hkl, List.getElem?_eq_getElem (by rw [hl]; exact hkl)]
        have hg : vals.getD k .null = vals[k]'(by rw [hl]; exact hkl) := by rw [List.getD_eq_getElem?_getD, List.getElem?_eq_getElem (by rw [hl]; exact hkl)]; rfl
        rw [hg] at h1
        simp only [Option.map_some, tf_fv, ← hkd]
        generalize vals[k]'(by rw [hl]; exact hkl) = v at h1 ⊢
        split at h1
        · rename_i hs0
          rw [hs0, if_pos rfl]
          have := of_decide_eq_true h1
          rw [this]
          rfl
        · rename_i hs1
          rw [hs1, if_neg (by decide), if_pos rfl]
          have := of_decide_eq_true h1
          rw [this]
          rfl
        · rename_i hs2
          rw [hs2, if_neg (by decide), if_neg (by decide)]
          simp only [Bool.and_eq_true, decide_eq_true_eq] at h1
          rw [h1.1]
          rfl
        · cases h1
      · rw [List.getElem?_eq_none (by simp; omega), List.getElem?_eq_none (by simp; omega)]
    rw [← he]
    exact h
  · rw [if_neg h8] at hk
    simp only [Bool.and_eq_true, decide_eq_true_eq] at hk
    obtain ⟨⟨hlen, hk⟩, hcv⟩ := hk
    have h8' : ¬ tf_K c < 8 := by rw [← hkd]; exact h8
    by_cases h12 : kd < 12
    · have he : tg_E cA ad (kd, len, vals) = tf_E cA (fun c => ad (ti_p c)) ti_h0 c := by
        unfold tg_E tf_E
        rw [if_neg h8, if_neg h8', ← hkd, if_pos h12, if_pos h12]
        simp only [hlen, ti_zero hc (by omega) (by omega)]
      rw [← he]
      exact h
    · by_cases h12' : kd = 12
      · have he : tg_E cA ad (kd, len, vals) = tf_E cA (fun c => ad (ti_p c)) ti_h0 c := by
          unfold tg_E tf_E
          rw [if_neg h8, if_neg h8', ← hkd, if_neg h12, if_neg h12, if_pos h12', if_pos h12']
          simp only [hlen]
          rfl
        rw [← he]
        exact h
      · rw [if_neg (by omega)] at hk
        unfold tg_E at h
        rw [if_neg h8, if_neg h12, if_neg h12'] at h
        unfold tf_E
        rw [if_neg h8', ← hkd, if_neg h12, if_neg h12']
        by_cases h15 : kd = 15
        · subst h15
          rw [if_pos rfl]
          rw [if_pos rfl] at hk
          simp only [Bool.and_eq_true, decide_eq_true_eq] at hk
          have hf : (fun i => tg_rf ad (vals.getD i .null)) = fun i => tf_vb (fun c => ad (ti_p c)) (ti_h0.1 c i) := by
            funext i
            have e1 : vals.getD i .null = .null := by
              rw [List.getD_eq_getElem?_getD]
              cases hv : vals[i]? with
              | none => rfl
              | some v =>
                have := List.all_eq_true.mp hk.1 v (List.mem_of_getElem? hv)
                simpa using this
            rw [e1, hk.2]
            rfl
          rw [← hf, ← hlen]
          exact h
        · rw [if_neg h15]
          rw [if_neg h15] at hk
          simp only [Bool.and_eq_true, decide_eq_true_eq] at hk
          show H[_]? = some (vp_cell _ _)
          have h : H[ad (ti_p c)]? = some (vp_cell (cA kd) (len, .inr (.inr (.inr (.inr (fun i => tg_rf ad (vals.getD i .null))))))) := h
          rw [h, ← hlen]
          refine congrArg some ?_
          rw [vp_cell_q, vp_cell_q]
          refine ti_arrV fun i hi => ?_
          have h1 := tf_rng hk.2 hi
          split at h1
          · rename_i r hr
            rw [hr]
            simp only [decide_eq_true_eq] at h1
            rw [h1]
            rfl
          · cases h1
set_option maxRecDepth 100000 in
theorem ti_world {D : va_G} {cA : Nat → ClassId} {ad : Nat → Nat} {H : Heap} (h : va_P D vwCl ([] ++ tg_ws cA ad ti_bh) H) : va_P D vwCl (tf_ws cA (fun c => ad (ti_p c)) 270 ti_h0) H := by
  intro k q hq
  obtain ⟨hk, rfl⟩ := tf_ws_lt hq
  have hl : ti_p k < ti_bh.length := by rw [ti_len]; exact ti_p_lt hk
  obtain ⟨b, hb⟩ : ∃ b, ti_bh[ti_p k]? = some b := ⟨_, List.getElem?_eq_getElem hl⟩
  have hg := tg_get (cA := cA) (ad := ad) hb ([] : va_W)
  exact ti_cell hk hb (h _ _ hg)
set_option maxRecDepth 100000 in
theorem ti_inj {cA : Nat → ClassId} {ad : Nat → Nat} {A : Nat → Prop} (h : va_D A ([] ++ tg_ws cA ad ti_bh)) : tf_inj (fun c => ad (ti_p c)) 270 ∧ ∀ c, c < 270 → A (ad (ti_p c)) := by
  have hg : ∀ c, c < 270 → ∃ e, ([] ++ tg_ws cA ad ti_bh)[0 + ti_p c]? = some (ad (ti_p c), e) := by
    intro c hc
    have hl : ti_p c < ti_bh.length := by rw [ti_len]; exact ti_p_lt hc
    exact ⟨_, tg_get (cA := cA) (ad := ad) (List.getElem?_eq_getElem hl) []⟩
  refine ⟨fun i j hi hj e => ?_, fun c hc => ?_⟩
  · obtain ⟨e1, h1⟩ := hg i hi
    obtain ⟨e2, h2⟩ := hg j hj
    have := h.1 _ _ _ _ h1 h2 e
    exact ti_p_inj i hi j hj (by omega)
  · obtain ⟨e1, h1⟩ := hg c hc
    exact h.2 _ _ h1
/-! clear(2), begin(false), tally.clear(), by the executable twin -/
def ti_B : tf_Bk := [(176, [(.aload_n 0, 1), (.getfield 12, 3), (.iconst 2, 1), (.invokevirtual 66, 3), (.aload_n 0, 1), (.getfield 12, 3), (.iconst 0, 1), (.invokevirtual 70, 3), (.aload_n 0, 1), (.getfield 12, 3), (.getfield 74, 3), (.invokevirtual 78, 3), (.return_, 1)])]
theorem ti_B_ok : tf_Bck cX8_init 2 ti_B = true := by decide +kernel
def ti_x : Option (Value × LH) := tf_xr 270 (tf_F 6) (tf_M 6) (tf_I 6) (tf_xd 270 200 3) 0 ti_B 20 176 [.ref 240, .int 3] [] ti_h0
/-- the table of a new TreeFlows -/
def ti_h : LH := match ti_x with
  | some (_, h) => h
  | none => ti_h0
theorem ti_x_z : (match ti_x with | some (v, _) => decide (v = tf_z) | none => false) = true := by decide +kernel
theorem ti_x_eq : ti_x = some (tf_z, ti_h) := by
  have h := ti_x_z
  unfold ti_h
  cases hr : ti_x with
  | none => rw [hr] at h; cases h
  | some r =>
    rw [hr] at h
    obtain ⟨v, g⟩ := r
    simp only [decide_eq_true_eq] at h
    rw [h]
