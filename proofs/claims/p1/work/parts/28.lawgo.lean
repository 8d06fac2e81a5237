/-! ===== the law's loop, block by block ===== -/
def tb_L : tf_Bk := tb_L0 ++ (tb_L1 ++ (tb_L2 ++ (tb_L3 ++ (tb_L4 ++ (tb_L5 ++ (tb_L6 ++ (tb_L7)))))))
theorem tf_Bck_app {cc : ByteArray} {nL : Nat} {a b : tf_Bk} (ha : tf_Bck cc nL a = true) (hb : tf_Bck cc nL b = true) : tf_Bck cc nL (a ++ b) = true := by
  unfold tf_Bck at *
  rw [List.all_append, ha, hb]
  rfl
theorem ck_L : tf_Bck code 7 tb_L = true := tf_Bck_app ck_L0 (tf_Bck_app ck_L1 (tf_Bck_app ck_L2 (tf_Bck_app ck_L3 (tf_Bck_app ck_L4 (tf_Bck_app ck_L5 (tf_Bck_app ck_L6 (ck_L7)))))))
def lk_rd (n : Nat) (xs : Nat → Int32) : List Value → List Value → LH → tf_Kt → tf_X → Prop := fun L st h k _ => match st with
  | .int i :: .ref x :: st => (x = 500 ∧ vp_in i n) ∧ k L (.int (xs i.toNatClampNeg) :: st) h
  | _ => False
def lk_len (n : Nat) : List Value → List Value → LH → tf_Kt → tf_X → Prop := fun L st h k _ => match st with
  | .ref x :: st => x = 500 ∧ k L (.int (Int32.ofNat n) :: st) h
  | _ => False
def lk_pcs : List Nat := lk_pcs0 ++ (lk_pcs1 ++ lk_pcs2)
theorem lk_dec {pc : Nat} (h : lk_pcs.contains pc = true) : decode code pc = .ok (.iaload, 1) := by
  have h1 : pc ∈ lk_pcs := by simpa using h
  unfold lk_pcs at h1
  rcases List.mem_append.mp h1 with h1 | h1
  · exact of_decide_eq_true (List.all_eq_true.mp lk_dec0 pc h1)
  · rcases List.mem_append.mp h1 with h1 | h1
    · exact of_decide_eq_true (List.all_eq_true.mp lk_dec1 pc h1)
    · exact of_decide_eq_true (List.all_eq_true.mp lk_dec2 pc h1)
set_option maxRecDepth 100000 in
theorem lk_dec26 : decode code 26 = .ok (.arraylength, 1) := by decide +kernel
def lk_E (n : Nat) (xs : Nat → Int32) : tf_Hk := fun pc => if pc = 26 then some (lk_len n) else if lk_pcs.contains pc = true then some (lk_rd n xs) else none
abbrev lxL (C : tf_C) (n : Nat) (xs : Nat → Int32) (Q : tf_Q) (X : tf_X) (pc : Nat) (L st : List Value) (h : LH) : Prop := tf_wp 298 C (tf_F 10) (tf_M 10) (tf_I 10) (lk_E n xs) 2 Q X pc (tf_at tb_L pc) L st h
set_option maxRecDepth 100000 in
theorem go_L_23 {C : tf_C} {n : Nat} {xs : Nat → Int32} {Q : tf_Q} {X : tf_X} {h : LH} {x4 : Int32} {x5 : Value} {x6 : Value} (q : (((Int32.ofNat n) - 4) < x4 → X 1296 [.ref (500), .ref (240), .ref (270), .ref (297), .int (x4), x5, x6] [] h) ∧ (¬ ((Int32.ofNat n) - 4) < x4 → (vp_in x4 n) ∧ ((((xs (x4 : Int32).toNatClampNeg) &&& 63 : Int32).toInt < 0 ∨ 33 < ((xs (x4 : Int32).toNatClampNeg) &&& 63 : Int32).toInt) → X 1290 [.ref (500), .ref (240), .ref (270), .ref (297), .int (x4), x5, x6] [] h) ∧ (((xs (x4 : Int32).toNatClampNeg) &&& 63 : Int32).toInt = 0 → X 188 [.ref (500), .ref (240), .ref (270), .ref (297), .int (x4), x5, x6] [] h) ∧ (((xs (x4 : Int32).toNatClampNeg) &&& 63 : Int32).toInt = 1 → X 245 [.ref (500), .ref (240), .ref (270), .ref (297), .int (x4), x5, x6] [] h) ∧ (((xs (x4 : Int32).toNatClampNeg) &&& 63 : Int32).toInt = 2 → X 258 [.ref (500), .ref (240), .ref (270), .ref (297), .int (x4), x5, x6] [] h) ∧ (((xs (x4 : Int32).toNatClampNeg) &&& 63 : Int32).toInt = 3 → X 299 [.ref (500), .ref (240), .ref (270), .ref (297), .int (x4), x5, x6] [] h) ∧ (((xs (x4 : Int32).toNatClampNeg) &&& 63 : Int32).toInt = 4 → X 312 [.ref (500), .ref (240), .ref (270), .ref (297), .int (x4), x5, x6] [] h) ∧ (((xs (x4 : Int32).toNatClampNeg) &&& 63 : Int32).toInt = 5 → X 337 [.ref (500), .ref (240), .ref (270), .ref (297), .int (x4), x5, x6] [] h) ∧ (((xs (x4 : Int32).toNatClampNeg) &&& 63 : Int32).toInt = 6 → X 362 [.ref (500), .ref (240), .ref (270), .ref (297), .int (x4), x5, x6] [] h) ∧ (((xs (x4 : Int32).toNatClampNeg) &&& 63 : Int32).toInt = 7 → X 411 [.ref (500), .ref (240), .ref (270), .ref (297), .int (x4), x5, x6] [] h) ∧ (((xs (x4 : Int32).toNatClampNeg) &&& 63 : Int32).toInt = 8 → X 464 [.ref (500), .ref (240), .ref (270), .ref (297), .int (x4), x5, x6] [] h) ∧ (((xs (x4 : Int32).toNatClampNeg) &&& 63 : Int32).toInt = 9 → X 501 [.ref (500), .ref (240), .ref (270), .ref (297), .int (x4), x5, x6] [] h) ∧ (((xs (x4 : Int32).toNatClampNeg) &&& 63 : Int32).toInt = 10 → X 538 [.ref (500), .ref (240), .ref (270), .ref (297), .int (x4), x5, x6] [] h) ∧ (((xs (x4 : Int32).toNatClampNeg) &&& 63 : Int32).toInt = 11 → X 549 [.ref (500), .ref (240), .ref (270), .ref (297), .int (x4), x5, x6] [] h) ∧ (((xs (x4 : Int32).toNatClampNeg) &&& 63 : Int32).toInt = 12 → X 562 [.ref (500), .ref (240), .ref (270), .ref (297), .int (x4), x5, x6] [] h) ∧ (((xs (x4 : Int32).toNatClampNeg) &&& 63 : Int32).toInt = 13 → X 575 [.ref (500), .ref (240), .ref (270), .ref (297), .int (x4), x5, x6] [] h) ∧ (((xs (x4 : Int32).toNatClampNeg) &&& 63 : Int32).toInt = 14 → X 600 [.ref (500), .ref (240), .ref (270), .ref (297), .int (x4), x5, x6] [] h) ∧ (((xs (x4 : Int32).toNatClampNeg) &&& 63 : Int32).toInt = 15 → X 668 [.ref (500), .ref (240), .ref (270), .ref (297), .int (x4), x5, x6] [] h) ∧ (((xs (x4 : Int32).toNatClampNeg) &&& 63 : Int32).toInt = 16 → X 736 [.ref (500), .ref (240), .ref (270), .ref (297), .int (x4), x5, x6] [] h) ∧ (((xs (x4 : Int32).toNatClampNeg) &&& 63 : Int32).toInt = 17 → X 761 [.ref (500), .ref (240), .ref (270), .ref (297), .int (x4), x5, x6] [] h) ∧ (((xs (x4 : Int32).toNatClampNeg) &&& 63 : Int32).toInt = 18 → X 810 [.ref (500), .ref (240), .ref (270), .ref (297), .int (x4), x5, x6] [] h) ∧ (((xs (x4 : Int32).toNatClampNeg) &&& 63 : Int32).toInt = 19 → X 835 [.ref (500), .ref (240), .ref (270), .ref (297), .int (x4), x5, x6] [] h) ∧ (((xs (x4 : Int32).toNatClampNeg) &&& 63 : Int32).toInt = 20 → X 872 [.ref (500), .ref (240), .ref (270), .ref (297), .int (x4), x5, x6] [] h) ∧ (((xs (x4 : Int32).toNatClampNeg) &&& 63 : Int32).toInt = 21 → X 897 [.ref (500), .ref (240), .ref (270), .ref (297), .int (x4), x5, x6] [] h) ∧ (((xs (x4 : Int32).toNatClampNeg) &&& 63 : Int32).toInt = 22 → X 950 [.ref (500), .ref (240), .ref (270), .ref (297), .int (x4), x5, x6] [] h) ∧ (((xs (x4 : Int32).toNatClampNeg) &&& 63 : Int32).toInt = 23 → X 987 [.ref (500), .ref (240), .ref (270), .ref (297), .int (x4), x5, x6] [] h) ∧ (((xs (x4 : Int32).toNatClampNeg) &&& 63 : Int32).toInt = 24 → X 1024 [.ref (500), .ref (240), .ref (270), .ref (297), .int (x4), x5, x6] [] h) ∧ (((xs (x4 : Int32).toNatClampNeg) &&& 63 : Int32).toInt = 25 → X 1049 [.ref (500), .ref (240), .ref (270), .ref (297), .int (x4), x5, x6] [] h) ∧ (((xs (x4 : Int32).toNatClampNeg) &&& 63 : Int32).toInt = 26 → X 1102 [.ref (500), .ref (240), .ref (270), .ref (297), .int (x4), x5, x6] [] h) ∧ (((xs (x4 : Int32).toNatClampNeg) &&& 63 : Int32).toInt = 27 → X 1115 [.ref (500), .ref (240), .ref (270), .ref (297), .int (x4), x5, x6] [] h) ∧ (((xs (x4 : Int32).toNatClampNeg) &&& 63 : Int32).toInt = 28 → X 1128 [.ref (500), .ref (240), .ref (270), .ref (297), .int (x4), x5, x6] [] h) ∧ (((xs (x4 : Int32).toNatClampNeg) &&& 63 : Int32).toInt = 29 → X 1141 [.ref (500), .ref (240), .ref (270), .ref (297), .int (x4), x5, x6] [] h) ∧ (((xs (x4 : Int32).toNatClampNeg) &&& 63 : Int32).toInt = 30 → X 1166 [.ref (500), .ref (240), .ref (270), .ref (297), .int (x4), x5, x6] [] h) ∧ (((xs (x4 : Int32).toNatClampNeg) &&& 63 : Int32).toInt = 31 → X 1203 [.ref (500), .ref (240), .ref (270), .ref (297), .int (x4), x5, x6] [] h) ∧ (((xs (x4 : Int32).toNatClampNeg) &&& 63 : Int32).toInt = 32 → X 1240 [.ref (500), .ref (240), .ref (270), .ref (297), .int (x4), x5, x6] [] h) ∧ (((xs (x4 : Int32).toNatClampNeg) &&& 63 : Int32).toInt = 33 → X 1265 [.ref (500), .ref (240), .ref (270), .ref (297), .int (x4), x5, x6] [] h) ∧ True)) : lxL C n xs Q X 23 [.ref (500), .ref (240), .ref (270), .ref (297), .int (x4), x5, x6] [] h := by
  have hn : 298 ≤ 298 := Nat.le_refl _
  exact ⟨rfl, ⟨q.1, fun c1 => ⟨⟨rfl, (q.2 c1).1⟩, (q.2 c1).2⟩⟩⟩
set_option maxRecDepth 100000 in
theorem go_L_188 {C : tf_C} {n : Nat} {xs : Nat → Int32} {Q : tf_Q} {X : tf_X} {h : LH} {x4 : Int32} {x5 : Value} {x6 : Value} (q : (vp_in (x4 + 1) n) ∧ (vp_in (x4 + 2) n) ∧ C 182 [.ref (240), .long ((((xs (x4 + 1 : Int32).toNatClampNeg : Int32).toInt64) <<< ((32 : Int32).toInt64 &&& 63)) ||| (((xs (x4 + 2 : Int32).toNatClampNeg : Int32).toInt64) &&& 4294967295))] h (fun r g => X 214 [.ref (500), .ref (240), .ref (270), .ref (297), .int (x4), x5, x6] (r :: []) g)) : lxL C n xs Q X 188 [.ref (500), .ref (240), .ref (270), .ref (297), .int (x4), x5, x6] [] h := by
  have hn : 298 ≤ 298 := Nat.le_refl _
  exact ⟨⟨rfl, q.1⟩, ⟨⟨rfl, q.2.1⟩, ⟨Nat.le_of_ble_eq_true rfl, Nat.le_of_ble_eq_true rfl, q.2.2⟩⟩⟩
set_option maxRecDepth 100000 in
theorem go_L_214 {C : tf_C} {n : Nat} {xs : Nat → Int32} {Q : tf_Q} {X : tf_X} {h : LH} {x4 : Int32} {x5 : Value} {x6 : Value} {y0 : Int32} (q : (vp_in (x4 + 1) n) ∧ (vp_in (x4 + 2) n) ∧ C 9 [.ref (270), .long ((((xs (x4 + 1 : Int32).toNatClampNeg : Int32).toInt64) <<< ((32 : Int32).toInt64 &&& 63)) ||| (((xs (x4 + 2 : Int32).toNatClampNeg : Int32).toInt64) &&& 4294967295))] h (fun r g => X 240 [.ref (500), .ref (240), .ref (270), .ref (297), .int (x4), x5, x6] (r :: [.int (y0)]) g)) : lxL C n xs Q X 214 [.ref (500), .ref (240), .ref (270), .ref (297), .int (x4), x5, x6] [.int (y0)] h := by
  have hn : 298 ≤ 298 := Nat.le_refl _
  exact ⟨⟨rfl, q.1⟩, ⟨⟨rfl, q.2.1⟩, ⟨Nat.le_of_ble_eq_true rfl, Nat.le_of_ble_eq_true rfl, q.2.2⟩⟩⟩
set_option maxRecDepth 100000 in
theorem go_L_240 {C : tf_C} {n : Nat} {xs : Nat → Int32} {Q : tf_Q} {X : tf_X} {h : LH} {x4 : Int32} {x5 : Value} {x6 : Value} {y0 : Int32} {y1 : Int32} (q : (y0 = y1 → X 1290 [.ref (500), .ref (240), .ref (270), .ref (297), .int (x4), x5, x6] [] h) ∧ (¬ y0 = y1 → Q (.int (0)) h)) : lxL C n xs Q X 240 [.ref (500), .ref (240), .ref (270), .ref (297), .int (x4), x5, x6] [.int (y1), .int (y0)] h := by
  have hn : 298 ≤ 298 := Nat.le_refl _
  exact ⟨q.1, fun c1 => ⟨(by first | rfl | trivial), (q.2 c1)⟩⟩
set_option maxRecDepth 100000 in
theorem go_L_245 {C : tf_C} {n : Nat} {xs : Nat → Int32} {Q : tf_Q} {X : tf_X} {h : LH} {x4 : Int32} {x5 : Value} {x6 : Value} (q : C 183 [.ref (240)] h (fun r g => X 249 [.ref (500), .ref (240), .ref (270), .ref (297), .int (x4), x5, x6] (r :: []) g)) : lxL C n xs Q X 245 [.ref (500), .ref (240), .ref (270), .ref (297), .int (x4), x5, x6] [] h := by
  have hn : 298 ≤ 298 := Nat.le_refl _
  exact ⟨Nat.le_of_ble_eq_true rfl, Nat.le_of_ble_eq_true rfl, q⟩
set_option maxRecDepth 100000 in
theorem go_L_249 {C : tf_C} {n : Nat} {xs : Nat → Int32} {Q : tf_Q} {X : tf_X} {h : LH} {x4 : Int32} {x5 : Value} {x6 : Value} {y0 : Int32} (q : C 25 [.ref (270)] h (fun r g => X 253 [.ref (500), .ref (240), .ref (270), .ref (297), .int (x4), x5, x6] (r :: [.int (y0)]) g)) : lxL C n xs Q X 249 [.ref (500), .ref (240), .ref (270), .ref (297), .int (x4), x5, x6] [.int (y0)] h := by
  have hn : 298 ≤ 298 := Nat.le_refl _
  exact ⟨Nat.le_of_ble_eq_true rfl, Nat.le_of_ble_eq_true rfl, q⟩
set_option maxRecDepth 100000 in
theorem go_L_253 {C : tf_C} {n : Nat} {xs : Nat → Int32} {Q : tf_Q} {X : tf_X} {h : LH} {x4 : Int32} {x5 : Value} {x6 : Value} {y0 : Int32} {y1 : Int32} (q : (y0 = y1 → X 1290 [.ref (500), .ref (240), .ref (270), .ref (297), .int (x4), x5, x6] [] h) ∧ (¬ y0 = y1 → Q (.int (0)) h)) : lxL C n xs Q X 253 [.ref (500), .ref (240), .ref (270), .ref (297), .int (x4), x5, x6] [.int (y1), .int (y0)] h := by
  have hn : 298 ≤ 298 := Nat.le_refl _
  exact ⟨q.1, fun c1 => ⟨(by first | rfl | trivial), (q.2 c1)⟩⟩
set_option maxRecDepth 100000 in
theorem go_L_258 {C : tf_C} {n : Nat} {xs : Nat → Int32} {Q : tf_Q} {X : tf_X} {h : LH} {x4 : Int32} {x5 : Value} {x6 : Value} (q : (vp_in (x4 + 1) n) ∧ ((xs (x4 + 1 : Int32).toNatClampNeg) = (0 : Int32) → X 272 [.ref (500), .ref (240), .ref (270), .ref (297), .int (x4), x5, x6] [.ref (240)] h) ∧ (¬ (xs (x4 + 1 : Int32).toNatClampNeg) = (0 : Int32) → X 273 [.ref (500), .ref (240), .ref (270), .ref (297), .int (x4), x5, x6] [.int (1), .ref (240)] h)) : lxL C n xs Q X 258 [.ref (500), .ref (240), .ref (270), .ref (297), .int (x4), x5, x6] [] h := by
  have hn : 298 ≤ 298 := Nat.le_refl _
  exact ⟨⟨rfl, q.1⟩, ⟨q.2.1, fun c1 => (q.2.2 c1)⟩⟩
set_option maxRecDepth 100000 in
theorem go_L_272 {C : tf_C} {n : Nat} {xs : Nat → Int32} {Q : tf_Q} {X : tf_X} {h : LH} {x4 : Int32} {x5 : Value} {x6 : Value} (q : X 273 [.ref (500), .ref (240), .ref (270), .ref (297), .int (x4), x5, x6] [.int (0), .ref (240)] h) : lxL C n xs Q X 272 [.ref (500), .ref (240), .ref (270), .ref (297), .int (x4), x5, x6] [.ref (240)] h := by
  have hn : 298 ≤ 298 := Nat.le_refl _
  exact q
set_option maxRecDepth 100000 in
theorem go_L_273 {C : tf_C} {n : Nat} {xs : Nat → Int32} {Q : tf_Q} {X : tf_X} {h : LH} {x4 : Int32} {x5 : Value} {x6 : Value} {y1 : Int32} (q : C 184 [.ref (240), .int (y1)] h (fun r g => X 276 [.ref (500), .ref (240), .ref (270), .ref (297), .int (x4), x5, x6] (r :: []) g)) : lxL C n xs Q X 273 [.ref (500), .ref (240), .ref (270), .ref (297), .int (x4), x5, x6] [.int (y1), .ref (240)] h := by
  have hn : 298 ≤ 298 := Nat.le_refl _
  exact ⟨Nat.le_of_ble_eq_true rfl, Nat.le_of_ble_eq_true rfl, q⟩
set_option maxRecDepth 100000 in
theorem go_L_276 {C : tf_C} {n : Nat} {xs : Nat → Int32} {Q : tf_Q} {X : tf_X} {h : LH} {x4 : Int32} {x5 : Value} {x6 : Value} {y0 : Int32} (q : (vp_in (x4 + 1) n) ∧ ((xs (x4 + 1 : Int32).toNatClampNeg) = (0 : Int32) → X 290 [.ref (500), .ref (240), .ref (270), .ref (297), .int (x4), x5, x6] [.ref (270), .int (y0)] h) ∧ (¬ (xs (x4 + 1 : Int32).toNatClampNeg) = (0 : Int32) → X 291 [.ref (500), .ref (240), .ref (270), .ref (297), .int (x4), x5, x6] [.int (1), .ref (270), .int (y0)] h)) : lxL C n xs Q X 276 [.ref (500), .ref (240), .ref (270), .ref (297), .int (x4), x5, x6] [.int (y0)] h := by
  have hn : 298 ≤ 298 := Nat.le_refl _
  exact ⟨⟨rfl, q.1⟩, ⟨q.2.1, fun c1 => (q.2.2 c1)⟩⟩
set_option maxRecDepth 100000 in
theorem go_L_290 {C : tf_C} {n : Nat} {xs : Nat → Int32} {Q : tf_Q} {X : tf_X} {h : LH} {x4 : Int32} {x5 : Value} {x6 : Value} {y0 : Int32} (q : X 291 [.ref (500), .ref (240), .ref (270), .ref (297), .int (x4), x5, x6] [.int (0), .ref (270), .int (y0)] h) : lxL C n xs Q X 290 [.ref (500), .ref (240), .ref (270), .ref (297), .int (x4), x5, x6] [.ref (270), .int (y0)] h := by
  have hn : 298 ≤ 298 := Nat.le_refl _
  exact q
set_option maxRecDepth 100000 in
theorem go_L_291 {C : tf_C} {n : Nat} {xs : Nat → Int32} {Q : tf_Q} {X : tf_X} {h : LH} {x4 : Int32} {x5 : Value} {x6 : Value} {y0 : Int32} {y2 : Int32} (q : C 26 [.ref (270), .int (y2)] h (fun r g => X 294 [.ref (500), .ref (240), .ref (270), .ref (297), .int (x4), x5, x6] (r :: [.int (y0)]) g)) : lxL C n xs Q X 291 [.ref (500), .ref (240), .ref (270), .ref (297), .int (x4), x5, x6] [.int (y2), .ref (270), .int (y0)] h := by
  have hn : 298 ≤ 298 := Nat.le_refl _
  exact ⟨Nat.le_of_ble_eq_true rfl, Nat.le_of_ble_eq_true rfl, q⟩
set_option maxRecDepth 100000 in
theorem go_L_294 {C : tf_C} {n : Nat} {xs : Nat → Int32} {Q : tf_Q} {X : tf_X} {h : LH} {x4 : Int32} {x5 : Value} {x6 : Value} {y0 : Int32} {y1 : Int32} (q : (y0 = y1 → X 1290 [.ref (500), .ref (240), .ref (270), .ref (297), .int (x4), x5, x6] [] h) ∧ (¬ y0 = y1 → Q (.int (0)) h)) : lxL C n xs Q X 294 [.ref (500), .ref (240), .ref (270), .ref (297), .int (x4), x5, x6] [.int (y1), .int (y0)] h := by
  have hn : 298 ≤ 298 := Nat.le_refl _
  exact ⟨q.1, fun c1 => ⟨(by first | rfl | trivial), (q.2 c1)⟩⟩
set_option maxRecDepth 100000 in
theorem go_L_299 {C : tf_C} {n : Nat} {xs : Nat → Int32} {Q : tf_Q} {X : tf_X} {h : LH} {x4 : Int32} {x5 : Value} {x6 : Value} (q : C 185 [.ref (240)] h (fun r g => X 303 [.ref (500), .ref (240), .ref (270), .ref (297), .int (x4), x5, x6] (r :: []) g)) : lxL C n xs Q X 299 [.ref (500), .ref (240), .ref (270), .ref (297), .int (x4), x5, x6] [] h := by
  have hn : 298 ≤ 298 := Nat.le_refl _
  exact ⟨Nat.le_of_ble_eq_true rfl, Nat.le_of_ble_eq_true rfl, q⟩
set_option maxRecDepth 100000 in
theorem go_L_303 {C : tf_C} {n : Nat} {xs : Nat → Int32} {Q : tf_Q} {X : tf_X} {h : LH} {x4 : Int32} {x5 : Value} {x6 : Value} {y0 : Int32} (q : C 55 [.ref (270)] h (fun r g => X 307 [.ref (500), .ref (240), .ref (270), .ref (297), .int (x4), x5, x6] (r :: [.int (y0)]) g)) : lxL C n xs Q X 303 [.ref (500), .ref (240), .ref (270), .ref (297), .int (x4), x5, x6] [.int (y0)] h := by
  have hn : 298 ≤ 298 := Nat.le_refl _
  exact ⟨Nat.le_of_ble_eq_true rfl, Nat.le_of_ble_eq_true rfl, q⟩
set_option maxRecDepth 100000 in
theorem go_L_307 {C : tf_C} {n : Nat} {xs : Nat → Int32} {Q : tf_Q} {X : tf_X} {h : LH} {x4 : Int32} {x5 : Value} {x6 : Value} {y0 : Int32} {y1 : Int32} (q : (y0 = y1 → X 1290 [.ref (500), .ref (240), .ref (270), .ref (297), .int (x4), x5, x6] [] h) ∧ (¬ y0 = y1 → Q (.int (0)) h)) : lxL C n xs Q X 307 [.ref (500), .ref (240), .ref (270), .ref (297), .int (x4), x5, x6] [.int (y1), .int (y0)] h := by
  have hn : 298 ≤ 298 := Nat.le_refl _
  exact ⟨q.1, fun c1 => ⟨(by first | rfl | trivial), (q.2 c1)⟩⟩
set_option maxRecDepth 100000 in
theorem go_L_312 {C : tf_C} {n : Nat} {xs : Nat → Int32} {Q : tf_Q} {X : tf_X} {h : LH} {x4 : Int32} {x5 : Value} {x6 : Value} (q : (vp_in (x4 + 1) n) ∧ C 186 [.ref (240), .int (xs (x4 + 1 : Int32).toNatClampNeg)] h (fun r g => X 322 [.ref (500), .ref (240), .ref (270), .ref (297), .int (x4), x5, x6] (r :: []) g)) : lxL C n xs Q X 312 [.ref (500), .ref (240), .ref (270), .ref (297), .int (x4), x5, x6] [] h := by
  have hn : 298 ≤ 298 := Nat.le_refl _
  exact ⟨⟨rfl, q.1⟩, ⟨Nat.le_of_ble_eq_true rfl, Nat.le_of_ble_eq_true rfl, q.2⟩⟩
set_option maxRecDepth 100000 in
theorem go_L_322 {C : tf_C} {n : Nat} {xs : Nat → Int32} {Q : tf_Q} {X : tf_X} {h : LH} {x4 : Int32} {x5 : Value} {x6 : Value} {y0 : Int32} (q : (vp_in (x4 + 1) n) ∧ C 56 [.ref (270), .int (xs (x4 + 1 : Int32).toNatClampNeg)] h (fun r g => X 332 [.ref (500), .ref (240), .ref (270), .ref (297), .int (x4), x5, x6] (r :: [.int (y0)]) g)) : lxL C n xs Q X 322 [.ref (500), .ref (240), .ref (270), .ref (297), .int (x4), x5, x6] [.int (y0)] h := by
  have hn : 298 ≤ 298 := Nat.le_refl _
  exact ⟨⟨rfl, q.1⟩, ⟨Nat.le_of_ble_eq_true rfl, Nat.le_of_ble_eq_true rfl, q.2⟩⟩
set_option maxRecDepth 100000 in
theorem go_L_332 {C : tf_C} {n : Nat} {xs : Nat → Int32} {Q : tf_Q} {X : tf_X} {h : LH} {x4 : Int32} {x5 : Value} {x6 : Value} {y0 : Int32} {y1 : Int32} (q : (y0 = y1 → X 1290 [.ref (500), .ref (240), .ref (270), .ref (297), .int (x4), x5, x6] [] h) ∧ (¬ y0 = y1 → Q (.int (0)) h)) : lxL C n xs Q X 332 [.ref (500), .ref (240), .ref (270), .ref (297), .int (x4), x5, x6] [.int (y1), .int (y0)] h := by
  have hn : 298 ≤ 298 := Nat.le_refl _
  exact ⟨q.1, fun c1 => ⟨(by first | rfl | trivial), (q.2 c1)⟩⟩
set_option maxRecDepth 100000 in
theorem go_L_337 {C : tf_C} {n : Nat} {xs : Nat → Int32} {Q : tf_Q} {X : tf_X} {h : LH} {x4 : Int32} {x5 : Value} {x6 : Value} (q : (vp_in (x4 + 1) n) ∧ C 187 [.ref (240), .int (xs (x4 + 1 : Int32).toNatClampNeg)] h (fun r g => X 347 [.ref (500), .ref (240), .ref (270), .ref (297), .int (x4), x5, x6] (r :: []) g)) : lxL C n xs Q X 337 [.ref (500), .ref (240), .ref (270), .ref (297), .int (x4), x5, x6] [] h := by
  have hn : 298 ≤ 298 := Nat.le_refl _
  exact ⟨⟨rfl, q.1⟩, ⟨Nat.le_of_ble_eq_true rfl, Nat.le_of_ble_eq_true rfl, q.2⟩⟩
set_option maxRecDepth 100000 in
theorem go_L_347 {C : tf_C} {n : Nat} {xs : Nat → Int32} {Q : tf_Q} {X : tf_X} {h : LH} {x4 : Int32} {x5 : Value} {x6 : Value} {y0 : Int32} (q : (vp_in (x4 + 1) n) ∧ C 57 [.ref (270), .int (xs (x4 + 1 : Int32).toNatClampNeg)] h (fun r g => X 357 [.ref (500), .ref (240), .ref (270), .ref (297), .int (x4), x5, x6] (r :: [.int (y0)]) g)) : lxL C n xs Q X 347 [.ref (500), .ref (240), .ref (270), .ref (297), .int (x4), x5, x6] [.int (y0)] h := by
  have hn : 298 ≤ 298 := Nat.le_refl _
  exact ⟨⟨rfl, q.1⟩, ⟨Nat.le_of_ble_eq_true rfl, Nat.le_of_ble_eq_true rfl, q.2⟩⟩
set_option maxRecDepth 100000 in
theorem go_L_357 {C : tf_C} {n : Nat} {xs : Nat → Int32} {Q : tf_Q} {X : tf_X} {h : LH} {x4 : Int32} {x5 : Value} {x6 : Value} {y0 : Int32} {y1 : Int32} (q : (y0 = y1 → X 1290 [.ref (500), .ref (240), .ref (270), .ref (297), .int (x4), x5, x6] [] h) ∧ (¬ y0 = y1 → Q (.int (0)) h)) : lxL C n xs Q X 357 [.ref (500), .ref (240), .ref (270), .ref (297), .int (x4), x5, x6] [.int (y1), .int (y0)] h := by
  have hn : 298 ≤ 298 := Nat.le_refl _
  exact ⟨q.1, fun c1 => ⟨(by first | rfl | trivial), (q.2 c1)⟩⟩
set_option maxRecDepth 100000 in
theorem go_L_362 {C : tf_C} {n : Nat} {xs : Nat → Int32} {Q : tf_Q} {X : tf_X} {h : LH} {x4 : Int32} {x5 : Value} {x6 : Value} (q : (vp_in (x4 + 1) n) ∧ (vp_in (x4 + 2) n) ∧ (vp_in (x4 + 3) n) ∧ C 188 [.ref (240), .int (xs (x4 + 1 : Int32).toNatClampNeg), .int (xs (x4 + 2 : Int32).toNatClampNeg), .int (xs (x4 + 3 : Int32).toNatClampNeg)] h (fun r g => X 384 [.ref (500), .ref (240), .ref (270), .ref (297), .int (x4), x5, x6] (r :: []) g)) : lxL C n xs Q X 362 [.ref (500), .ref (240), .ref (270), .ref (297), .int (x4), x5, x6] [] h := by
  have hn : 298 ≤ 298 := Nat.le_refl _
  exact ⟨⟨rfl, q.1⟩, ⟨⟨rfl, q.2.1⟩, ⟨⟨rfl, q.2.2.1⟩, ⟨Nat.le_of_ble_eq_true rfl, Nat.le_of_ble_eq_true rfl, q.2.2.2⟩⟩⟩⟩
set_option maxRecDepth 100000 in
theorem go_L_384 {C : tf_C} {n : Nat} {xs : Nat → Int32} {Q : tf_Q} {X : tf_X} {h : LH} {x4 : Int32} {x5 : Value} {x6 : Value} {y0 : Int32} (q : (vp_in (x4 + 1) n) ∧ (vp_in (x4 + 2) n) ∧ (vp_in (x4 + 3) n) ∧ C 60 [.ref (270), .int (xs (x4 + 1 : Int32).toNatClampNeg), .int (xs (x4 + 2 : Int32).toNatClampNeg), .int (xs (x4 + 3 : Int32).toNatClampNeg)] h (fun r g => X 406 [.ref (500), .ref (240), .ref (270), .ref (297), .int (x4), x5, x6] (r :: [.int (y0)]) g)) : lxL C n xs Q X 384 [.ref (500), .ref (240), .ref (270), .ref (297), .int (x4), x5, x6] [.int (y0)] h := by
  have hn : 298 ≤ 298 := Nat.le_refl _
  exact ⟨⟨rfl, q.1⟩, ⟨⟨rfl, q.2.1⟩, ⟨⟨rfl, q.2.2.1⟩, ⟨Nat.le_of_ble_eq_true rfl, Nat.le_of_ble_eq_true rfl, q.2.2.2⟩⟩⟩⟩
set_option maxRecDepth 100000 in
theorem go_L_406 {C : tf_C} {n : Nat} {xs : Nat → Int32} {Q : tf_Q} {X : tf_X} {h : LH} {x4 : Int32} {x5 : Value} {x6 : Value} {y0 : Int32} {y1 : Int32} (q : (y0 = y1 → X 1290 [.ref (500), .ref (240), .ref (270), .ref (297), .int (x4), x5, x6] [] h) ∧ (¬ y0 = y1 → Q (.int (0)) h)) : lxL C n xs Q X 406 [.ref (500), .ref (240), .ref (270), .ref (297), .int (x4), x5, x6] [.int (y1), .int (y0)] h := by
  have hn : 298 ≤ 298 := Nat.le_refl _
  exact ⟨q.1, fun c1 => ⟨(by first | rfl | trivial), (q.2 c1)⟩⟩
set_option maxRecDepth 100000 in
theorem go_L_411 {C : tf_C} {n : Nat} {xs : Nat → Int32} {Q : tf_Q} {X : tf_X} {h : LH} {x4 : Int32} {x5 : Value} {x6 : Value} (q : (vp_in (x4 + 1) n) ∧ (vp_in (x4 + 2) n) ∧ ((xs (x4 + 2 : Int32).toNatClampNeg) = (0 : Int32) → X 431 [.ref (500), .ref (240), .ref (270), .ref (297), .int (x4), x5, x6] [.int (xs (x4 + 1 : Int32).toNatClampNeg), .ref (240)] h) ∧ (¬ (xs (x4 + 2 : Int32).toNatClampNeg) = (0 : Int32) → X 432 [.ref (500), .ref (240), .ref (270), .ref (297), .int (x4), x5, x6] [.int (1), .int (xs (x4 + 1 : Int32).toNatClampNeg), .ref (240)] h)) : lxL C n xs Q X 411 [.ref (500), .ref (240), .ref (270), .ref (297), .int (x4), x5, x6] [] h := by
  have hn : 298 ≤ 298 := Nat.le_refl _
  exact ⟨⟨rfl, q.1⟩, ⟨⟨rfl, q.2.1⟩, ⟨q.2.2.1, fun c1 => (q.2.2.2 c1)⟩⟩⟩
set_option maxRecDepth 100000 in
theorem go_L_431 {C : tf_C} {n : Nat} {xs : Nat → Int32} {Q : tf_Q} {X : tf_X} {h : LH} {x4 : Int32} {x5 : Value} {x6 : Value} {y1 : Int32} (q : X 432 [.ref (500), .ref (240), .ref (270), .ref (297), .int (x4), x5, x6] [.int (0), .int (y1), .ref (240)] h) : lxL C n xs Q X 431 [.ref (500), .ref (240), .ref (270), .ref (297), .int (x4), x5, x6] [.int (y1), .ref (240)] h := by
  have hn : 298 ≤ 298 := Nat.le_refl _
  exact q
set_option maxRecDepth 100000 in
theorem go_L_432 {C : tf_C} {n : Nat} {xs : Nat → Int32} {Q : tf_Q} {X : tf_X} {h : LH} {x4 : Int32} {x5 : Value} {x6 : Value} {y1 : Int32} {y2 : Int32} (q : C 189 [.ref (240), .int (y1), .int (y2)] h (fun r g => X 435 [.ref (500), .ref (240), .ref (270), .ref (297), .int (x4), x5, x6] (r :: []) g)) : lxL C n xs Q X 432 [.ref (500), .ref (240), .ref (270), .ref (297), .int (x4), x5, x6] [.int (y2), .int (y1), .ref (240)] h := by
  have hn : 298 ≤ 298 := Nat.le_refl _
  exact ⟨Nat.le_of_ble_eq_true rfl, Nat.le_of_ble_eq_true rfl, q⟩
set_option maxRecDepth 100000 in
theorem go_L_435 {C : tf_C} {n : Nat} {xs : Nat → Int32} {Q : tf_Q} {X : tf_X} {h : LH} {x4 : Int32} {x5 : Value} {x6 : Value} {y0 : Int32} (q : (vp_in (x4 + 1) n) ∧ (vp_in (x4 + 2) n) ∧ ((xs (x4 + 2 : Int32).toNatClampNeg) = (0 : Int32) → X 455 [.ref (500), .ref (240), .ref (270), .ref (297), .int (x4), x5, x6] [.int (xs (x4 + 1 : Int32).toNatClampNeg), .ref (270), .int (y0)] h) ∧ (¬ (xs (x4 + 2 : Int32).toNatClampNeg) = (0 : Int32) → X 456 [.ref (500), .ref (240), .ref (270), .ref (297), .int (x4), x5, x6] [.int (1), .int (xs (x4 + 1 : Int32).toNatClampNeg), .ref (270), .int (y0)] h)) : lxL C n xs Q X 435 [.ref (500), .ref (240), .ref (270), .ref (297), .int (x4), x5, x6] [.int (y0)] h := by
  have hn : 298 ≤ 298 := Nat.le_refl _
  exact ⟨⟨rfl, q.1⟩, ⟨⟨rfl, q.2.1⟩, ⟨q.2.2.1, fun c1 => (q.2.2.2 c1)⟩⟩⟩
set_option maxRecDepth 100000 in
theorem go_L_455 {C : tf_C} {n : Nat} {xs : Nat → Int32} {Q : tf_Q} {X : tf_X} {h : LH} {x4 : Int32} {x5 : Value} {x6 : Value} {y0 : Int32} {y2 : Int32} (q : X 456 [.ref (500), .ref (240), .ref (270), .ref (297), .int (x4), x5, x6] [.int (0), .int (y2), .ref (270), .int (y0)] h) : lxL C n xs Q X 455 [.ref (500), .ref (240), .ref (270), .ref (297), .int (x4), x5, x6] [.int (y2), .ref (270), .int (y0)] h := by
  have hn : 298 ≤ 298 := Nat.le_refl _
  exact q
set_option maxRecDepth 100000 in
theorem go_L_456 {C : tf_C} {n : Nat} {xs : Nat → Int32} {Q : tf_Q} {X : tf_X} {h : LH} {x4 : Int32} {x5 : Value} {x6 : Value} {y0 : Int32} {y2 : Int32} {y3 : Int32} (q : C 64 [.ref (270), .int (y2), .int (y3)] h (fun r g => X 459 [.ref (500), .ref (240), .ref (270), .ref (297), .int (x4), x5, x6] (r :: [.int (y0)]) g)) : lxL C n xs Q X 456 [.ref (500), .ref (240), .ref (270), .ref (297), .int (x4), x5, x6] [.int (y3), .int (y2), .ref (270), .int (y0)] h := by
  have hn : 298 ≤ 298 := Nat.le_refl _
  exact ⟨Nat.le_of_ble_eq_true rfl, Nat.le_of_ble_eq_true rfl, q⟩
set_option maxRecDepth 100000 in
theorem go_L_459 {C : tf_C} {n : Nat} {xs : Nat → Int32} {Q : tf_Q} {X : tf_X} {h : LH} {x4 : Int32} {x5 : Value} {x6 : Value} {y0 : Int32} {y1 : Int32} (q : (y0 = y1 → X 1290 [.ref (500), .ref (240), .ref (270), .ref (297), .int (x4), x5, x6] [] h) ∧ (¬ y0 = y1 → Q (.int (0)) h)) : lxL C n xs Q X 459 [.ref (500), .ref (240), .ref (270), .ref (297), .int (x4), x5, x6] [.int (y1), .int (y0)] h := by
  have hn : 298 ≤ 298 := Nat.le_refl _
  exact ⟨q.1, fun c1 => ⟨(by first | rfl | trivial), (q.2 c1)⟩⟩
set_option maxRecDepth 100000 in
theorem go_L_464 {C : tf_C} {n : Nat} {xs : Nat → Int32} {Q : tf_Q} {X : tf_X} {h : LH} {x4 : Int32} {x5 : Value} {x6 : Value} (q : (vp_in (x4 + 1) n) ∧ (vp_in (x4 + 2) n) ∧ C 190 [.ref (240), .int (xs (x4 + 1 : Int32).toNatClampNeg), .int (xs (x4 + 2 : Int32).toNatClampNeg)] h (fun r g => X 480 [.ref (500), .ref (240), .ref (270), .ref (297), .int (x4), x5, x6] (r :: []) g)) : lxL C n xs Q X 464 [.ref (500), .ref (240), .ref (270), .ref (297), .int (x4), x5, x6] [] h := by
  have hn : 298 ≤ 298 := Nat.le_refl _
  exact ⟨⟨rfl, q.1⟩, ⟨⟨rfl, q.2.1⟩, ⟨Nat.le_of_ble_eq_true rfl, Nat.le_of_ble_eq_true rfl, q.2.2⟩⟩⟩
set_option maxRecDepth 100000 in
theorem go_L_480 {C : tf_C} {n : Nat} {xs : Nat → Int32} {Q : tf_Q} {X : tf_X} {h : LH} {x4 : Int32} {x5 : Value} {x6 : Value} {y0 : Int32} (q : (vp_in (x4 + 1) n) ∧ (vp_in (x4 + 2) n) ∧ C 65 [.ref (270), .int (xs (x4 + 1 : Int32).toNatClampNeg), .int (xs (x4 + 2 : Int32).toNatClampNeg)] h (fun r g => X 496 [.ref (500), .ref (240), .ref (270), .ref (297), .int (x4), x5, x6] (r :: [.int (y0)]) g)) : lxL C n xs Q X 480 [.ref (500), .ref (240), .ref (270), .ref (297), .int (x4), x5, x6] [.int (y0)] h := by
  have hn : 298 ≤ 298 := Nat.le_refl _
  exact ⟨⟨rfl, q.1⟩, ⟨⟨rfl, q.2.1⟩, ⟨Nat.le_of_ble_eq_true rfl, Nat.le_of_ble_eq_true rfl, q.2.2⟩⟩⟩
set_option maxRecDepth 100000 in
theorem go_L_496 {C : tf_C} {n : Nat} {xs : Nat → Int32} {Q : tf_Q} {X : tf_X} {h : LH} {x4 : Int32} {x5 : Value} {x6 : Value} {y0 : Int32} {y1 : Int32} (q : (y0 = y1 → X 1290 [.ref (500), .ref (240), .ref (270), .ref (297), .int (x4), x5, x6] [] h) ∧ (¬ y0 = y1 → Q (.int (0)) h)) : lxL C n xs Q X 496 [.ref (500), .ref (240), .ref (270), .ref (297), .int (x4), x5, x6] [.int (y1), .int (y0)] h := by
  have hn : 298 ≤ 298 := Nat.le_refl _
  exact ⟨q.1, fun c1 => ⟨(by first | rfl | trivial), (q.2 c1)⟩⟩
set_option maxRecDepth 100000 in
theorem go_L_501 {C : tf_C} {n : Nat} {xs : Nat → Int32} {Q : tf_Q} {X : tf_X} {h : LH} {x4 : Int32} {x5 : Value} {x6 : Value} (q : (vp_in (x4 + 1) n) ∧ (vp_in (x4 + 2) n) ∧ C 191 [.ref (240), .int (xs (x4 + 1 : Int32).toNatClampNeg), .int (xs (x4 + 2 : Int32).toNatClampNeg)] h (fun r g => X 517 [.ref (500), .ref (240), .ref (270), .ref (297), .int (x4), x5, x6] (r :: []) g)) : lxL C n xs Q X 501 [.ref (500), .ref (240), .ref (270), .ref (297), .int (x4), x5, x6] [] h := by
  have hn : 298 ≤ 298 := Nat.le_refl _
  exact ⟨⟨rfl, q.1⟩, ⟨⟨rfl, q.2.1⟩, ⟨Nat.le_of_ble_eq_true rfl, Nat.le_of_ble_eq_true rfl, q.2.2⟩⟩⟩
set_option maxRecDepth 100000 in
theorem go_L_517 {C : tf_C} {n : Nat} {xs : Nat → Int32} {Q : tf_Q} {X : tf_X} {h : LH} {x4 : Int32} {x5 : Value} {x6 : Value} {y0 : Int32} (q : (vp_in (x4 + 1) n) ∧ (vp_in (x4 + 2) n) ∧ C 66 [.ref (270), .int (xs (x4 + 1 : Int32).toNatClampNeg), .int (xs (x4 + 2 : Int32).toNatClampNeg)] h (fun r g => X 533 [.ref (500), .ref (240), .ref (270), .ref (297), .int (x4), x5, x6] (r :: [.int (y0)]) g)) : lxL C n xs Q X 517 [.ref (500), .ref (240), .ref (270), .ref (297), .int (x4), x5, x6] [.int (y0)] h := by
  have hn : 298 ≤ 298 := Nat.le_refl _
  exact ⟨⟨rfl, q.1⟩, ⟨⟨rfl, q.2.1⟩, ⟨Nat.le_of_ble_eq_true rfl, Nat.le_of_ble_eq_true rfl, q.2.2⟩⟩⟩
set_option maxRecDepth 100000 in
theorem go_L_533 {C : tf_C} {n : Nat} {xs : Nat → Int32} {Q : tf_Q} {X : tf_X} {h : LH} {x4 : Int32} {x5 : Value} {x6 : Value} {y0 : Int32} {y1 : Int32} (q : (y0 = y1 → X 1290 [.ref (500), .ref (240), .ref (270), .ref (297), .int (x4), x5, x6] [] h) ∧ (¬ y0 = y1 → Q (.int (0)) h)) : lxL C n xs Q X 533 [.ref (500), .ref (240), .ref (270), .ref (297), .int (x4), x5, x6] [.int (y1), .int (y0)] h := by
  have hn : 298 ≤ 298 := Nat.le_refl _
  exact ⟨q.1, fun c1 => ⟨(by first | rfl | trivial), (q.2 c1)⟩⟩
set_option maxRecDepth 100000 in
theorem go_L_538 {C : tf_C} {n : Nat} {xs : Nat → Int32} {Q : tf_Q} {X : tf_X} {h : LH} {x4 : Int32} {x5 : Value} {x6 : Value} (q : C 192 [.ref (240)] h (fun r g => X 542 [.ref (500), .ref (240), .ref (270), .ref (297), .int (x4), x5, x6] [] g)) : lxL C n xs Q X 538 [.ref (500), .ref (240), .ref (270), .ref (297), .int (x4), x5, x6] [] h := by
  have hn : 298 ≤ 298 := Nat.le_refl _
  exact ⟨Nat.le_of_ble_eq_true rfl, Nat.le_of_ble_eq_true rfl, q⟩
set_option maxRecDepth 100000 in
theorem go_L_542 {C : tf_C} {n : Nat} {xs : Nat → Int32} {Q : tf_Q} {X : tf_X} {h : LH} {x4 : Int32} {x5 : Value} {x6 : Value} (q : C 67 [.ref (270)] h (fun r g => X 546 [.ref (500), .ref (240), .ref (270), .ref (297), .int (x4), x5, x6] [] g)) : lxL C n xs Q X 542 [.ref (500), .ref (240), .ref (270), .ref (297), .int (x4), x5, x6] [] h := by
  have hn : 298 ≤ 298 := Nat.le_refl _
  exact ⟨Nat.le_of_ble_eq_true rfl, Nat.le_of_ble_eq_true rfl, q⟩
set_option maxRecDepth 100000 in
theorem go_L_546 {C : tf_C} {n : Nat} {xs : Nat → Int32} {Q : tf_Q} {X : tf_X} {h : LH} {x4 : Int32} {x5 : Value} {x6 : Value} (q : X 1290 [.ref (500), .ref (240), .ref (270), .ref (297), .int (x4), x5, x6] [] h) : lxL C n xs Q X 546 [.ref (500), .ref (240), .ref (270), .ref (297), .int (x4), x5, x6] [] h := by
  have hn : 298 ≤ 298 := Nat.le_refl _
  exact q
set_option maxRecDepth 100000 in
theorem go_L_549 {C : tf_C} {n : Nat} {xs : Nat → Int32} {Q : tf_Q} {X : tf_X} {h : LH} {x4 : Int32} {x5 : Value} {x6 : Value} (q : C 193 [.ref (240)] h (fun r g => X 553 [.ref (500), .ref (240), .ref (270), .ref (297), .int (x4), x5, x6] (r :: []) g)) : lxL C n xs Q X 549 [.ref (500), .ref (240), .ref (270), .ref (297), .int (x4), x5, x6] [] h := by
  have hn : 298 ≤ 298 := Nat.le_refl _
  exact ⟨Nat.le_of_ble_eq_true rfl, Nat.le_of_ble_eq_true rfl, q⟩
set_option maxRecDepth 100000 in
theorem go_L_553 {C : tf_C} {n : Nat} {xs : Nat → Int32} {Q : tf_Q} {X : tf_X} {h : LH} {x4 : Int32} {x5 : Value} {x6 : Value} {y0 : Int32} (q : C 70 [.ref (270)] h (fun r g => X 557 [.ref (500), .ref (240), .ref (270), .ref (297), .int (x4), x5, x6] (r :: [.int (y0)]) g)) : lxL C n xs Q X 553 [.ref (500), .ref (240), .ref (270), .ref (297), .int (x4), x5, x6] [.int (y0)] h := by
  have hn : 298 ≤ 298 := Nat.le_refl _
  exact ⟨Nat.le_of_ble_eq_true rfl, Nat.le_of_ble_eq_true rfl, q⟩
set_option maxRecDepth 100000 in
theorem go_L_557 {C : tf_C} {n : Nat} {xs : Nat → Int32} {Q : tf_Q} {X : tf_X} {h : LH} {x4 : Int32} {x5 : Value} {x6 : Value} {y0 : Int32} {y1 : Int32} (q : (y0 = y1 → X 1290 [.ref (500), .ref (240), .ref (270), .ref (297), .int (x4), x5, x6] [] h) ∧ (¬ y0 = y1 → Q (.int (0)) h)) : lxL C n xs Q X 557 [.ref (500), .ref (240), .ref (270), .ref (297), .int (x4), x5, x6] [.int (y1), .int (y0)] h := by
  have hn : 298 ≤ 298 := Nat.le_refl _
  exact ⟨q.1, fun c1 => ⟨(by first | rfl | trivial), (q.2 c1)⟩⟩
set_option maxRecDepth 100000 in
theorem go_L_562 {C : tf_C} {n : Nat} {xs : Nat → Int32} {Q : tf_Q} {X : tf_X} {h : LH} {x4 : Int32} {x5 : Value} {x6 : Value} (q : C 194 [.ref (240)] h (fun r g => X 566 [.ref (500), .ref (240), .ref (270), .ref (297), .int (x4), x5, x6] (r :: []) g)) : lxL C n xs Q X 562 [.ref (500), .ref (240), .ref (270), .ref (297), .int (x4), x5, x6] [] h := by
  have hn : 298 ≤ 298 := Nat.le_refl _
  exact ⟨Nat.le_of_ble_eq_true rfl, Nat.le_of_ble_eq_true rfl, q⟩
set_option maxRecDepth 100000 in
theorem go_L_566 {C : tf_C} {n : Nat} {xs : Nat → Int32} {Q : tf_Q} {X : tf_X} {h : LH} {x4 : Int32} {x5 : Value} {x6 : Value} {y0 : Int32} (q : C 71 [.ref (270)] h (fun r g => X 570 [.ref (500), .ref (240), .ref (270), .ref (297), .int (x4), x5, x6] (r :: [.int (y0)]) g)) : lxL C n xs Q X 566 [.ref (500), .ref (240), .ref (270), .ref (297), .int (x4), x5, x6] [.int (y0)] h := by
  have hn : 298 ≤ 298 := Nat.le_refl _
  exact ⟨Nat.le_of_ble_eq_true rfl, Nat.le_of_ble_eq_true rfl, q⟩
set_option maxRecDepth 100000 in
theorem go_L_570 {C : tf_C} {n : Nat} {xs : Nat → Int32} {Q : tf_Q} {X : tf_X} {h : LH} {x4 : Int32} {x5 : Value} {x6 : Value} {y0 : Int32} {y1 : Int32} (q : (y0 = y1 → X 1290 [.ref (500), .ref (240), .ref (270), .ref (297), .int (x4), x5, x6] [] h) ∧ (¬ y0 = y1 → Q (.int (0)) h)) : lxL C n xs Q X 570 [.ref (500), .ref (240), .ref (270), .ref (297), .int (x4), x5, x6] [.int (y1), .int (y0)] h := by
  have hn : 298 ≤ 298 := Nat.le_refl _
  exact ⟨q.1, fun c1 => ⟨(by first | rfl | trivial), (q.2 c1)⟩⟩
set_option maxRecDepth 100000 in
theorem go_L_575 {C : tf_C} {n : Nat} {xs : Nat → Int32} {Q : tf_Q} {X : tf_X} {h : LH} {x4 : Int32} {x5 : Value} {x6 : Value} (q : (vp_in (x4 + 1) n) ∧ C 195 [.ref (240), .int (xs (x4 + 1 : Int32).toNatClampNeg)] h (fun r g => X 585 [.ref (500), .ref (240), .ref (270), .ref (297), .int (x4), x5, x6] (r :: []) g)) : lxL C n xs Q X 575 [.ref (500), .ref (240), .ref (270), .ref (297), .int (x4), x5, x6] [] h := by
  have hn : 298 ≤ 298 := Nat.le_refl _
  exact ⟨⟨rfl, q.1⟩, ⟨Nat.le_of_ble_eq_true rfl, Nat.le_of_ble_eq_true rfl, q.2⟩⟩
set_option maxRecDepth 100000 in
theorem go_L_585 {C : tf_C} {n : Nat} {xs : Nat → Int32} {Q : tf_Q} {X : tf_X} {h : LH} {x4 : Int32} {x5 : Value} {x6 : Value} {y0 : Int32} (q : (vp_in (x4 + 1) n) ∧ C 73 [.ref (270), .int (xs (x4 + 1 : Int32).toNatClampNeg)] h (fun r g => X 595 [.ref (500), .ref (240), .ref (270), .ref (297), .int (x4), x5, x6] (r :: [.int (y0)]) g)) : lxL C n xs Q X 585 [.ref (500), .ref (240), .ref (270), .ref (297), .int (x4), x5, x6] [.int (y0)] h := by
  have hn : 298 ≤ 298 := Nat.le_refl _
  exact ⟨⟨rfl, q.1⟩, ⟨Nat.le_of_ble_eq_true rfl, Nat.le_of_ble_eq_true rfl, q.2⟩⟩
set_option maxRecDepth 100000 in
theorem go_L_595 {C : tf_C} {n : Nat} {xs : Nat → Int32} {Q : tf_Q} {X : tf_X} {h : LH} {x4 : Int32} {x5 : Value} {x6 : Value} {y0 : Int32} {y1 : Int32} (q : (y0 = y1 → X 1290 [.ref (500), .ref (240), .ref (270), .ref (297), .int (x4), x5, x6] [] h) ∧ (¬ y0 = y1 → Q (.int (0)) h)) : lxL C n xs Q X 595 [.ref (500), .ref (240), .ref (270), .ref (297), .int (x4), x5, x6] [.int (y1), .int (y0)] h := by
  have hn : 298 ≤ 298 := Nat.le_refl _
  exact ⟨q.1, fun c1 => ⟨(by first | rfl | trivial), (q.2 c1)⟩⟩
set_option maxRecDepth 100000 in
theorem go_L_600 {C : tf_C} {n : Nat} {xs : Nat → Int32} {Q : tf_Q} {X : tf_X} {h : LH} {x4 : Int32} {x5 : Value} {x6 : Value} (q : (vp_in (x4 + 1) n) ∧ (vp_in (x4 + 2) n) ∧ X 614 [.ref (500), .ref (240), .ref (270), .ref (297), .int (x4), x5, x6] [.ref (297), .int (xs (x4 + 2 : Int32).toNatClampNeg), .int (xs (x4 + 1 : Int32).toNatClampNeg), .ref (240)] h) : lxL C n xs Q X 600 [.ref (500), .ref (240), .ref (270), .ref (297), .int (x4), x5, x6] [] h := by
  have hn : 298 ≤ 298 := Nat.le_refl _
  exact ⟨⟨rfl, q.1⟩, ⟨⟨rfl, q.2.1⟩, q.2.2⟩⟩
set_option maxRecDepth 100000 in
theorem go_L_617 {C : tf_C} {n : Nat} {xs : Nat → Int32} {Q : tf_Q} {X : tf_X} {h : LH} {x4 : Int32} {x5 : Value} {x6 : Value} {y0 : Int32} (q : (vp_in (x4 + 1) n) ∧ (vp_in (x4 + 2) n) ∧ C 74 [.ref (270), .int (xs (x4 + 1 : Int32).toNatClampNeg), .int (xs (x4 + 2 : Int32).toNatClampNeg)] h (fun r g => X 635 [.ref (500), .ref (240), .ref (270), .ref (297), .int (x4), .int (y0), x6] (r :: []) g)) : lxL C n xs Q X 617 [.ref (500), .ref (240), .ref (270), .ref (297), .int (x4), x5, x6] [.int (y0)] h := by
  have hn : 298 ≤ 298 := Nat.le_refl _
  exact ⟨⟨rfl, q.1⟩, ⟨⟨rfl, q.2.1⟩, ⟨Nat.le_of_ble_eq_true rfl, Nat.le_of_ble_eq_true rfl, q.2.2⟩⟩⟩
set_option maxRecDepth 100000 in
theorem go_L_635 {C : tf_C} {n : Nat} {xs : Nat → Int32} {Q : tf_Q} {X : tf_X} {h : LH} {x4 : Int32} {x5 : Int32} {x6 : Value} {y0 : Int32} (q : C 0 [.ref (270)] h (fun r g => X 641 [.ref (500), .ref (240), .ref (270), .ref (297), .int (x4), .int (x5), .int (y0)] (r :: []) g)) : lxL C n xs Q X 635 [.ref (500), .ref (240), .ref (270), .ref (297), .int (x4), .int (x5), x6] [.int (y0)] h := by
  have hn : 298 ≤ 298 := Nat.le_refl _
  exact ⟨Nat.le_of_ble_eq_true rfl, Nat.le_of_ble_eq_true rfl, q⟩
set_option maxRecDepth 100000 in
theorem go_L_641 {C : tf_C} {n : Nat} {xs : Nat → Int32} {Q : tf_Q} {X : tf_X} {h : LH} {x4 : Int32} {x5 : Int32} {x6 : Int32} {y0 : Int32} (q : (y0 = x5 → X 648 [.ref (500), .ref (240), .ref (270), .ref (297), .int (x4), .int (x5), .int (x6)] [] h) ∧ (¬ y0 = x5 → Q (.int (0)) h)) : lxL C n xs Q X 641 [.ref (500), .ref (240), .ref (270), .ref (297), .int (x4), .int (x5), .int (x6)] [.int (y0)] h := by
  have hn : 298 ≤ 298 := Nat.le_refl _
  exact ⟨q.1, fun c1 => ⟨(by first | rfl | trivial), (q.2 c1)⟩⟩
set_option maxRecDepth 100000 in
theorem go_L_648 {C : tf_C} {n : Nat} {xs : Nat → Int32} {Q : tf_Q} {X : tf_X} {h : LH} {x4 : Int32} {x5 : Int32} {x6 : Int32} (q : (x5 = (0 : Int32) → ((lg_cmp (h.2 297 (0 : Int32).toNatClampNeg) ((x6 : Int32).toInt64)) = (0 : Int32) → X 665 [.ref (500), .ref (240), .ref (270), .ref (297), .int (x4), .int (x5), .int (x6)] [] h) ∧ (¬ (lg_cmp (h.2 297 (0 : Int32).toNatClampNeg) ((x6 : Int32).toInt64)) = (0 : Int32) → Q (.int (0)) h)) ∧ (¬ x5 = (0 : Int32) → X 665 [.ref (500), .ref (240), .ref (270), .ref (297), .int (x4), .int (x5), .int (x6)] [] h)) : lxL C n xs Q X 648 [.ref (500), .ref (240), .ref (270), .ref (297), .int (x4), .int (x5), .int (x6)] [] h := by
  have hn : 298 ≤ 298 := Nat.le_refl _
  exact ⟨fun c2 => ⟨⟨(by first | rfl | trivial), (show 297 < 298 by decide), (vp_in_iff.mpr (by decide))⟩, ⟨(q.1 c2).1, fun c1 => ⟨(by first | rfl | trivial), ((q.1 c2).2 c1)⟩⟩⟩, q.2⟩
set_option maxRecDepth 100000 in
theorem go_L_665 {C : tf_C} {n : Nat} {xs : Nat → Int32} {Q : tf_Q} {X : tf_X} {h : LH} {x4 : Int32} {x5 : Int32} {x6 : Int32} (q : X 1290 [.ref (500), .ref (240), .ref (270), .ref (297), .int (x4), .int (x5), .int (x6)] [] h) : lxL C n xs Q X 665 [.ref (500), .ref (240), .ref (270), .ref (297), .int (x4), .int (x5), .int (x6)] [] h := by
  have hn : 298 ≤ 298 := Nat.le_refl _
  exact q
set_option maxRecDepth 100000 in
theorem go_L_668 {C : tf_C} {n : Nat} {xs : Nat → Int32} {Q : tf_Q} {X : tf_X} {h : LH} {x4 : Int32} {x5 : Value} {x6 : Value} (q : (vp_in (x4 + 1) n) ∧ (vp_in (x4 + 2) n) ∧ X 682 [.ref (500), .ref (240), .ref (270), .ref (297), .int (x4), x5, x6] [.ref (297), .int (xs (x4 + 2 : Int32).toNatClampNeg), .int (xs (x4 + 1 : Int32).toNatClampNeg), .ref (240)] h) : lxL C n xs Q X 668 [.ref (500), .ref (240), .ref (270), .ref (297), .int (x4), x5, x6] [] h := by
  have hn : 298 ≤ 298 := Nat.le_refl _
  exact ⟨⟨rfl, q.1⟩, ⟨⟨rfl, q.2.1⟩, q.2.2⟩⟩
set_option maxRecDepth 100000 in
theorem go_L_685 {C : tf_C} {n : Nat} {xs : Nat → Int32} {Q : tf_Q} {X : tf_X} {h : LH} {x4 : Int32} {x5 : Value} {x6 : Value} {y0 : Int32} (q : (vp_in (x4 + 1) n) ∧ (vp_in (x4 + 2) n) ∧ C 76 [.ref (270), .int (xs (x4 + 1 : Int32).toNatClampNeg), .int (xs (x4 + 2 : Int32).toNatClampNeg)] h (fun r g => X 703 [.ref (500), .ref (240), .ref (270), .ref (297), .int (x4), .int (y0), x6] (r :: []) g)) : lxL C n xs Q X 685 [.ref (500), .ref (240), .ref (270), .ref (297), .int (x4), x5, x6] [.int (y0)] h := by
  have hn : 298 ≤ 298 := Nat.le_refl _
  exact ⟨⟨rfl, q.1⟩, ⟨⟨rfl, q.2.1⟩, ⟨Nat.le_of_ble_eq_true rfl, Nat.le_of_ble_eq_true rfl, q.2.2⟩⟩⟩
set_option maxRecDepth 100000 in
theorem go_L_703 {C : tf_C} {n : Nat} {xs : Nat → Int32} {Q : tf_Q} {X : tf_X} {h : LH} {x4 : Int32} {x5 : Int32} {x6 : Value} {y0 : Int32} (q : C 0 [.ref (270)] h (fun r g => X 709 [.ref (500), .ref (240), .ref (270), .ref (297), .int (x4), .int (x5), .int (y0)] (r :: []) g)) : lxL C n xs Q X 703 [.ref (500), .ref (240), .ref (270), .ref (297), .int (x4), .int (x5), x6] [.int (y0)] h := by
  have hn : 298 ≤ 298 := Nat.le_refl _
  exact ⟨Nat.le_of_ble_eq_true rfl, Nat.le_of_ble_eq_true rfl, q⟩
set_option maxRecDepth 100000 in
theorem go_L_709 {C : tf_C} {n : Nat} {xs : Nat → Int32} {Q : tf_Q} {X : tf_X} {h : LH} {x4 : Int32} {x5 : Int32} {x6 : Int32} {y0 : Int32} (q : (y0 = x5 → X 716 [.ref (500), .ref (240), .ref (270), .ref (297), .int (x4), .int (x5), .int (x6)] [] h) ∧ (¬ y0 = x5 → Q (.int (0)) h)) : lxL C n xs Q X 709 [.ref (500), .ref (240), .ref (270), .ref (297), .int (x4), .int (x5), .int (x6)] [.int (y0)] h := by
  have hn : 298 ≤ 298 := Nat.le_refl _
  exact ⟨q.1, fun c1 => ⟨(by first | rfl | trivial), (q.2 c1)⟩⟩
set_option maxRecDepth 100000 in
theorem go_L_716 {C : tf_C} {n : Nat} {xs : Nat → Int32} {Q : tf_Q} {X : tf_X} {h : LH} {x4 : Int32} {x5 : Int32} {x6 : Int32} (q : (x5 = (0 : Int32) → ((lg_cmp (h.2 297 (0 : Int32).toNatClampNeg) ((x6 : Int32).toInt64)) = (0 : Int32) → X 733 [.ref (500), .ref (240), .ref (270), .ref (297), .int (x4), .int (x5), .int (x6)] [] h) ∧ (¬ (lg_cmp (h.2 297 (0 : Int32).toNatClampNeg) ((x6 : Int32).toInt64)) = (0 : Int32) → Q (.int (0)) h)) ∧ (¬ x5 = (0 : Int32) → X 733 [.ref (500), .ref (240), .ref (270), .ref (297), .int (x4), .int (x5), .int (x6)] [] h)) : lxL C n xs Q X 716 [.ref (500), .ref (240), .ref (270), .ref (297), .int (x4), .int (x5), .int (x6)] [] h := by
  have hn : 298 ≤ 298 := Nat.le_refl _
  exact ⟨fun c2 => ⟨⟨(by first | rfl | trivial), (show 297 < 298 by decide), (vp_in_iff.mpr (by decide))⟩, ⟨(q.1 c2).1, fun c1 => ⟨(by first | rfl | trivial), ((q.1 c2).2 c1)⟩⟩⟩, q.2⟩
set_option maxRecDepth 100000 in
theorem go_L_733 {C : tf_C} {n : Nat} {xs : Nat → Int32} {Q : tf_Q} {X : tf_X} {h : LH} {x4 : Int32} {x5 : Int32} {x6 : Int32} (q : X 1290 [.ref (500), .ref (240), .ref (270), .ref (297), .int (x4), .int (x5), .int (x6)] [] h) : lxL C n xs Q X 733 [.ref (500), .ref (240), .ref (270), .ref (297), .int (x4), .int (x5), .int (x6)] [] h := by
  have hn : 298 ≤ 298 := Nat.le_refl _
  exact q
set_option maxRecDepth 100000 in
theorem go_L_736 {C : tf_C} {n : Nat} {xs : Nat → Int32} {Q : tf_Q} {X : tf_X} {h : LH} {x4 : Int32} {x5 : Value} {x6 : Value} (q : (vp_in (x4 + 1) n) ∧ C 196 [.ref (240), .int (xs (x4 + 1 : Int32).toNatClampNeg)] h (fun r g => X 746 [.ref (500), .ref (240), .ref (270), .ref (297), .int (x4), x5, x6] (r :: []) g)) : lxL C n xs Q X 736 [.ref (500), .ref (240), .ref (270), .ref (297), .int (x4), x5, x6] [] h := by
  have hn : 298 ≤ 298 := Nat.le_refl _
  exact ⟨⟨rfl, q.1⟩, ⟨Nat.le_of_ble_eq_true rfl, Nat.le_of_ble_eq_true rfl, q.2⟩⟩
set_option maxRecDepth 100000 in
theorem go_L_746 {C : tf_C} {n : Nat} {xs : Nat → Int32} {Q : tf_Q} {X : tf_X} {h : LH} {x4 : Int32} {x5 : Value} {x6 : Value} {y0 : Int32} (q : (vp_in (x4 + 1) n) ∧ C 78 [.ref (270), .int (xs (x4 + 1 : Int32).toNatClampNeg)] h (fun r g => X 756 [.ref (500), .ref (240), .ref (270), .ref (297), .int (x4), x5, x6] (r :: [.int (y0)]) g)) : lxL C n xs Q X 746 [.ref (500), .ref (240), .ref (270), .ref (297), .int (x4), x5, x6] [.int (y0)] h := by
  have hn : 298 ≤ 298 := Nat.le_refl _
  exact ⟨⟨rfl, q.1⟩, ⟨Nat.le_of_ble_eq_true rfl, Nat.le_of_ble_eq_true rfl, q.2⟩⟩
set_option maxRecDepth 100000 in
theorem go_L_756 {C : tf_C} {n : Nat} {xs : Nat → Int32} {Q : tf_Q} {X : tf_X} {h : LH} {x4 : Int32} {x5 : Value} {x6 : Value} {y0 : Int32} {y1 : Int32} (q : (y0 = y1 → X 1290 [.ref (500), .ref (240), .ref (270), .ref (297), .int (x4), x5, x6] [] h) ∧ (¬ y0 = y1 → Q (.int (0)) h)) : lxL C n xs Q X 756 [.ref (500), .ref (240), .ref (270), .ref (297), .int (x4), x5, x6] [.int (y1), .int (y0)] h := by
  have hn : 298 ≤ 298 := Nat.le_refl _
  exact ⟨q.1, fun c1 => ⟨(by first | rfl | trivial), (q.2 c1)⟩⟩
set_option maxRecDepth 100000 in
theorem go_L_761 {C : tf_C} {n : Nat} {xs : Nat → Int32} {Q : tf_Q} {X : tf_X} {h : LH} {x4 : Int32} {x5 : Value} {x6 : Value} (q : (vp_in (x4 + 1) n) ∧ (vp_in (x4 + 2) n) ∧ (vp_in (x4 + 3) n) ∧ C 197 [.ref (240), .int (xs (x4 + 1 : Int32).toNatClampNeg), .int (xs (x4 + 2 : Int32).toNatClampNeg), .int (xs (x4 + 3 : Int32).toNatClampNeg)] h (fun r g => X 783 [.ref (500), .ref (240), .ref (270), .ref (297), .int (x4), x5, x6] (r :: []) g)) : lxL C n xs Q X 761 [.ref (500), .ref (240), .ref (270), .ref (297), .int (x4), x5, x6] [] h := by
  have hn : 298 ≤ 298 := Nat.le_refl _
  exact ⟨⟨rfl, q.1⟩, ⟨⟨rfl, q.2.1⟩, ⟨⟨rfl, q.2.2.1⟩, ⟨Nat.le_of_ble_eq_true rfl, Nat.le_of_ble_eq_true rfl, q.2.2.2⟩⟩⟩⟩
set_option maxRecDepth 100000 in
theorem go_L_783 {C : tf_C} {n : Nat} {xs : Nat → Int32} {Q : tf_Q} {X : tf_X} {h : LH} {x4 : Int32} {x5 : Value} {x6 : Value} {y0 : Int32} (q : (vp_in (x4 + 1) n) ∧ (vp_in (x4 + 2) n) ∧ (vp_in (x4 + 3) n) ∧ C 80 [.ref (270), .int (xs (x4 + 1 : Int32).toNatClampNeg), .int (xs (x4 + 2 : Int32).toNatClampNeg), .int (xs (x4 + 3 : Int32).toNatClampNeg)] h (fun r g => X 805 [.ref (500), .ref (240), .ref (270), .ref (297), .int (x4), x5, x6] (r :: [.int (y0)]) g)) : lxL C n xs Q X 783 [.ref (500), .ref (240), .ref (270), .ref (297), .int (x4), x5, x6] [.int (y0)] h := by
  have hn : 298 ≤ 298 := Nat.le_refl _
  exact ⟨⟨rfl, q.1⟩, ⟨⟨rfl, q.2.1⟩, ⟨⟨rfl, q.2.2.1⟩, ⟨Nat.le_of_ble_eq_true rfl, Nat.le_of_ble_eq_true rfl, q.2.2.2⟩⟩⟩⟩
set_option maxRecDepth 100000 in
theorem go_L_805 {C : tf_C} {n : Nat} {xs : Nat → Int32} {Q : tf_Q} {X : tf_X} {h : LH} {x4 : Int32} {x5 : Value} {x6 : Value} {y0 : Int32} {y1 : Int32} (q : (y0 = y1 → X 1290 [.ref (500), .ref (240), .ref (270), .ref (297), .int (x4), x5, x6] [] h) ∧ (¬ y0 = y1 → Q (.int (0)) h)) : lxL C n xs Q X 805 [.ref (500), .ref (240), .ref (270), .ref (297), .int (x4), x5, x6] [.int (y1), .int (y0)] h := by
  have hn : 298 ≤ 298 := Nat.le_refl _
  exact ⟨q.1, fun c1 => ⟨(by first | rfl | trivial), (q.2 c1)⟩⟩
set_option maxRecDepth 100000 in
theorem go_L_810 {C : tf_C} {n : Nat} {xs : Nat → Int32} {Q : tf_Q} {X : tf_X} {h : LH} {x4 : Int32} {x5 : Value} {x6 : Value} (q : (vp_in (x4 + 1) n) ∧ C 198 [.ref (240), .int (xs (x4 + 1 : Int32).toNatClampNeg)] h (fun r g => X 820 [.ref (500), .ref (240), .ref (270), .ref (297), .int (x4), x5, x6] (r :: []) g)) : lxL C n xs Q X 810 [.ref (500), .ref (240), .ref (270), .ref (297), .int (x4), x5, x6] [] h := by
  have hn : 298 ≤ 298 := Nat.le_refl _
  exact ⟨⟨rfl, q.1⟩, ⟨Nat.le_of_ble_eq_true rfl, Nat.le_of_ble_eq_true rfl, q.2⟩⟩
set_option maxRecDepth 100000 in
theorem go_L_820 {C : tf_C} {n : Nat} {xs : Nat → Int32} {Q : tf_Q} {X : tf_X} {h : LH} {x4 : Int32} {x5 : Value} {x6 : Value} {y0 : Int32} (q : (vp_in (x4 + 1) n) ∧ C 81 [.ref (270), .int (xs (x4 + 1 : Int32).toNatClampNeg)] h (fun r g => X 830 [.ref (500), .ref (240), .ref (270), .ref (297), .int (x4), x5, x6] (r :: [.int (y0)]) g)) : lxL C n xs Q X 820 [.ref (500), .ref (240), .ref (270), .ref (297), .int (x4), x5, x6] [.int (y0)] h := by
  have hn : 298 ≤ 298 := Nat.le_refl _
  exact ⟨⟨rfl, q.1⟩, ⟨Nat.le_of_ble_eq_true rfl, Nat.le_of_ble_eq_true rfl, q.2⟩⟩
set_option maxRecDepth 100000 in
theorem go_L_830 {C : tf_C} {n : Nat} {xs : Nat → Int32} {Q : tf_Q} {X : tf_X} {h : LH} {x4 : Int32} {x5 : Value} {x6 : Value} {y0 : Int32} {y1 : Int32} (q : (y0 = y1 → X 1290 [.ref (500), .ref (240), .ref (270), .ref (297), .int (x4), x5, x6] [] h) ∧ (¬ y0 = y1 → Q (.int (0)) h)) : lxL C n xs Q X 830 [.ref (500), .ref (240), .ref (270), .ref (297), .int (x4), x5, x6] [.int (y1), .int (y0)] h := by
  have hn : 298 ≤ 298 := Nat.le_refl _
  exact ⟨q.1, fun c1 => ⟨(by first | rfl | trivial), (q.2 c1)⟩⟩
set_option maxRecDepth 100000 in
theorem go_L_835 {C : tf_C} {n : Nat} {xs : Nat → Int32} {Q : tf_Q} {X : tf_X} {h : LH} {x4 : Int32} {x5 : Value} {x6 : Value} (q : (vp_in (x4 + 1) n) ∧ (vp_in (x4 + 2) n) ∧ C 199 [.ref (240), .int (xs (x4 + 1 : Int32).toNatClampNeg), .int (xs (x4 + 2 : Int32).toNatClampNeg)] h (fun r g => X 851 [.ref (500), .ref (240), .ref (270), .ref (297), .int (x4), x5, x6] (r :: []) g)) : lxL C n xs Q X 835 [.ref (500), .ref (240), .ref (270), .ref (297), .int (x4), x5, x6] [] h := by
  have hn : 298 ≤ 298 := Nat.le_refl _
  exact ⟨⟨rfl, q.1⟩, ⟨⟨rfl, q.2.1⟩, ⟨Nat.le_of_ble_eq_true rfl, Nat.le_of_ble_eq_true rfl, q.2.2⟩⟩⟩
set_option maxRecDepth 100000 in
theorem go_L_851 {C : tf_C} {n : Nat} {xs : Nat → Int32} {Q : tf_Q} {X : tf_X} {h : LH} {x4 : Int32} {x5 : Value} {x6 : Value} {y0 : Int32} (q : (vp_in (x4 + 1) n) ∧ (vp_in (x4 + 2) n) ∧ C 82 [.ref (270), .int (xs (x4 + 1 : Int32).toNatClampNeg), .int (xs (x4 + 2 : Int32).toNatClampNeg)] h (fun r g => X 867 [.ref (500), .ref (240), .ref (270), .ref (297), .int (x4), x5, x6] (r :: [.int (y0)]) g)) : lxL C n xs Q X 851 [.ref (500), .ref (240), .ref (270), .ref (297), .int (x4), x5, x6] [.int (y0)] h := by
  have hn : 298 ≤ 298 := Nat.le_refl _
  exact ⟨⟨rfl, q.1⟩, ⟨⟨rfl, q.2.1⟩, ⟨Nat.le_of_ble_eq_true rfl, Nat.le_of_ble_eq_true rfl, q.2.2⟩⟩⟩
set_option maxRecDepth 100000 in
theorem go_L_867 {C : tf_C} {n : Nat} {xs : Nat → Int32} {Q : tf_Q} {X : tf_X} {h : LH} {x4 : Int32} {x5 : Value} {x6 : Value} {y0 : Int32} {y1 : Int32} (q : (y0 = y1 → X 1290 [.ref (500), .ref (240), .ref (270), .ref (297), .int (x4), x5, x6] [] h) ∧ (¬ y0 = y1 → Q (.int (0)) h)) : lxL C n xs Q X 867 [.ref (500), .ref (240), .ref (270), .ref (297), .int (x4), x5, x6] [.int (y1), .int (y0)] h := by
  have hn : 298 ≤ 298 := Nat.le_refl _
  exact ⟨q.1, fun c1 => ⟨(by first | rfl | trivial), (q.2 c1)⟩⟩
set_option maxRecDepth 100000 in
theorem go_L_872 {C : tf_C} {n : Nat} {xs : Nat → Int32} {Q : tf_Q} {X : tf_X} {h : LH} {x4 : Int32} {x5 : Value} {x6 : Value} (q : (vp_in (x4 + 1) n) ∧ C 200 [.ref (240), .int (xs (x4 + 1 : Int32).toNatClampNeg)] h (fun r g => X 882 [.ref (500), .ref (240), .ref (270), .ref (297), .int (x4), x5, x6] (r :: []) g)) : lxL C n xs Q X 872 [.ref (500), .ref (240), .ref (270), .ref (297), .int (x4), x5, x6] [] h := by
  have hn : 298 ≤ 298 := Nat.le_refl _
  exact ⟨⟨rfl, q.1⟩, ⟨Nat.le_of_ble_eq_true rfl, Nat.le_of_ble_eq_true rfl, q.2⟩⟩
set_option maxRecDepth 100000 in
theorem go_L_882 {C : tf_C} {n : Nat} {xs : Nat → Int32} {Q : tf_Q} {X : tf_X} {h : LH} {x4 : Int32} {x5 : Value} {x6 : Value} {y0 : Int32} (q : (vp_in (x4 + 1) n) ∧ C 84 [.ref (270), .int (xs (x4 + 1 : Int32).toNatClampNeg)] h (fun r g => X 892 [.ref (500), .ref (240), .ref (270), .ref (297), .int (x4), x5, x6] (r :: [.int (y0)]) g)) : lxL C n xs Q X 882 [.ref (500), .ref (240), .ref (270), .ref (297), .int (x4), x5, x6] [.int (y0)] h := by
  have hn : 298 ≤ 298 := Nat.le_refl _
  exact ⟨⟨rfl, q.1⟩, ⟨Nat.le_of_ble_eq_true rfl, Nat.le_of_ble_eq_true rfl, q.2⟩⟩
set_option maxRecDepth 100000 in
theorem go_L_892 {C : tf_C} {n : Nat} {xs : Nat → Int32} {Q : tf_Q} {X : tf_X} {h : LH} {x4 : Int32} {x5 : Value} {x6 : Value} {y0 : Int32} {y1 : Int32} (q : (y0 = y1 → X 1290 [.ref (500), .ref (240), .ref (270), .ref (297), .int (x4), x5, x6] [] h) ∧ (¬ y0 = y1 → Q (.int (0)) h)) : lxL C n xs Q X 892 [.ref (500), .ref (240), .ref (270), .ref (297), .int (x4), x5, x6] [.int (y1), .int (y0)] h := by
  have hn : 298 ≤ 298 := Nat.le_refl _
  exact ⟨q.1, fun c1 => ⟨(by first | rfl | trivial), (q.2 c1)⟩⟩
set_option maxRecDepth 100000 in
theorem go_L_897 {C : tf_C} {n : Nat} {xs : Nat → Int32} {Q : tf_Q} {X : tf_X} {h : LH} {x4 : Int32} {x5 : Value} {x6 : Value} (q : (vp_in (x4 + 1) n) ∧ (vp_in (x4 + 2) n) ∧ ((xs (x4 + 2 : Int32).toNatClampNeg) = (0 : Int32) → X 917 [.ref (500), .ref (240), .ref (270), .ref (297), .int (x4), x5, x6] [.int (xs (x4 + 1 : Int32).toNatClampNeg), .ref (240)] h) ∧ (¬ (xs (x4 + 2 : Int32).toNatClampNeg) = (0 : Int32) → X 918 [.ref (500), .ref (240), .ref (270), .ref (297), .int (x4), x5, x6] [.int (1), .int (xs (x4 + 1 : Int32).toNatClampNeg), .ref (240)] h)) : lxL C n xs Q X 897 [.ref (500), .ref (240), .ref (270), .ref (297), .int (x4), x5, x6] [] h := by
  have hn : 298 ≤ 298 := Nat.le_refl _
  exact ⟨⟨rfl, q.1⟩, ⟨⟨rfl, q.2.1⟩, ⟨q.2.2.1, fun c1 => (q.2.2.2 c1)⟩⟩⟩
set_option maxRecDepth 100000 in
theorem go_L_917 {C : tf_C} {n : Nat} {xs : Nat → Int32} {Q : tf_Q} {X : tf_X} {h : LH} {x4 : Int32} {x5 : Value} {x6 : Value} {y1 : Int32} (q : X 918 [.ref (500), .ref (240), .ref (270), .ref (297), .int (x4), x5, x6] [.int (0), .int (y1), .ref (240)] h) : lxL C n xs Q X 917 [.ref (500), .ref (240), .ref (270), .ref (297), .int (x4), x5, x6] [.int (y1), .ref (240)] h := by
  have hn : 298 ≤ 298 := Nat.le_refl _
  exact q
set_option maxRecDepth 100000 in
theorem go_L_918 {C : tf_C} {n : Nat} {xs : Nat → Int32} {Q : tf_Q} {X : tf_X} {h : LH} {x4 : Int32} {x5 : Value} {x6 : Value} {y1 : Int32} {y2 : Int32} (q : C 201 [.ref (240), .int (y1), .int (y2)] h (fun r g => X 921 [.ref (500), .ref (240), .ref (270), .ref (297), .int (x4), x5, x6] (r :: []) g)) : lxL C n xs Q X 918 [.ref (500), .ref (240), .ref (270), .ref (297), .int (x4), x5, x6] [.int (y2), .int (y1), .ref (240)] h := by
  have hn : 298 ≤ 298 := Nat.le_refl _
  exact ⟨Nat.le_of_ble_eq_true rfl, Nat.le_of_ble_eq_true rfl, q⟩
set_option maxRecDepth 100000 in
theorem go_L_921 {C : tf_C} {n : Nat} {xs : Nat → Int32} {Q : tf_Q} {X : tf_X} {h : LH} {x4 : Int32} {x5 : Value} {x6 : Value} {y0 : Int32} (q : (vp_in (x4 + 1) n) ∧ (vp_in (x4 + 2) n) ∧ ((xs (x4 + 2 : Int32).toNatClampNeg) = (0 : Int32) → X 941 [.ref (500), .ref (240), .ref (270), .ref (297), .int (x4), x5, x6] [.int (xs (x4 + 1 : Int32).toNatClampNeg), .ref (270), .int (y0)] h) ∧ (¬ (xs (x4 + 2 : Int32).toNatClampNeg) = (0 : Int32) → X 942 [.ref (500), .ref (240), .ref (270), .ref (297), .int (x4), x5, x6] [.int (1), .int (xs (x4 + 1 : Int32).toNatClampNeg), .ref (270), .int (y0)] h)) : lxL C n xs Q X 921 [.ref (500), .ref (240), .ref (270), .ref (297), .int (x4), x5, x6] [.int (y0)] h := by
  have hn : 298 ≤ 298 := Nat.le_refl _
  exact ⟨⟨rfl, q.1⟩, ⟨⟨rfl, q.2.1⟩, ⟨q.2.2.1, fun c1 => (q.2.2.2 c1)⟩⟩⟩
set_option maxRecDepth 100000 in
theorem go_L_941 {C : tf_C} {n : Nat} {xs : Nat → Int32} {Q : tf_Q} {X : tf_X} {h : LH} {x4 : Int32} {x5 : Value} {x6 : Value} {y0 : Int32} {y2 : Int32} (q : X 942 [.ref (500), .ref (240), .ref (270), .ref (297), .int (x4), x5, x6] [.int (0), .int (y2), .ref (270), .int (y0)] h) : lxL C n xs Q X 941 [.ref (500), .ref (240), .ref (270), .ref (297), .int (x4), x5, x6] [.int (y2), .ref (270), .int (y0)] h := by
  have hn : 298 ≤ 298 := Nat.le_refl _
  exact q
set_option maxRecDepth 100000 in
theorem go_L_942 {C : tf_C} {n : Nat} {xs : Nat → Int32} {Q : tf_Q} {X : tf_X} {h : LH} {x4 : Int32} {x5 : Value} {x6 : Value} {y0 : Int32} {y2 : Int32} {y3 : Int32} (q : C 86 [.ref (270), .int (y2), .int (y3)] h (fun r g => X 945 [.ref (500), .ref (240), .ref (270), .ref (297), .int (x4), x5, x6] (r :: [.int (y0)]) g)) : lxL C n xs Q X 942 [.ref (500), .ref (240), .ref (270), .ref (297), .int (x4), x5, x6] [.int (y3), .int (y2), .ref (270), .int (y0)] h := by
  have hn : 298 ≤ 298 := Nat.le_refl _
  exact ⟨Nat.le_of_ble_eq_true rfl, Nat.le_of_ble_eq_true rfl, q⟩
set_option maxRecDepth 100000 in
theorem go_L_945 {C : tf_C} {n : Nat} {xs : Nat → Int32} {Q : tf_Q} {X : tf_X} {h : LH} {x4 : Int32} {x5 : Value} {x6 : Value} {y0 : Int32} {y1 : Int32} (q : (y0 = y1 → X 1290 [.ref (500), .ref (240), .ref (270), .ref (297), .int (x4), x5, x6] [] h) ∧ (¬ y0 = y1 → Q (.int (0)) h)) : lxL C n xs Q X 945 [.ref (500), .ref (240), .ref (270), .ref (297), .int (x4), x5, x6] [.int (y1), .int (y0)] h := by
  have hn : 298 ≤ 298 := Nat.le_refl _
  exact ⟨q.1, fun c1 => ⟨(by first | rfl | trivial), (q.2 c1)⟩⟩
set_option maxRecDepth 100000 in
theorem go_L_950 {C : tf_C} {n : Nat} {xs : Nat → Int32} {Q : tf_Q} {X : tf_X} {h : LH} {x4 : Int32} {x5 : Value} {x6 : Value} (q : (vp_in (x4 + 1) n) ∧ (vp_in (x4 + 2) n) ∧ C 202 [.ref (240), .int (xs (x4 + 1 : Int32).toNatClampNeg), .int (xs (x4 + 2 : Int32).toNatClampNeg)] h (fun r g => X 966 [.ref (500), .ref (240), .ref (270), .ref (297), .int (x4), x5, x6] (r :: []) g)) : lxL C n xs Q X 950 [.ref (500), .ref (240), .ref (270), .ref (297), .int (x4), x5, x6] [] h := by
  have hn : 298 ≤ 298 := Nat.le_refl _
  exact ⟨⟨rfl, q.1⟩, ⟨⟨rfl, q.2.1⟩, ⟨Nat.le_of_ble_eq_true rfl, Nat.le_of_ble_eq_true rfl, q.2.2⟩⟩⟩
set_option maxRecDepth 100000 in
theorem go_L_966 {C : tf_C} {n : Nat} {xs : Nat → Int32} {Q : tf_Q} {X : tf_X} {h : LH} {x4 : Int32} {x5 : Value} {x6 : Value} {y0 : Int32} (q : (vp_in (x4 + 1) n) ∧ (vp_in (x4 + 2) n) ∧ C 87 [.ref (270), .int (xs (x4 + 1 : Int32).toNatClampNeg), .int (xs (x4 + 2 : Int32).toNatClampNeg)] h (fun r g => X 982 [.ref (500), .ref (240), .ref (270), .ref (297), .int (x4), x5, x6] (r :: [.int (y0)]) g)) : lxL C n xs Q X 966 [.ref (500), .ref (240), .ref (270), .ref (297), .int (x4), x5, x6] [.int (y0)] h := by
  have hn : 298 ≤ 298 := Nat.le_refl _
  exact ⟨⟨rfl, q.1⟩, ⟨⟨rfl, q.2.1⟩, ⟨Nat.le_of_ble_eq_true rfl, Nat.le_of_ble_eq_true rfl, q.2.2⟩⟩⟩
set_option maxRecDepth 100000 in
theorem go_L_982 {C : tf_C} {n : Nat} {xs : Nat → Int32} {Q : tf_Q} {X : tf_X} {h : LH} {x4 : Int32} {x5 : Value} {x6 : Value} {y0 : Int32} {y1 : Int32} (q : (y0 = y1 → X 1290 [.ref (500), .ref (240), .ref (270), .ref (297), .int (x4), x5, x6] [] h) ∧ (¬ y0 = y1 → Q (.int (0)) h)) : lxL C n xs Q X 982 [.ref (500), .ref (240), .ref (270), .ref (297), .int (x4), x5, x6] [.int (y1), .int (y0)] h := by
  have hn : 298 ≤ 298 := Nat.le_refl _
  exact ⟨q.1, fun c1 => ⟨(by first | rfl | trivial), (q.2 c1)⟩⟩
set_option maxRecDepth 100000 in
theorem go_L_987 {C : tf_C} {n : Nat} {xs : Nat → Int32} {Q : tf_Q} {X : tf_X} {h : LH} {x4 : Int32} {x5 : Value} {x6 : Value} (q : (vp_in (x4 + 1) n) ∧ (vp_in (x4 + 2) n) ∧ C 203 [.ref (240), .int (xs (x4 + 1 : Int32).toNatClampNeg), .int (xs (x4 + 2 : Int32).toNatClampNeg)] h (fun r g => X 1003 [.ref (500), .ref (240), .ref (270), .ref (297), .int (x4), x5, x6] (r :: []) g)) : lxL C n xs Q X 987 [.ref (500), .ref (240), .ref (270), .ref (297), .int (x4), x5, x6] [] h := by
  have hn : 298 ≤ 298 := Nat.le_refl _
  exact ⟨⟨rfl, q.1⟩, ⟨⟨rfl, q.2.1⟩, ⟨Nat.le_of_ble_eq_true rfl, Nat.le_of_ble_eq_true rfl, q.2.2⟩⟩⟩
set_option maxRecDepth 100000 in
theorem go_L_1003 {C : tf_C} {n : Nat} {xs : Nat → Int32} {Q : tf_Q} {X : tf_X} {h : LH} {x4 : Int32} {x5 : Value} {x6 : Value} {y0 : Int32} (q : (vp_in (x4 + 1) n) ∧ (vp_in (x4 + 2) n) ∧ C 92 [.ref (270), .int (xs (x4 + 1 : Int32).toNatClampNeg), .int (xs (x4 + 2 : Int32).toNatClampNeg)] h (fun r g => X 1019 [.ref (500), .ref (240), .ref (270), .ref (297), .int (x4), x5, x6] (r :: [.int (y0)]) g)) : lxL C n xs Q X 1003 [.ref (500), .ref (240), .ref (270), .ref (297), .int (x4), x5, x6] [.int (y0)] h := by
  have hn : 298 ≤ 298 := Nat.le_refl _
  exact ⟨⟨rfl, q.1⟩, ⟨⟨rfl, q.2.1⟩, ⟨Nat.le_of_ble_eq_true rfl, Nat.le_of_ble_eq_true rfl, q.2.2⟩⟩⟩
set_option maxRecDepth 100000 in
theorem go_L_1019 {C : tf_C} {n : Nat} {xs : Nat → Int32} {Q : tf_Q} {X : tf_X} {h : LH} {x4 : Int32} {x5 : Value} {x6 : Value} {y0 : Int32} {y1 : Int32} (q : (y0 = y1 → X 1290 [.ref (500), .ref (240), .ref (270), .ref (297), .int (x4), x5, x6] [] h) ∧ (¬ y0 = y1 → Q (.int (0)) h)) : lxL C n xs Q X 1019 [.ref (500), .ref (240), .ref (270), .ref (297), .int (x4), x5, x6] [.int (y1), .int (y0)] h := by
  have hn : 298 ≤ 298 := Nat.le_refl _
  exact ⟨q.1, fun c1 => ⟨(by first | rfl | trivial), (q.2 c1)⟩⟩
set_option maxRecDepth 100000 in
theorem go_L_1024 {C : tf_C} {n : Nat} {xs : Nat → Int32} {Q : tf_Q} {X : tf_X} {h : LH} {x4 : Int32} {x5 : Value} {x6 : Value} (q : (vp_in (x4 + 1) n) ∧ C 204 [.ref (240), .int (xs (x4 + 1 : Int32).toNatClampNeg)] h (fun r g => X 1034 [.ref (500), .ref (240), .ref (270), .ref (297), .int (x4), x5, x6] (r :: []) g)) : lxL C n xs Q X 1024 [.ref (500), .ref (240), .ref (270), .ref (297), .int (x4), x5, x6] [] h := by
  have hn : 298 ≤ 298 := Nat.le_refl _
  exact ⟨⟨rfl, q.1⟩, ⟨Nat.le_of_ble_eq_true rfl, Nat.le_of_ble_eq_true rfl, q.2⟩⟩
set_option maxRecDepth 100000 in
theorem go_L_1034 {C : tf_C} {n : Nat} {xs : Nat → Int32} {Q : tf_Q} {X : tf_X} {h : LH} {x4 : Int32} {x5 : Value} {x6 : Value} {y0 : Int32} (q : (vp_in (x4 + 1) n) ∧ C 94 [.ref (270), .int (xs (x4 + 1 : Int32).toNatClampNeg)] h (fun r g => X 1044 [.ref (500), .ref (240), .ref (270), .ref (297), .int (x4), x5, x6] (r :: [.int (y0)]) g)) : lxL C n xs Q X 1034 [.ref (500), .ref (240), .ref (270), .ref (297), .int (x4), x5, x6] [.int (y0)] h := by
  have hn : 298 ≤ 298 := Nat.le_refl _
  exact ⟨⟨rfl, q.1⟩, ⟨Nat.le_of_ble_eq_true rfl, Nat.le_of_ble_eq_true rfl, q.2⟩⟩
set_option maxRecDepth 100000 in
theorem go_L_1044 {C : tf_C} {n : Nat} {xs : Nat → Int32} {Q : tf_Q} {X : tf_X} {h : LH} {x4 : Int32} {x5 : Value} {x6 : Value} {y0 : Int32} {y1 : Int32} (q : (y0 = y1 → X 1290 [.ref (500), .ref (240), .ref (270), .ref (297), .int (x4), x5, x6] [] h) ∧ (¬ y0 = y1 → Q (.int (0)) h)) : lxL C n xs Q X 1044 [.ref (500), .ref (240), .ref (270), .ref (297), .int (x4), x5, x6] [.int (y1), .int (y0)] h := by
  have hn : 298 ≤ 298 := Nat.le_refl _
  exact ⟨q.1, fun c1 => ⟨(by first | rfl | trivial), (q.2 c1)⟩⟩
set_option maxRecDepth 100000 in
theorem go_L_1049 {C : tf_C} {n : Nat} {xs : Nat → Int32} {Q : tf_Q} {X : tf_X} {h : LH} {x4 : Int32} {x5 : Value} {x6 : Value} (q : (vp_in (x4 + 1) n) ∧ (vp_in (x4 + 2) n) ∧ ((xs (x4 + 2 : Int32).toNatClampNeg) = (0 : Int32) → X 1069 [.ref (500), .ref (240), .ref (270), .ref (297), .int (x4), x5, x6] [.int (xs (x4 + 1 : Int32).toNatClampNeg), .ref (240)] h) ∧ (¬ (xs (x4 + 2 : Int32).toNatClampNeg) = (0 : Int32) → X 1070 [.ref (500), .ref (240), .ref (270), .ref (297), .int (x4), x5, x6] [.int (1), .int (xs (x4 + 1 : Int32).toNatClampNeg), .ref (240)] h)) : lxL C n xs Q X 1049 [.ref (500), .ref (240), .ref (270), .ref (297), .int (x4), x5, x6] [] h := by
  have hn : 298 ≤ 298 := Nat.le_refl _
  exact ⟨⟨rfl, q.1⟩, ⟨⟨rfl, q.2.1⟩, ⟨q.2.2.1, fun c1 => (q.2.2.2 c1)⟩⟩⟩
set_option maxRecDepth 100000 in
theorem go_L_1069 {C : tf_C} {n : Nat} {xs : Nat → Int32} {Q : tf_Q} {X : tf_X} {h : LH} {x4 : Int32} {x5 : Value} {x6 : Value} {y1 : Int32} (q : X 1070 [.ref (500), .ref (240), .ref (270), .ref (297), .int (x4), x5, x6] [.int (0), .int (y1), .ref (240)] h) : lxL C n xs Q X 1069 [.ref (500), .ref (240), .ref (270), .ref (297), .int (x4), x5, x6] [.int (y1), .ref (240)] h := by
  have hn : 298 ≤ 298 := Nat.le_refl _
  exact q
set_option maxRecDepth 100000 in
theorem go_L_1070 {C : tf_C} {n : Nat} {xs : Nat → Int32} {Q : tf_Q} {X : tf_X} {h : LH} {x4 : Int32} {x5 : Value} {x6 : Value} {y1 : Int32} {y2 : Int32} (q : C 205 [.ref (240), .int (y1), .int (y2)] h (fun r g => X 1073 [.ref (500), .ref (240), .ref (270), .ref (297), .int (x4), x5, x6] (r :: []) g)) : lxL C n xs Q X 1070 [.ref (500), .ref (240), .ref (270), .ref (297), .int (x4), x5, x6] [.int (y2), .int (y1), .ref (240)] h := by
  have hn : 298 ≤ 298 := Nat.le_refl _
  exact ⟨Nat.le_of_ble_eq_true rfl, Nat.le_of_ble_eq_true rfl, q⟩
set_option maxRecDepth 100000 in
theorem go_L_1073 {C : tf_C} {n : Nat} {xs : Nat → Int32} {Q : tf_Q} {X : tf_X} {h : LH} {x4 : Int32} {x5 : Value} {x6 : Value} {y0 : Int32} (q : (vp_in (x4 + 1) n) ∧ (vp_in (x4 + 2) n) ∧ ((xs (x4 + 2 : Int32).toNatClampNeg) = (0 : Int32) → X 1093 [.ref (500), .ref (240), .ref (270), .ref (297), .int (x4), x5, x6] [.int (xs (x4 + 1 : Int32).toNatClampNeg), .ref (270), .int (y0)] h) ∧ (¬ (xs (x4 + 2 : Int32).toNatClampNeg) = (0 : Int32) → X 1094 [.ref (500), .ref (240), .ref (270), .ref (297), .int (x4), x5, x6] [.int (1), .int (xs (x4 + 1 : Int32).toNatClampNeg), .ref (270), .int (y0)] h)) : lxL C n xs Q X 1073 [.ref (500), .ref (240), .ref (270), .ref (297), .int (x4), x5, x6] [.int (y0)] h := by
  have hn : 298 ≤ 298 := Nat.le_refl _
  exact ⟨⟨rfl, q.1⟩, ⟨⟨rfl, q.2.1⟩, ⟨q.2.2.1, fun c1 => (q.2.2.2 c1)⟩⟩⟩
set_option maxRecDepth 100000 in
theorem go_L_1093 {C : tf_C} {n : Nat} {xs : Nat → Int32} {Q : tf_Q} {X : tf_X} {h : LH} {x4 : Int32} {x5 : Value} {x6 : Value} {y0 : Int32} {y2 : Int32} (q : X 1094 [.ref (500), .ref (240), .ref (270), .ref (297), .int (x4), x5, x6] [.int (0), .int (y2), .ref (270), .int (y0)] h) : lxL C n xs Q X 1093 [.ref (500), .ref (240), .ref (270), .ref (297), .int (x4), x5, x6] [.int (y2), .ref (270), .int (y0)] h := by
  have hn : 298 ≤ 298 := Nat.le_refl _
  exact q
set_option maxRecDepth 100000 in
theorem go_L_1094 {C : tf_C} {n : Nat} {xs : Nat → Int32} {Q : tf_Q} {X : tf_X} {h : LH} {x4 : Int32} {x5 : Value} {x6 : Value} {y0 : Int32} {y2 : Int32} {y3 : Int32} (q : C 95 [.ref (270), .int (y2), .int (y3)] h (fun r g => X 1097 [.ref (500), .ref (240), .ref (270), .ref (297), .int (x4), x5, x6] (r :: [.int (y0)]) g)) : lxL C n xs Q X 1094 [.ref (500), .ref (240), .ref (270), .ref (297), .int (x4), x5, x6] [.int (y3), .int (y2), .ref (270), .int (y0)] h := by
  have hn : 298 ≤ 298 := Nat.le_refl _
  exact ⟨Nat.le_of_ble_eq_true rfl, Nat.le_of_ble_eq_true rfl, q⟩
set_option maxRecDepth 100000 in
theorem go_L_1097 {C : tf_C} {n : Nat} {xs : Nat → Int32} {Q : tf_Q} {X : tf_X} {h : LH} {x4 : Int32} {x5 : Value} {x6 : Value} {y0 : Int32} {y1 : Int32} (q : (y0 = y1 → X 1290 [.ref (500), .ref (240), .ref (270), .ref (297), .int (x4), x5, x6] [] h) ∧ (¬ y0 = y1 → Q (.int (0)) h)) : lxL C n xs Q X 1097 [.ref (500), .ref (240), .ref (270), .ref (297), .int (x4), x5, x6] [.int (y1), .int (y0)] h := by
  have hn : 298 ≤ 298 := Nat.le_refl _
  exact ⟨q.1, fun c1 => ⟨(by first | rfl | trivial), (q.2 c1)⟩⟩
set_option maxRecDepth 100000 in
theorem go_L_1102 {C : tf_C} {n : Nat} {xs : Nat → Int32} {Q : tf_Q} {X : tf_X} {h : LH} {x4 : Int32} {x5 : Value} {x6 : Value} (q : C 206 [.ref (240)] h (fun r g => X 1106 [.ref (500), .ref (240), .ref (270), .ref (297), .int (x4), x5, x6] (r :: []) g)) : lxL C n xs Q X 1102 [.ref (500), .ref (240), .ref (270), .ref (297), .int (x4), x5, x6] [] h := by
  have hn : 298 ≤ 298 := Nat.le_refl _
  exact ⟨Nat.le_of_ble_eq_true rfl, Nat.le_of_ble_eq_true rfl, q⟩
set_option maxRecDepth 100000 in
theorem go_L_1106 {C : tf_C} {n : Nat} {xs : Nat → Int32} {Q : tf_Q} {X : tf_X} {h : LH} {x4 : Int32} {x5 : Value} {x6 : Value} {y0 : Int32} (q : C 104 [.ref (270)] h (fun r g => X 1110 [.ref (500), .ref (240), .ref (270), .ref (297), .int (x4), x5, x6] (r :: [.int (y0)]) g)) : lxL C n xs Q X 1106 [.ref (500), .ref (240), .ref (270), .ref (297), .int (x4), x5, x6] [.int (y0)] h := by
  have hn : 298 ≤ 298 := Nat.le_refl _
  exact ⟨Nat.le_of_ble_eq_true rfl, Nat.le_of_ble_eq_true rfl, q⟩
set_option maxRecDepth 100000 in
theorem go_L_1110 {C : tf_C} {n : Nat} {xs : Nat → Int32} {Q : tf_Q} {X : tf_X} {h : LH} {x4 : Int32} {x5 : Value} {x6 : Value} {y0 : Int32} {y1 : Int32} (q : (y0 = y1 → X 1290 [.ref (500), .ref (240), .ref (270), .ref (297), .int (x4), x5, x6] [] h) ∧ (¬ y0 = y1 → Q (.int (0)) h)) : lxL C n xs Q X 1110 [.ref (500), .ref (240), .ref (270), .ref (297), .int (x4), x5, x6] [.int (y1), .int (y0)] h := by
  have hn : 298 ≤ 298 := Nat.le_refl _
  exact ⟨q.1, fun c1 => ⟨(by first | rfl | trivial), (q.2 c1)⟩⟩
set_option maxRecDepth 100000 in
theorem go_L_1115 {C : tf_C} {n : Nat} {xs : Nat → Int32} {Q : tf_Q} {X : tf_X} {h : LH} {x4 : Int32} {x5 : Value} {x6 : Value} (q : C 207 [.ref (240)] h (fun r g => X 1119 [.ref (500), .ref (240), .ref (270), .ref (297), .int (x4), x5, x6] (r :: []) g)) : lxL C n xs Q X 1115 [.ref (500), .ref (240), .ref (270), .ref (297), .int (x4), x5, x6] [] h := by
  have hn : 298 ≤ 298 := Nat.le_refl _
  exact ⟨Nat.le_of_ble_eq_true rfl, Nat.le_of_ble_eq_true rfl, q⟩
set_option maxRecDepth 100000 in
theorem go_L_1119 {C : tf_C} {n : Nat} {xs : Nat → Int32} {Q : tf_Q} {X : tf_X} {h : LH} {x4 : Int32} {x5 : Value} {x6 : Value} {y0 : Int32} (q : C 111 [.ref (270)] h (fun r g => X 1123 [.ref (500), .ref (240), .ref (270), .ref (297), .int (x4), x5, x6] (r :: [.int (y0)]) g)) : lxL C n xs Q X 1119 [.ref (500), .ref (240), .ref (270), .ref (297), .int (x4), x5, x6] [.int (y0)] h := by
  have hn : 298 ≤ 298 := Nat.le_refl _
  exact ⟨Nat.le_of_ble_eq_true rfl, Nat.le_of_ble_eq_true rfl, q⟩
set_option maxRecDepth 100000 in
theorem go_L_1123 {C : tf_C} {n : Nat} {xs : Nat → Int32} {Q : tf_Q} {X : tf_X} {h : LH} {x4 : Int32} {x5 : Value} {x6 : Value} {y0 : Int32} {y1 : Int32} (q : (y0 = y1 → X 1290 [.ref (500), .ref (240), .ref (270), .ref (297), .int (x4), x5, x6] [] h) ∧ (¬ y0 = y1 → Q (.int (0)) h)) : lxL C n xs Q X 1123 [.ref (500), .ref (240), .ref (270), .ref (297), .int (x4), x5, x6] [.int (y1), .int (y0)] h := by
  have hn : 298 ≤ 298 := Nat.le_refl _
  exact ⟨q.1, fun c1 => ⟨(by first | rfl | trivial), (q.2 c1)⟩⟩
set_option maxRecDepth 100000 in
theorem go_L_1128 {C : tf_C} {n : Nat} {xs : Nat → Int32} {Q : tf_Q} {X : tf_X} {h : LH} {x4 : Int32} {x5 : Value} {x6 : Value} (q : C 208 [.ref (240)] h (fun r g => X 1132 [.ref (500), .ref (240), .ref (270), .ref (297), .int (x4), x5, x6] (r :: []) g)) : lxL C n xs Q X 1128 [.ref (500), .ref (240), .ref (270), .ref (297), .int (x4), x5, x6] [] h := by
  have hn : 298 ≤ 298 := Nat.le_refl _
  exact ⟨Nat.le_of_ble_eq_true rfl, Nat.le_of_ble_eq_true rfl, q⟩
set_option maxRecDepth 100000 in
theorem go_L_1132 {C : tf_C} {n : Nat} {xs : Nat → Int32} {Q : tf_Q} {X : tf_X} {h : LH} {x4 : Int32} {x5 : Value} {x6 : Value} {y0 : Int32} (q : C 110 [.ref (270)] h (fun r g => X 1136 [.ref (500), .ref (240), .ref (270), .ref (297), .int (x4), x5, x6] (r :: [.int (y0)]) g)) : lxL C n xs Q X 1132 [.ref (500), .ref (240), .ref (270), .ref (297), .int (x4), x5, x6] [.int (y0)] h := by
  have hn : 298 ≤ 298 := Nat.le_refl _
  exact ⟨Nat.le_of_ble_eq_true rfl, Nat.le_of_ble_eq_true rfl, q⟩
set_option maxRecDepth 100000 in
theorem go_L_1136 {C : tf_C} {n : Nat} {xs : Nat → Int32} {Q : tf_Q} {X : tf_X} {h : LH} {x4 : Int32} {x5 : Value} {x6 : Value} {y0 : Int32} {y1 : Int32} (q : (y0 = y1 → X 1290 [.ref (500), .ref (240), .ref (270), .ref (297), .int (x4), x5, x6] [] h) ∧ (¬ y0 = y1 → Q (.int (0)) h)) : lxL C n xs Q X 1136 [.ref (500), .ref (240), .ref (270), .ref (297), .int (x4), x5, x6] [.int (y1), .int (y0)] h := by
  have hn : 298 ≤ 298 := Nat.le_refl _
  exact ⟨q.1, fun c1 => ⟨(by first | rfl | trivial), (q.2 c1)⟩⟩
set_option maxRecDepth 100000 in
theorem go_L_1141 {C : tf_C} {n : Nat} {xs : Nat → Int32} {Q : tf_Q} {X : tf_X} {h : LH} {x4 : Int32} {x5 : Value} {x6 : Value} (q : (vp_in (x4 + 1) n) ∧ C 209 [.ref (240), .int (xs (x4 + 1 : Int32).toNatClampNeg)] h (fun r g => X 1151 [.ref (500), .ref (240), .ref (270), .ref (297), .int (x4), x5, x6] (r :: []) g)) : lxL C n xs Q X 1141 [.ref (500), .ref (240), .ref (270), .ref (297), .int (x4), x5, x6] [] h := by
  have hn : 298 ≤ 298 := Nat.le_refl _
  exact ⟨⟨rfl, q.1⟩, ⟨Nat.le_of_ble_eq_true rfl, Nat.le_of_ble_eq_true rfl, q.2⟩⟩
set_option maxRecDepth 100000 in
theorem go_L_1151 {C : tf_C} {n : Nat} {xs : Nat → Int32} {Q : tf_Q} {X : tf_X} {h : LH} {x4 : Int32} {x5 : Value} {x6 : Value} {y0 : Int32} (q : (vp_in (x4 + 1) n) ∧ C 112 [.ref (270), .int (xs (x4 + 1 : Int32).toNatClampNeg)] h (fun r g => X 1161 [.ref (500), .ref (240), .ref (270), .ref (297), .int (x4), x5, x6] (r :: [.int (y0)]) g)) : lxL C n xs Q X 1151 [.ref (500), .ref (240), .ref (270), .ref (297), .int (x4), x5, x6] [.int (y0)] h := by
  have hn : 298 ≤ 298 := Nat.le_refl _
  exact ⟨⟨rfl, q.1⟩, ⟨Nat.le_of_ble_eq_true rfl, Nat.le_of_ble_eq_true rfl, q.2⟩⟩
set_option maxRecDepth 100000 in
theorem go_L_1161 {C : tf_C} {n : Nat} {xs : Nat → Int32} {Q : tf_Q} {X : tf_X} {h : LH} {x4 : Int32} {x5 : Value} {x6 : Value} {y0 : Int32} {y1 : Int32} (q : (y0 = y1 → X 1290 [.ref (500), .ref (240), .ref (270), .ref (297), .int (x4), x5, x6] [] h) ∧ (¬ y0 = y1 → Q (.int (0)) h)) : lxL C n xs Q X 1161 [.ref (500), .ref (240), .ref (270), .ref (297), .int (x4), x5, x6] [.int (y1), .int (y0)] h := by
  have hn : 298 ≤ 298 := Nat.le_refl _
  exact ⟨q.1, fun c1 => ⟨(by first | rfl | trivial), (q.2 c1)⟩⟩
set_option maxRecDepth 100000 in
theorem go_L_1166 {C : tf_C} {n : Nat} {xs : Nat → Int32} {Q : tf_Q} {X : tf_X} {h : LH} {x4 : Int32} {x5 : Value} {x6 : Value} (q : (vp_in (x4 + 1) n) ∧ (vp_in (x4 + 2) n) ∧ C 210 [.ref (240), .int (xs (x4 + 1 : Int32).toNatClampNeg), .int (xs (x4 + 2 : Int32).toNatClampNeg)] h (fun r g => X 1182 [.ref (500), .ref (240), .ref (270), .ref (297), .int (x4), x5, x6] (r :: []) g)) : lxL C n xs Q X 1166 [.ref (500), .ref (240), .ref (270), .ref (297), .int (x4), x5, x6] [] h := by
  have hn : 298 ≤ 298 := Nat.le_refl _
  exact ⟨⟨rfl, q.1⟩, ⟨⟨rfl, q.2.1⟩, ⟨Nat.le_of_ble_eq_true rfl, Nat.le_of_ble_eq_true rfl, q.2.2⟩⟩⟩
set_option maxRecDepth 100000 in
theorem go_L_1182 {C : tf_C} {n : Nat} {xs : Nat → Int32} {Q : tf_Q} {X : tf_X} {h : LH} {x4 : Int32} {x5 : Value} {x6 : Value} {y0 : Int32} (q : (vp_in (x4 + 1) n) ∧ (vp_in (x4 + 2) n) ∧ C 106 [.ref (270), .int (xs (x4 + 1 : Int32).toNatClampNeg), .int (xs (x4 + 2 : Int32).toNatClampNeg)] h (fun r g => X 1198 [.ref (500), .ref (240), .ref (270), .ref (297), .int (x4), x5, x6] (r :: [.int (y0)]) g)) : lxL C n xs Q X 1182 [.ref (500), .ref (240), .ref (270), .ref (297), .int (x4), x5, x6] [.int (y0)] h := by
  have hn : 298 ≤ 298 := Nat.le_refl _
  exact ⟨⟨rfl, q.1⟩, ⟨⟨rfl, q.2.1⟩, ⟨Nat.le_of_ble_eq_true rfl, Nat.le_of_ble_eq_true rfl, q.2.2⟩⟩⟩
set_option maxRecDepth 100000 in
theorem go_L_1198 {C : tf_C} {n : Nat} {xs : Nat → Int32} {Q : tf_Q} {X : tf_X} {h : LH} {x4 : Int32} {x5 : Value} {x6 : Value} {y0 : Int32} {y1 : Int32} (q : (y0 = y1 → X 1290 [.ref (500), .ref (240), .ref (270), .ref (297), .int (x4), x5, x6] [] h) ∧ (¬ y0 = y1 → Q (.int (0)) h)) : lxL C n xs Q X 1198 [.ref (500), .ref (240), .ref (270), .ref (297), .int (x4), x5, x6] [.int (y1), .int (y0)] h := by
  have hn : 298 ≤ 298 := Nat.le_refl _
  exact ⟨q.1, fun c1 => ⟨(by first | rfl | trivial), (q.2 c1)⟩⟩
set_option maxRecDepth 100000 in
theorem go_L_1203 {C : tf_C} {n : Nat} {xs : Nat → Int32} {Q : tf_Q} {X : tf_X} {h : LH} {x4 : Int32} {x5 : Value} {x6 : Value} (q : (vp_in (x4 + 1) n) ∧ (vp_in (x4 + 2) n) ∧ C 211 [.ref (240), .int (xs (x4 + 1 : Int32).toNatClampNeg), .int (xs (x4 + 2 : Int32).toNatClampNeg)] h (fun r g => X 1219 [.ref (500), .ref (240), .ref (270), .ref (297), .int (x4), x5, x6] (r :: []) g)) : lxL C n xs Q X 1203 [.ref (500), .ref (240), .ref (270), .ref (297), .int (x4), x5, x6] [] h := by
  have hn : 298 ≤ 298 := Nat.le_refl _
  exact ⟨⟨rfl, q.1⟩, ⟨⟨rfl, q.2.1⟩, ⟨Nat.le_of_ble_eq_true rfl, Nat.le_of_ble_eq_true rfl, q.2.2⟩⟩⟩
set_option maxRecDepth 100000 in
theorem go_L_1219 {C : tf_C} {n : Nat} {xs : Nat → Int32} {Q : tf_Q} {X : tf_X} {h : LH} {x4 : Int32} {x5 : Value} {x6 : Value} {y0 : Int32} (q : (vp_in (x4 + 1) n) ∧ (vp_in (x4 + 2) n) ∧ C 107 [.ref (270), .int (xs (x4 + 1 : Int32).toNatClampNeg), .int (xs (x4 + 2 : Int32).toNatClampNeg)] h (fun r g => X 1235 [.ref (500), .ref (240), .ref (270), .ref (297), .int (x4), x5, x6] (r :: [.int (y0)]) g)) : lxL C n xs Q X 1219 [.ref (500), .ref (240), .ref (270), .ref (297), .int (x4), x5, x6] [.int (y0)] h := by
  have hn : 298 ≤ 298 := Nat.le_refl _
  exact ⟨⟨rfl, q.1⟩, ⟨⟨rfl, q.2.1⟩, ⟨Nat.le_of_ble_eq_true rfl, Nat.le_of_ble_eq_true rfl, q.2.2⟩⟩⟩
set_option maxRecDepth 100000 in
theorem go_L_1235 {C : tf_C} {n : Nat} {xs : Nat → Int32} {Q : tf_Q} {X : tf_X} {h : LH} {x4 : Int32} {x5 : Value} {x6 : Value} {y0 : Int32} {y1 : Int32} (q : (y0 = y1 → X 1290 [.ref (500), .ref (240), .ref (270), .ref (297), .int (x4), x5, x6] [] h) ∧ (¬ y0 = y1 → Q (.int (0)) h)) : lxL C n xs Q X 1235 [.ref (500), .ref (240), .ref (270), .ref (297), .int (x4), x5, x6] [.int (y1), .int (y0)] h := by
  have hn : 298 ≤ 298 := Nat.le_refl _
  exact ⟨q.1, fun c1 => ⟨(by first | rfl | trivial), (q.2 c1)⟩⟩
set_option maxRecDepth 100000 in
theorem go_L_1240 {C : tf_C} {n : Nat} {xs : Nat → Int32} {Q : tf_Q} {X : tf_X} {h : LH} {x4 : Int32} {x5 : Value} {x6 : Value} (q : (vp_in (x4 + 1) n) ∧ C 212 [.ref (240), .int (xs (x4 + 1 : Int32).toNatClampNeg)] h (fun r g => X 1250 [.ref (500), .ref (240), .ref (270), .ref (297), .int (x4), x5, x6] (r :: []) g)) : lxL C n xs Q X 1240 [.ref (500), .ref (240), .ref (270), .ref (297), .int (x4), x5, x6] [] h := by
  have hn : 298 ≤ 298 := Nat.le_refl _
  exact ⟨⟨rfl, q.1⟩, ⟨Nat.le_of_ble_eq_true rfl, Nat.le_of_ble_eq_true rfl, q.2⟩⟩
set_option maxRecDepth 100000 in
theorem go_L_1250 {C : tf_C} {n : Nat} {xs : Nat → Int32} {Q : tf_Q} {X : tf_X} {h : LH} {x4 : Int32} {x5 : Value} {x6 : Value} {y0 : Int32} (q : (vp_in (x4 + 1) n) ∧ C 115 [.ref (270), .int (xs (x4 + 1 : Int32).toNatClampNeg)] h (fun r g => X 1260 [.ref (500), .ref (240), .ref (270), .ref (297), .int (x4), x5, x6] (r :: [.int (y0)]) g)) : lxL C n xs Q X 1250 [.ref (500), .ref (240), .ref (270), .ref (297), .int (x4), x5, x6] [.int (y0)] h := by
  have hn : 298 ≤ 298 := Nat.le_refl _
  exact ⟨⟨rfl, q.1⟩, ⟨Nat.le_of_ble_eq_true rfl, Nat.le_of_ble_eq_true rfl, q.2⟩⟩
set_option maxRecDepth 100000 in
theorem go_L_1260 {C : tf_C} {n : Nat} {xs : Nat → Int32} {Q : tf_Q} {X : tf_X} {h : LH} {x4 : Int32} {x5 : Value} {x6 : Value} {y0 : Int32} {y1 : Int32} (q : (y0 = y1 → X 1290 [.ref (500), .ref (240), .ref (270), .ref (297), .int (x4), x5, x6] [] h) ∧ (¬ y0 = y1 → Q (.int (0)) h)) : lxL C n xs Q X 1260 [.ref (500), .ref (240), .ref (270), .ref (297), .int (x4), x5, x6] [.int (y1), .int (y0)] h := by
  have hn : 298 ≤ 298 := Nat.le_refl _
  exact ⟨q.1, fun c1 => ⟨(by first | rfl | trivial), (q.2 c1)⟩⟩
set_option maxRecDepth 100000 in
theorem go_L_1265 {C : tf_C} {n : Nat} {xs : Nat → Int32} {Q : tf_Q} {X : tf_X} {h : LH} {x4 : Int32} {x5 : Value} {x6 : Value} (q : (vp_in (x4 + 1) n) ∧ C 213 [.ref (240), .int (xs (x4 + 1 : Int32).toNatClampNeg)] h (fun r g => X 1275 [.ref (500), .ref (240), .ref (270), .ref (297), .int (x4), x5, x6] (r :: []) g)) : lxL C n xs Q X 1265 [.ref (500), .ref (240), .ref (270), .ref (297), .int (x4), x5, x6] [] h := by
  have hn : 298 ≤ 298 := Nat.le_refl _
  exact ⟨⟨rfl, q.1⟩, ⟨Nat.le_of_ble_eq_true rfl, Nat.le_of_ble_eq_true rfl, q.2⟩⟩
set_option maxRecDepth 100000 in
theorem go_L_1275 {C : tf_C} {n : Nat} {xs : Nat → Int32} {Q : tf_Q} {X : tf_X} {h : LH} {x4 : Int32} {x5 : Value} {x6 : Value} {y0 : Int32} (q : (vp_in (x4 + 1) n) ∧ C 116 [.ref (270), .int (xs (x4 + 1 : Int32).toNatClampNeg)] h (fun r g => X 1285 [.ref (500), .ref (240), .ref (270), .ref (297), .int (x4), x5, x6] (r :: [.int (y0)]) g)) : lxL C n xs Q X 1275 [.ref (500), .ref (240), .ref (270), .ref (297), .int (x4), x5, x6] [.int (y0)] h := by
  have hn : 298 ≤ 298 := Nat.le_refl _
  exact ⟨⟨rfl, q.1⟩, ⟨Nat.le_of_ble_eq_true rfl, Nat.le_of_ble_eq_true rfl, q.2⟩⟩
set_option maxRecDepth 100000 in
theorem go_L_1285 {C : tf_C} {n : Nat} {xs : Nat → Int32} {Q : tf_Q} {X : tf_X} {h : LH} {x4 : Int32} {x5 : Value} {x6 : Value} {y0 : Int32} {y1 : Int32} (q : (y0 = y1 → X 1290 [.ref (500), .ref (240), .ref (270), .ref (297), .int (x4), x5, x6] [] h) ∧ (¬ y0 = y1 → Q (.int (0)) h)) : lxL C n xs Q X 1285 [.ref (500), .ref (240), .ref (270), .ref (297), .int (x4), x5, x6] [.int (y1), .int (y0)] h := by
  have hn : 298 ≤ 298 := Nat.le_refl _
  exact ⟨q.1, fun c1 => ⟨(by first | rfl | trivial), (q.2 c1)⟩⟩
set_option maxRecDepth 100000 in
theorem go_L_1290 {C : tf_C} {n : Nat} {xs : Nat → Int32} {Q : tf_Q} {X : tf_X} {h : LH} {x4 : Int32} {x5 : Value} {x6 : Value} (q : X 23 [.ref (500), .ref (240), .ref (270), .ref (297), .int (x4 + 4), x5, x6] [] h) : lxL C n xs Q X 1290 [.ref (500), .ref (240), .ref (270), .ref (297), .int (x4), x5, x6] [] h := by
  have hn : 298 ≤ 298 := Nat.le_refl _
  exact q
set_option maxRecDepth 100000 in
theorem go_L_1296 {C : tf_C} {n : Nat} {xs : Nat → Int32} {Q : tf_Q} {X : tf_X} {h : LH} {x4 : Int32} {x5 : Value} {x6 : Value} (q : Q (.int (1)) h) : lxL C n xs Q X 1296 [.ref (500), .ref (240), .ref (270), .ref (297), .int (x4), x5, x6] [] h := by
  have hn : 298 ≤ 298 := Nat.le_refl _
  exact ⟨(by first | rfl | trivial), q⟩
