/-! ===== the law's loop, block by block ===== -/
def tb_L : tf_Bk := tb_L0 ++ (tb_L1 ++ (tb_L2 ++ (tb_L3 ++ (tb_L4 ++ (tb_L5 ++ (tb_L6 ++ (tb_L7)))))))
theorem tf_Bck_app {cc : ByteArray} {nL : Nat} {a b : tf_Bk} (ha : tf_Bck cc nL a = true) (hb : tf_Bck cc nL b = true) : tf_Bck cc nL (a ++ b) = true := by
  unfold tf_Bck at *
  rw [List.all_append, ha, hb]
  rfl
theorem ck_L : tf_Bck code 7 tb_L = true := tf_Bck_app ck_L0 (tf_Bck_app ck_L1 (tf_Bck_app ck_L2 (tf_Bck_app ck_L3 (tf_Bck_app ck_L4 (tf_Bck_app ck_L5 (tf_Bck_app ck_L6 (ck_L7)))))))
def lk_rd (n : Nat) (xs : Nat → Int32) : List Value → List Value → LH → tf_Kt → tf_X → Prop := fun L st h k _ => match st with
  | .int i :: .ref x :: st => (x = 500 ∧ vp_in i n) ∧ k L (.int (xs i.toNatClampNeg) :: st) h
  | _ => False
def lk_len (n : Nat) : List Value → List Value → LH → tf_Kt → tf_X → Prop := fun L st h k _ => match st with
  | .ref x :: st => x = 500 ∧ k L (.int (Int32.ofNat n) :: st) h
  | _ => False
def lk_pcs : List Nat := lk_pcs0 ++ (lk_pcs1 ++ lk_pcs2)
theorem lk_dec {pc : Nat} (h : lk_pcs.contains pc = true) : decode code pc = .ok (.iaload, 1) := by
  have h1 : pc ∈ lk_pcs := by simpa using h
  unfold lk_pcs at h1
  rcases List.mem_append.mp h1 with h1 | h1
  · exact of_decide_eq_true (List.all_eq_true.mp lk_dec0 pc h1)
  · rcases List.mem_append.mp h1 with h1 | h1
    · exact of_decide_eq_true (List.all_eq_true.mp lk_dec1 pc h1)
    · exact of_decide_eq_true (List.all_eq_true.mp lk_dec2 pc h1)
set_option maxRecDepth 100000 in
theorem lk_dec26 : decode code 26 = .ok (.arraylength, 1) := by decide +kernel
def lk_E (n : Nat) (xs : Nat → Int32) : tf_Hk := fun pc => if pc = 26 then some (lk_len n) else if lk_pcs.contains pc = true then some (lk_rd n xs) else none
abbrev lxL (C : tf_C) (n : Nat) (xs : Nat → Int32) (Q : tf_Q) (X : tf_X) (pc : Nat) (L st : List Value) (h : LH) : Prop := tf_wp 298 C (tf_F 10) (tf_M 10) (tf_I 10) (lk_E n xs) 2 Q X pc (tf_at tb_L pc) L st h
set_option maxRecDepth 100000 in
theorem go_L_23 {C : tf_C} {n : Nat} {xs : Nat → Int32} {Q : tf_Q} {X : tf_X} {h : LH} {x4 : Int32} {x5 : Value} {x6 : Value} (q : (((Int32.ofNat n) - 4) < x4 → X 1240 [.ref (500), .ref (240), .ref (270), .ref (297), .int (x4), x5, x6] [] h) ∧ (¬ ((Int32.ofNat n) - 4) < x4 → (vp_in x4 n) ∧ ((((xs (x4 : Int32).toNatClampNeg) &&& 63 : Int32).toInt < 0 ∨ 33 < ((xs (x4 : Int32).toNatClampNeg) &&& 63 : Int32).toInt) → X 1234 [.ref (500), .ref (240), .ref (270), .ref (297), .int (x4), x5, x6] [] h) ∧ (((xs (x4 : Int32).toNatClampNeg) &&& 63 : Int32).toInt = 0 → X 188 [.ref (500), .ref (240), .ref (270), .ref (297), .int (x4), x5, x6] [] h) ∧ (((xs (x4 : Int32).toNatClampNeg) &&& 63 : Int32).toInt = 1 → X 245 [.ref (500), .ref (240), .ref (270), .ref (297), .int (x4), x5, x6] [] h) ∧ (((xs (x4 : Int32).toNatClampNeg) &&& 63 : Int32).toInt = 2 → X 258 [.ref (500), .ref (240), .ref (270), .ref (297), .int (x4), x5, x6] [] h) ∧ (((xs (x4 : Int32).toNatClampNeg) &&& 63 : Int32).toInt = 3 → X 299 [.ref (500), .ref (240), .ref (270), .ref (297), .int (x4), x5, x6] [] h) ∧ (((xs (x4 : Int32).toNatClampNeg) &&& 63 : Int32).toInt = 4 → X 312 [.ref (500), .ref (240), .ref (270), .ref (297), .int (x4), x5, x6] [] h) ∧ (((xs (x4 : Int32).toNatClampNeg) &&& 63 : Int32).toInt = 5 → X 337 [.ref (500), .ref (240), .ref (270), .ref (297), .int (x4), x5, x6] [] h) ∧ (((xs (x4 : Int32).toNatClampNeg) &&& 63 : Int32).toInt = 6 → X 362 [.ref (500), .ref (240), .ref (270), .ref (297), .int (x4), x5, x6] [] h) ∧ (((xs (x4 : Int32).toNatClampNeg) &&& 63 : Int32).toInt = 7 → X 411 [.ref (500), .ref (240), .ref (270), .ref (297), .int (x4), x5, x6] [] h) ∧ (((xs (x4 : Int32).toNatClampNeg) &&& 63 : Int32).toInt = 8 → X 464 [.ref (500), .ref (240), .ref (270), .ref (297), .int (x4), x5, x6] [] h) ∧ (((xs (x4 : Int32).toNatClampNeg) &&& 63 : Int32).toInt = 9 → X 501 [.ref (500), .ref (240), .ref (270), .ref (297), .int (x4), x5, x6] [] h) ∧ (((xs (x4 : Int32).toNatClampNeg) &&& 63 : Int32).toInt = 10 → X 538 [.ref (500), .ref (240), .ref (270), .ref (297), .int (x4), x5, x6] [] h) ∧ (((xs (x4 : Int32).toNatClampNeg) &&& 63 : Int32).toInt = 11 → X 549 [.ref (500), .ref (240), .ref (270), .ref (297), .int (x4), x5, x6] [] h) ∧ (((xs (x4 : Int32).toNatClampNeg) &&& 63 : Int32).toInt = 12 → X 562 [.ref (500), .ref (240), .ref (270), .ref (297), .int (x4), x5, x6] [] h) ∧ (((xs (x4 : Int32).toNatClampNeg) &&& 63 : Int32).toInt = 13 → X 575 [.ref (500), .ref (240), .ref (270), .ref (297), .int (x4), x5, x6] [] h) ∧ (((xs (x4 : Int32).toNatClampNeg) &&& 63 : Int32).toInt = 14 → X 600 [.ref (500), .ref (240), .ref (270), .ref (297), .int (x4), x5, x6] [] h) ∧ (((xs (x4 : Int32).toNatClampNeg) &&& 63 : Int32).toInt = 15 → X 640 [.ref (500), .ref (240), .ref (270), .ref (297), .int (x4), x5, x6] [] h) ∧ (((xs (x4 : Int32).toNatClampNeg) &&& 63 : Int32).toInt = 16 → X 680 [.ref (500), .ref (240), .ref (270), .ref (297), .int (x4), x5, x6] [] h) ∧ (((xs (x4 : Int32).toNatClampNeg) &&& 63 : Int32).toInt = 17 → X 705 [.ref (500), .ref (240), .ref (270), .ref (297), .int (x4), x5, x6] [] h) ∧ (((xs (x4 : Int32).toNatClampNeg) &&& 63 : Int32).toInt = 18 → X 754 [.ref (500), .ref (240), .ref (270), .ref (297), .int (x4), x5, x6] [] h) ∧ (((xs (x4 : Int32).toNatClampNeg) &&& 63 : Int32).toInt = 19 → X 779 [.ref (500), .ref (240), .ref (270), .ref (297), .int (x4), x5, x6] [] h) ∧ (((xs (x4 : Int32).toNatClampNeg) &&& 63 : Int32).toInt = 20 → X 816 [.ref (500), .ref (240), .ref (270), .ref (297), .int (x4), x5, x6] [] h) ∧ (((xs (x4 : Int32).toNatClampNeg) &&& 63 : Int32).toInt = 21 → X 841 [.ref (500), .ref (240), .ref (270), .ref (297), .int (x4), x5, x6] [] h) ∧ (((xs (x4 : Int32).toNatClampNeg) &&& 63 : Int32).toInt = 22 → X 894 [.ref (500), .ref (240), .ref (270), .ref (297), .int (x4), x5, x6] [] h) ∧ (((xs (x4 : Int32).toNatClampNeg) &&& 63 : Int32).toInt = 23 → X 931 [.ref (500), .ref (240), .ref (270), .ref (297), .int (x4), x5, x6] [] h) ∧ (((xs (x4 : Int32).toNatClampNeg) &&& 63 : Int32).toInt = 24 → X 968 [.ref (500), .ref (240), .ref (270), .ref (297), .int (x4), x5, x6] [] h) ∧ (((xs (x4 : Int32).toNatClampNeg) &&& 63 : Int32).toInt = 25 → X 993 [.ref (500), .ref (240), .ref (270), .ref (297), .int (x4), x5, x6] [] h) ∧ (((xs (x4 : Int32).toNatClampNeg) &&& 63 : Int32).toInt = 26 → X 1046 [.ref (500), .ref (240), .ref (270), .ref (297), .int (x4), x5, x6] [] h) ∧ (((xs (x4 : Int32).toNatClampNeg) &&& 63 : Int32).toInt = 27 → X 1059 [.ref (500), .ref (240), .ref (270), .ref (297), .int (x4), x5, x6] [] h) ∧ (((xs (x4 : Int32).toNatClampNeg) &&& 63 : Int32).toInt = 28 → X 1072 [.ref (500), .ref (240), .ref (270), .ref (297), .int (x4), x5, x6] [] h) ∧ (((xs (x4 : Int32).toNatClampNeg) &&& 63 : Int32).toInt = 29 → X 1085 [.ref (500), .ref (240), .ref (270), .ref (297), .int (x4), x5, x6] [] h) ∧ (((xs (x4 : Int32).toNatClampNeg) &&& 63 : Int32).toInt = 30 → X 1110 [.ref (500), .ref (240), .ref (270), .ref (297), .int (x4), x5, x6] [] h) ∧ (((xs (x4 : Int32).toNatClampNeg) &&& 63 : Int32).toInt = 31 → X 1147 [.ref (500), .ref (240), .ref (270), .ref (297), .int (x4), x5, x6] [] h) ∧ (((xs (x4 : Int32).toNatClampNeg) &&& 63 : Int32).toInt = 32 → X 1184 [.ref (500), .ref (240), .ref (270), .ref (297), .int (x4), x5, x6] [] h) ∧ (((xs (x4 : Int32).toNatClampNeg) &&& 63 : Int32).toInt = 33 → X 1209 [.ref (500), .ref (240), .ref (270), .ref (297), .int (x4), x5, x6] [] h) ∧ True)) : lxL C n xs Q X 23 [.ref (500), .ref (240), .ref (270), .ref (297), .int (x4), x5, x6] [] h := by
  have hn : 298 ≤ 298 := Nat.le_refl _
  exact ⟨rfl, ⟨q.1, fun c1 => ⟨⟨rfl, (q.2 c1).1⟩, (q.2 c1).2⟩⟩⟩
set_option maxRecDepth 100000 in
theorem go_L_188 {C : tf_C} {n : Nat} {xs : Nat → Int32} {Q : tf_Q} {X : tf_X} {h : LH} {x4 : Int32} {x5 : Value} {x6 : Value} (q : (vp_in (x4 + 1) n) ∧ (vp_in (x4 + 2) n) ∧ C 181 [.ref (240), .long ((((xs (x4 + 1 : Int32).toNatClampNeg : Int32).toInt64) <<< ((32 : Int32).toInt64 &&& 63)) ||| (((xs (x4 + 2 : Int32).toNatClampNeg : Int32).toInt64) &&& 4294967295))] h (fun r g => X 214 [.ref (500), .ref (240), .ref (270), .ref (297), .int (x4), x5, x6] (r :: []) g)) : lxL C n xs Q X 188 [.ref (500), .ref (240), .ref (270), .ref (297), .int (x4), x5, x6] [] h := by
  have hn : 298 ≤ 298 := Nat.le_refl _
  exact ⟨⟨rfl, q.1⟩, ⟨⟨rfl, q.2.1⟩, ⟨Nat.le_of_ble_eq_true rfl, Nat.le_of_ble_eq_true rfl, q.2.2⟩⟩⟩
set_option maxRecDepth 100000 in
theorem go_L_214 {C : tf_C} {n : Nat} {xs : Nat → Int32} {Q : tf_Q} {X : tf_X} {h : LH} {x4 : Int32} {x5 : Value} {x6 : Value} {y0 : Int32} (q : (vp_in (x4 + 1) n) ∧ (vp_in (x4 + 2) n) ∧ C 8 [.ref (270), .long ((((xs (x4 + 1 : Int32).toNatClampNeg : Int32).toInt64) <<< ((32 : Int32).toInt64 &&& 63)) ||| (((xs (x4 + 2 : Int32).toNatClampNeg : Int32).toInt64) &&& 4294967295))] h (fun r g => X 241 [.ref (500), .ref (240), .ref (270), .ref (297), .int (x4), x5, x6] (r :: []) g)) : lxL C n xs Q X 214 [.ref (500), .ref (240), .ref (270), .ref (297), .int (x4), x5, x6] [.int (y0)] h := by
  have hn : 298 ≤ 298 := Nat.le_refl _
  exact ⟨⟨rfl, q.1⟩, ⟨⟨rfl, q.2.1⟩, ⟨Nat.le_of_ble_eq_true rfl, Nat.le_of_ble_eq_true rfl, q.2.2⟩⟩⟩
set_option maxRecDepth 100000 in
theorem go_L_241 {C : tf_C} {n : Nat} {xs : Nat → Int32} {Q : tf_Q} {X : tf_X} {h : LH} {x4 : Int32} {x5 : Value} {x6 : Value} {y0 : Int32} (q : X 1234 [.ref (500), .ref (240), .ref (270), .ref (297), .int (x4), x5, x6] [] h) : lxL C n xs Q X 241 [.ref (500), .ref (240), .ref (270), .ref (297), .int (x4), x5, x6] [.int (y0)] h := by
  have hn : 298 ≤ 298 := Nat.le_refl _
  exact q
set_option maxRecDepth 100000 in
theorem go_L_245 {C : tf_C} {n : Nat} {xs : Nat → Int32} {Q : tf_Q} {X : tf_X} {h : LH} {x4 : Int32} {x5 : Value} {x6 : Value} (q : C 182 [.ref (240)] h (fun r g => X 249 [.ref (500), .ref (240), .ref (270), .ref (297), .int (x4), x5, x6] (r :: []) g)) : lxL C n xs Q X 245 [.ref (500), .ref (240), .ref (270), .ref (297), .int (x4), x5, x6] [] h := by
  have hn : 298 ≤ 298 := Nat.le_refl _
  exact ⟨Nat.le_of_ble_eq_true rfl, Nat.le_of_ble_eq_true rfl, q⟩
set_option maxRecDepth 100000 in
theorem go_L_249 {C : tf_C} {n : Nat} {xs : Nat → Int32} {Q : tf_Q} {X : tf_X} {h : LH} {x4 : Int32} {x5 : Value} {x6 : Value} {y0 : Int32} (q : C 24 [.ref (270)] h (fun r g => X 254 [.ref (500), .ref (240), .ref (270), .ref (297), .int (x4), x5, x6] (r :: []) g)) : lxL C n xs Q X 249 [.ref (500), .ref (240), .ref (270), .ref (297), .int (x4), x5, x6] [.int (y0)] h := by
  have hn : 298 ≤ 298 := Nat.le_refl _
  exact ⟨Nat.le_of_ble_eq_true rfl, Nat.le_of_ble_eq_true rfl, q⟩
set_option maxRecDepth 100000 in
theorem go_L_254 {C : tf_C} {n : Nat} {xs : Nat → Int32} {Q : tf_Q} {X : tf_X} {h : LH} {x4 : Int32} {x5 : Value} {x6 : Value} {y0 : Int32} (q : X 1234 [.ref (500), .ref (240), .ref (270), .ref (297), .int (x4), x5, x6] [] h) : lxL C n xs Q X 254 [.ref (500), .ref (240), .ref (270), .ref (297), .int (x4), x5, x6] [.int (y0)] h := by
  have hn : 298 ≤ 298 := Nat.le_refl _
  exact q
set_option maxRecDepth 100000 in
theorem go_L_258 {C : tf_C} {n : Nat} {xs : Nat → Int32} {Q : tf_Q} {X : tf_X} {h : LH} {x4 : Int32} {x5 : Value} {x6 : Value} (q : (vp_in (x4 + 1) n) ∧ ((xs (x4 + 1 : Int32).toNatClampNeg) = (0 : Int32) → X 272 [.ref (500), .ref (240), .ref (270), .ref (297), .int (x4), x5, x6] [.ref (240)] h) ∧ (¬ (xs (x4 + 1 : Int32).toNatClampNeg) = (0 : Int32) → X 273 [.ref (500), .ref (240), .ref (270), .ref (297), .int (x4), x5, x6] [.int (1), .ref (240)] h)) : lxL C n xs Q X 258 [.ref (500), .ref (240), .ref (270), .ref (297), .int (x4), x5, x6] [] h := by
  have hn : 298 ≤ 298 := Nat.le_refl _
  exact ⟨⟨rfl, q.1⟩, ⟨q.2.1, fun c1 => (q.2.2 c1)⟩⟩
set_option maxRecDepth 100000 in
theorem go_L_272 {C : tf_C} {n : Nat} {xs : Nat → Int32} {Q : tf_Q} {X : tf_X} {h : LH} {x4 : Int32} {x5 : Value} {x6 : Value} (q : X 273 [.ref (500), .ref (240), .ref (270), .ref (297), .int (x4), x5, x6] [.int (0), .ref (240)] h) : lxL C n xs Q X 272 [.ref (500), .ref (240), .ref (270), .ref (297), .int (x4), x5, x6] [.ref (240)] h := by
  have hn : 298 ≤ 298 := Nat.le_refl _
  exact q
set_option maxRecDepth 100000 in
theorem go_L_273 {C : tf_C} {n : Nat} {xs : Nat → Int32} {Q : tf_Q} {X : tf_X} {h : LH} {x4 : Int32} {x5 : Value} {x6 : Value} {y1 : Int32} (q : C 183 [.ref (240), .int (y1)] h (fun r g => X 276 [.ref (500), .ref (240), .ref (270), .ref (297), .int (x4), x5, x6] (r :: []) g)) : lxL C n xs Q X 273 [.ref (500), .ref (240), .ref (270), .ref (297), .int (x4), x5, x6] [.int (y1), .ref (240)] h := by
  have hn : 298 ≤ 298 := Nat.le_refl _
  exact ⟨Nat.le_of_ble_eq_true rfl, Nat.le_of_ble_eq_true rfl, q⟩
set_option maxRecDepth 100000 in
theorem go_L_276 {C : tf_C} {n : Nat} {xs : Nat → Int32} {Q : tf_Q} {X : tf_X} {h : LH} {x4 : Int32} {x5 : Value} {x6 : Value} {y0 : Int32} (q : (vp_in (x4 + 1) n) ∧ ((xs (x4 + 1 : Int32).toNatClampNeg) = (0 : Int32) → X 291 [.ref (500), .ref (240), .ref (270), .ref (297), .int (x4), x5, x6] [.ref (270)] h) ∧ (¬ (xs (x4 + 1 : Int32).toNatClampNeg) = (0 : Int32) → X 292 [.ref (500), .ref (240), .ref (270), .ref (297), .int (x4), x5, x6] [.int (1), .ref (270)] h)) : lxL C n xs Q X 276 [.ref (500), .ref (240), .ref (270), .ref (297), .int (x4), x5, x6] [.int (y0)] h := by
  have hn : 298 ≤ 298 := Nat.le_refl _
  exact ⟨⟨rfl, q.1⟩, ⟨q.2.1, fun c1 => (q.2.2 c1)⟩⟩
set_option maxRecDepth 100000 in
theorem go_L_291 {C : tf_C} {n : Nat} {xs : Nat → Int32} {Q : tf_Q} {X : tf_X} {h : LH} {x4 : Int32} {x5 : Value} {x6 : Value} (q : X 292 [.ref (500), .ref (240), .ref (270), .ref (297), .int (x4), x5, x6] [.int (0), .ref (270)] h) : lxL C n xs Q X 291 [.ref (500), .ref (240), .ref (270), .ref (297), .int (x4), x5, x6] [.ref (270)] h := by
  have hn : 298 ≤ 298 := Nat.le_refl _
  exact q
set_option maxRecDepth 100000 in
theorem go_L_292 {C : tf_C} {n : Nat} {xs : Nat → Int32} {Q : tf_Q} {X : tf_X} {h : LH} {x4 : Int32} {x5 : Value} {x6 : Value} {y1 : Int32} (q : C 25 [.ref (270), .int (y1)] h (fun r g => X 295 [.ref (500), .ref (240), .ref (270), .ref (297), .int (x4), x5, x6] (r :: []) g)) : lxL C n xs Q X 292 [.ref (500), .ref (240), .ref (270), .ref (297), .int (x4), x5, x6] [.int (y1), .ref (270)] h := by
  have hn : 298 ≤ 298 := Nat.le_refl _
  exact ⟨Nat.le_of_ble_eq_true rfl, Nat.le_of_ble_eq_true rfl, q⟩
set_option maxRecDepth 100000 in
theorem go_L_295 {C : tf_C} {n : Nat} {xs : Nat → Int32} {Q : tf_Q} {X : tf_X} {h : LH} {x4 : Int32} {x5 : Value} {x6 : Value} {y0 : Int32} (q : X 1234 [.ref (500), .ref (240), .ref (270), .ref (297), .int (x4), x5, x6] [] h) : lxL C n xs Q X 295 [.ref (500), .ref (240), .ref (270), .ref (297), .int (x4), x5, x6] [.int (y0)] h := by
  have hn : 298 ≤ 298 := Nat.le_refl _
  exact q
set_option maxRecDepth 100000 in
theorem go_L_299 {C : tf_C} {n : Nat} {xs : Nat → Int32} {Q : tf_Q} {X : tf_X} {h : LH} {x4 : Int32} {x5 : Value} {x6 : Value} (q : C 184 [.ref (240)] h (fun r g => X 303 [.ref (500), .ref (240), .ref (270), .ref (297), .int (x4), x5, x6] (r :: []) g)) : lxL C n xs Q X 299 [.ref (500), .ref (240), .ref (270), .ref (297), .int (x4), x5, x6] [] h := by
  have hn : 298 ≤ 298 := Nat.le_refl _
  exact ⟨Nat.le_of_ble_eq_true rfl, Nat.le_of_ble_eq_true rfl, q⟩
set_option maxRecDepth 100000 in
theorem go_L_303 {C : tf_C} {n : Nat} {xs : Nat → Int32} {Q : tf_Q} {X : tf_X} {h : LH} {x4 : Int32} {x5 : Value} {x6 : Value} {y0 : Int32} (q : C 54 [.ref (270)] h (fun r g => X 308 [.ref (500), .ref (240), .ref (270), .ref (297), .int (x4), x5, x6] (r :: []) g)) : lxL C n xs Q X 303 [.ref (500), .ref (240), .ref (270), .ref (297), .int (x4), x5, x6] [.int (y0)] h := by
  have hn : 298 ≤ 298 := Nat.le_refl _
  exact ⟨Nat.le_of_ble_eq_true rfl, Nat.le_of_ble_eq_true rfl, q⟩
set_option maxRecDepth 100000 in
theorem go_L_308 {C : tf_C} {n : Nat} {xs : Nat → Int32} {Q : tf_Q} {X : tf_X} {h : LH} {x4 : Int32} {x5 : Value} {x6 : Value} {y0 : Int32} (q : X 1234 [.ref (500), .ref (240), .ref (270), .ref (297), .int (x4), x5, x6] [] h) : lxL C n xs Q X 308 [.ref (500), .ref (240), .ref (270), .ref (297), .int (x4), x5, x6] [.int (y0)] h := by
  have hn : 298 ≤ 298 := Nat.le_refl _
  exact q
set_option maxRecDepth 100000 in
theorem go_L_312 {C : tf_C} {n : Nat} {xs : Nat → Int32} {Q : tf_Q} {X : tf_X} {h : LH} {x4 : Int32} {x5 : Value} {x6 : Value} (q : (vp_in (x4 + 1) n) ∧ C 185 [.ref (240), .int (xs (x4 + 1 : Int32).toNatClampNeg)] h (fun r g => X 322 [.ref (500), .ref (240), .ref (270), .ref (297), .int (x4), x5, x6] (r :: []) g)) : lxL C n xs Q X 312 [.ref (500), .ref (240), .ref (270), .ref (297), .int (x4), x5, x6] [] h := by
  have hn : 298 ≤ 298 := Nat.le_refl _
  exact ⟨⟨rfl, q.1⟩, ⟨Nat.le_of_ble_eq_true rfl, Nat.le_of_ble_eq_true rfl, q.2⟩⟩
set_option maxRecDepth 100000 in
theorem go_L_322 {C : tf_C} {n : Nat} {xs : Nat → Int32} {Q : tf_Q} {X : tf_X} {h : LH} {x4 : Int32} {x5 : Value} {x6 : Value} {y0 : Int32} (q : (vp_in (x4 + 1) n) ∧ C 55 [.ref (270), .int (xs (x4 + 1 : Int32).toNatClampNeg)] h (fun r g => X 333 [.ref (500), .ref (240), .ref (270), .ref (297), .int (x4), x5, x6] (r :: []) g)) : lxL C n xs Q X 322 [.ref (500), .ref (240), .ref (270), .ref (297), .int (x4), x5, x6] [.int (y0)] h := by
  have hn : 298 ≤ 298 := Nat.le_refl _
  exact ⟨⟨rfl, q.1⟩, ⟨Nat.le_of_ble_eq_true rfl, Nat.le_of_ble_eq_true rfl, q.2⟩⟩
set_option maxRecDepth 100000 in
theorem go_L_333 {C : tf_C} {n : Nat} {xs : Nat → Int32} {Q : tf_Q} {X : tf_X} {h : LH} {x4 : Int32} {x5 : Value} {x6 : Value} {y0 : Int32} (q : X 1234 [.ref (500), .ref (240), .ref (270), .ref (297), .int (x4), x5, x6] [] h) : lxL C n xs Q X 333 [.ref (500), .ref (240), .ref (270), .ref (297), .int (x4), x5, x6] [.int (y0)] h := by
  have hn : 298 ≤ 298 := Nat.le_refl _
  exact q
set_option maxRecDepth 100000 in
theorem go_L_337 {C : tf_C} {n : Nat} {xs : Nat → Int32} {Q : tf_Q} {X : tf_X} {h : LH} {x4 : Int32} {x5 : Value} {x6 : Value} (q : (vp_in (x4 + 1) n) ∧ C 186 [.ref (240), .int (xs (x4 + 1 : Int32).toNatClampNeg)] h (fun r g => X 347 [.ref (500), .ref (240), .ref (270), .ref (297), .int (x4), x5, x6] (r :: []) g)) : lxL C n xs Q X 337 [.ref (500), .ref (240), .ref (270), .ref (297), .int (x4), x5, x6] [] h := by
  have hn : 298 ≤ 298 := Nat.le_refl _
  exact ⟨⟨rfl, q.1⟩, ⟨Nat.le_of_ble_eq_true rfl, Nat.le_of_ble_eq_true rfl, q.2⟩⟩
set_option maxRecDepth 100000 in
theorem go_L_347 {C : tf_C} {n : Nat} {xs : Nat → Int32} {Q : tf_Q} {X : tf_X} {h : LH} {x4 : Int32} {x5 : Value} {x6 : Value} {y0 : Int32} (q : (vp_in (x4 + 1) n) ∧ C 56 [.ref (270), .int (xs (x4 + 1 : Int32).toNatClampNeg)] h (fun r g => X 358 [.ref (500), .ref (240), .ref (270), .ref (297), .int (x4), x5, x6] (r :: []) g)) : lxL C n xs Q X 347 [.ref (500), .ref (240), .ref (270), .ref (297), .int (x4), x5, x6] [.int (y0)] h := by
  have hn : 298 ≤ 298 := Nat.le_refl _
  exact ⟨⟨rfl, q.1⟩, ⟨Nat.le_of_ble_eq_true rfl, Nat.le_of_ble_eq_true rfl, q.2⟩⟩
set_option maxRecDepth 100000 in
theorem go_L_358 {C : tf_C} {n : Nat} {xs : Nat → Int32} {Q : tf_Q} {X : tf_X} {h : LH} {x4 : Int32} {x5 : Value} {x6 : Value} {y0 : Int32} (q : X 1234 [.ref (500), .ref (240), .ref (270), .ref (297), .int (x4), x5, x6] [] h) : lxL C n xs Q X 358 [.ref (500), .ref (240), .ref (270), .ref (297), .int (x4), x5, x6] [.int (y0)] h := by
  have hn : 298 ≤ 298 := Nat.le_refl _
  exact q
set_option maxRecDepth 100000 in
theorem go_L_362 {C : tf_C} {n : Nat} {xs : Nat → Int32} {Q : tf_Q} {X : tf_X} {h : LH} {x4 : Int32} {x5 : Value} {x6 : Value} (q : (vp_in (x4 + 1) n) ∧ (vp_in (x4 + 2) n) ∧ (vp_in (x4 + 3) n) ∧ C 187 [.ref (240), .int (xs (x4 + 1 : Int32).toNatClampNeg), .int (xs (x4 + 2 : Int32).toNatClampNeg), .int (xs (x4 + 3 : Int32).toNatClampNeg)] h (fun r g => X 384 [.ref (500), .ref (240), .ref (270), .ref (297), .int (x4), x5, x6] (r :: []) g)) : lxL C n xs Q X 362 [.ref (500), .ref (240), .ref (270), .ref (297), .int (x4), x5, x6] [] h := by
  have hn : 298 ≤ 298 := Nat.le_refl _
  exact ⟨⟨rfl, q.1⟩, ⟨⟨rfl, q.2.1⟩, ⟨⟨rfl, q.2.2.1⟩, ⟨Nat.le_of_ble_eq_true rfl, Nat.le_of_ble_eq_true rfl, q.2.2.2⟩⟩⟩⟩
set_option maxRecDepth 100000 in
theorem go_L_384 {C : tf_C} {n : Nat} {xs : Nat → Int32} {Q : tf_Q} {X : tf_X} {h : LH} {x4 : Int32} {x5 : Value} {x6 : Value} {y0 : Int32} (q : (vp_in (x4 + 1) n) ∧ (vp_in (x4 + 2) n) ∧ (vp_in (x4 + 3) n) ∧ C 59 [.ref (270), .int (xs (x4 + 1 : Int32).toNatClampNeg), .int (xs (x4 + 2 : Int32).toNatClampNeg), .int (xs (x4 + 3 : Int32).toNatClampNeg)] h (fun r g => X 407 [.ref (500), .ref (240), .ref (270), .ref (297), .int (x4), x5, x6] (r :: []) g)) : lxL C n xs Q X 384 [.ref (500), .ref (240), .ref (270), .ref (297), .int (x4), x5, x6] [.int (y0)] h := by
  have hn : 298 ≤ 298 := Nat.le_refl _
  exact ⟨⟨rfl, q.1⟩, ⟨⟨rfl, q.2.1⟩, ⟨⟨rfl, q.2.2.1⟩, ⟨Nat.le_of_ble_eq_true rfl, Nat.le_of_ble_eq_true rfl, q.2.2.2⟩⟩⟩⟩
set_option maxRecDepth 100000 in
theorem go_L_407 {C : tf_C} {n : Nat} {xs : Nat → Int32} {Q : tf_Q} {X : tf_X} {h : LH} {x4 : Int32} {x5 : Value} {x6 : Value} {y0 : Int32} (q : X 1234 [.ref (500), .ref (240), .ref (270), .ref (297), .int (x4), x5, x6] [] h) : lxL C n xs Q X 407 [.ref (500), .ref (240), .ref (270), .ref (297), .int (x4), x5, x6] [.int (y0)] h := by
  have hn : 298 ≤ 298 := Nat.le_refl _
  exact q
set_option maxRecDepth 100000 in
theorem go_L_411 {C : tf_C} {n : Nat} {xs : Nat → Int32} {Q : tf_Q} {X : tf_X} {h : LH} {x4 : Int32} {x5 : Value} {x6 : Value} (q : (vp_in (x4 + 1) n) ∧ (vp_in (x4 + 2) n) ∧ ((xs (x4 + 2 : Int32).toNatClampNeg) = (0 : Int32) → X 431 [.ref (500), .ref (240), .ref (270), .ref (297), .int (x4), x5, x6] [.int (xs (x4 + 1 : Int32).toNatClampNeg), .ref (240)] h) ∧ (¬ (xs (x4 + 2 : Int32).toNatClampNeg) = (0 : Int32) → X 432 [.ref (500), .ref (240), .ref (270), .ref (297), .int (x4), x5, x6] [.int (1), .int (xs (x4 + 1 : Int32).toNatClampNeg), .ref (240)] h)) : lxL C n xs Q X 411 [.ref (500), .ref (240), .ref (270), .ref (297), .int (x4), x5, x6] [] h := by
  have hn : 298 ≤ 298 := Nat.le_refl _
  exact ⟨⟨rfl, q.1⟩, ⟨⟨rfl, q.2.1⟩, ⟨q.2.2.1, fun c1 => (q.2.2.2 c1)⟩⟩⟩
set_option maxRecDepth 100000 in
theorem go_L_431 {C : tf_C} {n : Nat} {xs : Nat → Int32} {Q : tf_Q} {X : tf_X} {h : LH} {x4 : Int32} {x5 : Value} {x6 : Value} {y1 : Int32} (q : X 432 [.ref (500), .ref (240), .ref (270), .ref (297), .int (x4), x5, x6] [.int (0), .int (y1), .ref (240)] h) : lxL C n xs Q X 431 [.ref (500), .ref (240), .ref (270), .ref (297), .int (x4), x5, x6] [.int (y1), .ref (240)] h := by
  have hn : 298 ≤ 298 := Nat.le_refl _
  exact q
set_option maxRecDepth 100000 in
theorem go_L_432 {C : tf_C} {n : Nat} {xs : Nat → Int32} {Q : tf_Q} {X : tf_X} {h : LH} {x4 : Int32} {x5 : Value} {x6 : Value} {y1 : Int32} {y2 : Int32} (q : C 188 [.ref (240), .int (y1), .int (y2)] h (fun r g => X 435 [.ref (500), .ref (240), .ref (270), .ref (297), .int (x4), x5, x6] (r :: []) g)) : lxL C n xs Q X 432 [.ref (500), .ref (240), .ref (270), .ref (297), .int (x4), x5, x6] [.int (y2), .int (y1), .ref (240)] h := by
  have hn : 298 ≤ 298 := Nat.le_refl _
  exact ⟨Nat.le_of_ble_eq_true rfl, Nat.le_of_ble_eq_true rfl, q⟩
set_option maxRecDepth 100000 in
theorem go_L_435 {C : tf_C} {n : Nat} {xs : Nat → Int32} {Q : tf_Q} {X : tf_X} {h : LH} {x4 : Int32} {x5 : Value} {x6 : Value} {y0 : Int32} (q : (vp_in (x4 + 1) n) ∧ (vp_in (x4 + 2) n) ∧ ((xs (x4 + 2 : Int32).toNatClampNeg) = (0 : Int32) → X 456 [.ref (500), .ref (240), .ref (270), .ref (297), .int (x4), x5, x6] [.int (xs (x4 + 1 : Int32).toNatClampNeg), .ref (270)] h) ∧ (¬ (xs (x4 + 2 : Int32).toNatClampNeg) = (0 : Int32) → X 457 [.ref (500), .ref (240), .ref (270), .ref (297), .int (x4), x5, x6] [.int (1), .int (xs (x4 + 1 : Int32).toNatClampNeg), .ref (270)] h)) : lxL C n xs Q X 435 [.ref (500), .ref (240), .ref (270), .ref (297), .int (x4), x5, x6] [.int (y0)] h := by
  have hn : 298 ≤ 298 := Nat.le_refl _
  exact ⟨⟨rfl, q.1⟩, ⟨⟨rfl, q.2.1⟩, ⟨q.2.2.1, fun c1 => (q.2.2.2 c1)⟩⟩⟩
set_option maxRecDepth 100000 in
theorem go_L_456 {C : tf_C} {n : Nat} {xs : Nat → Int32} {Q : tf_Q} {X : tf_X} {h : LH} {x4 : Int32} {x5 : Value} {x6 : Value} {y1 : Int32} (q : X 457 [.ref (500), .ref (240), .ref (270), .ref (297), .int (x4), x5, x6] [.int (0), .int (y1), .ref (270)] h) : lxL C n xs Q X 456 [.ref (500), .ref (240), .ref (270), .ref (297), .int (x4), x5, x6] [.int (y1), .ref (270)] h := by
  have hn : 298 ≤ 298 := Nat.le_refl _
  exact q
set_option maxRecDepth 100000 in
theorem go_L_457 {C : tf_C} {n : Nat} {xs : Nat → Int32} {Q : tf_Q} {X : tf_X} {h : LH} {x4 : Int32} {x5 : Value} {x6 : Value} {y1 : Int32} {y2 : Int32} (q : C 63 [.ref (270), .int (y1), .int (y2)] h (fun r g => X 460 [.ref (500), .ref (240), .ref (270), .ref (297), .int (x4), x5, x6] (r :: []) g)) : lxL C n xs Q X 457 [.ref (500), .ref (240), .ref (270), .ref (297), .int (x4), x5, x6] [.int (y2), .int (y1), .ref (270)] h := by
  have hn : 298 ≤ 298 := Nat.le_refl _
  exact ⟨Nat.le_of_ble_eq_true rfl, Nat.le_of_ble_eq_true rfl, q⟩
set_option maxRecDepth 100000 in
theorem go_L_460 {C : tf_C} {n : Nat} {xs : Nat → Int32} {Q : tf_Q} {X : tf_X} {h : LH} {x4 : Int32} {x5 : Value} {x6 : Value} {y0 : Int32} (q : X 1234 [.ref (500), .ref (240), .ref (270), .ref (297), .int (x4), x5, x6] [] h) : lxL C n xs Q X 460 [.ref (500), .ref (240), .ref (270), .ref (297), .int (x4), x5, x6] [.int (y0)] h := by
  have hn : 298 ≤ 298 := Nat.le_refl _
  exact q
set_option maxRecDepth 100000 in
theorem go_L_464 {C : tf_C} {n : Nat} {xs : Nat → Int32} {Q : tf_Q} {X : tf_X} {h : LH} {x4 : Int32} {x5 : Value} {x6 : Value} (q : (vp_in (x4 + 1) n) ∧ (vp_in (x4 + 2) n) ∧ C 189 [.ref (240), .int (xs (x4 + 1 : Int32).toNatClampNeg), .int (xs (x4 + 2 : Int32).toNatClampNeg)] h (fun r g => X 480 [.ref (500), .ref (240), .ref (270), .ref (297), .int (x4), x5, x6] (r :: []) g)) : lxL C n xs Q X 464 [.ref (500), .ref (240), .ref (270), .ref (297), .int (x4), x5, x6] [] h := by
  have hn : 298 ≤ 298 := Nat.le_refl _
  exact ⟨⟨rfl, q.1⟩, ⟨⟨rfl, q.2.1⟩, ⟨Nat.le_of_ble_eq_true rfl, Nat.le_of_ble_eq_true rfl, q.2.2⟩⟩⟩
set_option maxRecDepth 100000 in
theorem go_L_480 {C : tf_C} {n : Nat} {xs : Nat → Int32} {Q : tf_Q} {X : tf_X} {h : LH} {x4 : Int32} {x5 : Value} {x6 : Value} {y0 : Int32} (q : (vp_in (x4 + 1) n) ∧ (vp_in (x4 + 2) n) ∧ C 64 [.ref (270), .int (xs (x4 + 1 : Int32).toNatClampNeg), .int (xs (x4 + 2 : Int32).toNatClampNeg)] h (fun r g => X 497 [.ref (500), .ref (240), .ref (270), .ref (297), .int (x4), x5, x6] (r :: []) g)) : lxL C n xs Q X 480 [.ref (500), .ref (240), .ref (270), .ref (297), .int (x4), x5, x6] [.int (y0)] h := by
  have hn : 298 ≤ 298 := Nat.le_refl _
  exact ⟨⟨rfl, q.1⟩, ⟨⟨rfl, q.2.1⟩, ⟨Nat.le_of_ble_eq_true rfl, Nat.le_of_ble_eq_true rfl, q.2.2⟩⟩⟩
set_option maxRecDepth 100000 in
theorem go_L_497 {C : tf_C} {n : Nat} {xs : Nat → Int32} {Q : tf_Q} {X : tf_X} {h : LH} {x4 : Int32} {x5 : Value} {x6 : Value} {y0 : Int32} (q : X 1234 [.ref (500), .ref (240), .ref (270), .ref (297), .int (x4), x5, x6] [] h) : lxL C n xs Q X 497 [.ref (500), .ref (240), .ref (270), .ref (297), .int (x4), x5, x6] [.int (y0)] h := by
  have hn : 298 ≤ 298 := Nat.le_refl _
  exact q
set_option maxRecDepth 100000 in
theorem go_L_501 {C : tf_C} {n : Nat} {xs : Nat → Int32} {Q : tf_Q} {X : tf_X} {h : LH} {x4 : Int32} {x5 : Value} {x6 : Value} (q : (vp_in (x4 + 1) n) ∧ (vp_in (x4 + 2) n) ∧ C 190 [.ref (240), .int (xs (x4 + 1 : Int32).toNatClampNeg), .int (xs (x4 + 2 : Int32).toNatClampNeg)] h (fun r g => X 517 [.ref (500), .ref (240), .ref (270), .ref (297), .int (x4), x5, x6] (r :: []) g)) : lxL C n xs Q X 501 [.ref (500), .ref (240), .ref (270), .ref (297), .int (x4), x5, x6] [] h := by
  have hn : 298 ≤ 298 := Nat.le_refl _
  exact ⟨⟨rfl, q.1⟩, ⟨⟨rfl, q.2.1⟩, ⟨Nat.le_of_ble_eq_true rfl, Nat.le_of_ble_eq_true rfl, q.2.2⟩⟩⟩
set_option maxRecDepth 100000 in
theorem go_L_517 {C : tf_C} {n : Nat} {xs : Nat → Int32} {Q : tf_Q} {X : tf_X} {h : LH} {x4 : Int32} {x5 : Value} {x6 : Value} {y0 : Int32} (q : (vp_in (x4 + 1) n) ∧ (vp_in (x4 + 2) n) ∧ C 65 [.ref (270), .int (xs (x4 + 1 : Int32).toNatClampNeg), .int (xs (x4 + 2 : Int32).toNatClampNeg)] h (fun r g => X 534 [.ref (500), .ref (240), .ref (270), .ref (297), .int (x4), x5, x6] (r :: []) g)) : lxL C n xs Q X 517 [.ref (500), .ref (240), .ref (270), .ref (297), .int (x4), x5, x6] [.int (y0)] h := by
  have hn : 298 ≤ 298 := Nat.le_refl _
  exact ⟨⟨rfl, q.1⟩, ⟨⟨rfl, q.2.1⟩, ⟨Nat.le_of_ble_eq_true rfl, Nat.le_of_ble_eq_true rfl, q.2.2⟩⟩⟩
set_option maxRecDepth 100000 in
theorem go_L_534 {C : tf_C} {n : Nat} {xs : Nat → Int32} {Q : tf_Q} {X : tf_X} {h : LH} {x4 : Int32} {x5 : Value} {x6 : Value} {y0 : Int32} (q : X 1234 [.ref (500), .ref (240), .ref (270), .ref (297), .int (x4), x5, x6] [] h) : lxL C n xs Q X 534 [.ref (500), .ref (240), .ref (270), .ref (297), .int (x4), x5, x6] [.int (y0)] h := by
  have hn : 298 ≤ 298 := Nat.le_refl _
  exact q
set_option maxRecDepth 100000 in
theorem go_L_538 {C : tf_C} {n : Nat} {xs : Nat → Int32} {Q : tf_Q} {X : tf_X} {h : LH} {x4 : Int32} {x5 : Value} {x6 : Value} (q : C 191 [.ref (240)] h (fun r g => X 542 [.ref (500), .ref (240), .ref (270), .ref (297), .int (x4), x5, x6] [] g)) : lxL C n xs Q X 538 [.ref (500), .ref (240), .ref (270), .ref (297), .int (x4), x5, x6] [] h := by
  have hn : 298 ≤ 298 := Nat.le_refl _
  exact ⟨Nat.le_of_ble_eq_true rfl, Nat.le_of_ble_eq_true rfl, q⟩
set_option maxRecDepth 100000 in
theorem go_L_542 {C : tf_C} {n : Nat} {xs : Nat → Int32} {Q : tf_Q} {X : tf_X} {h : LH} {x4 : Int32} {x5 : Value} {x6 : Value} (q : C 66 [.ref (270)] h (fun r g => X 546 [.ref (500), .ref (240), .ref (270), .ref (297), .int (x4), x5, x6] [] g)) : lxL C n xs Q X 542 [.ref (500), .ref (240), .ref (270), .ref (297), .int (x4), x5, x6] [] h := by
  have hn : 298 ≤ 298 := Nat.le_refl _
  exact ⟨Nat.le_of_ble_eq_true rfl, Nat.le_of_ble_eq_true rfl, q⟩
set_option maxRecDepth 100000 in
theorem go_L_546 {C : tf_C} {n : Nat} {xs : Nat → Int32} {Q : tf_Q} {X : tf_X} {h : LH} {x4 : Int32} {x5 : Value} {x6 : Value} (q : X 1234 [.ref (500), .ref (240), .ref (270), .ref (297), .int (x4), x5, x6] [] h) : lxL C n xs Q X 546 [.ref (500), .ref (240), .ref (270), .ref (297), .int (x4), x5, x6] [] h := by
  have hn : 298 ≤ 298 := Nat.le_refl _
  exact q
set_option maxRecDepth 100000 in
theorem go_L_549 {C : tf_C} {n : Nat} {xs : Nat → Int32} {Q : tf_Q} {X : tf_X} {h : LH} {x4 : Int32} {x5 : Value} {x6 : Value} (q : C 192 [.ref (240)] h (fun r g => X 553 [.ref (500), .ref (240), .ref (270), .ref (297), .int (x4), x5, x6] (r :: []) g)) : lxL C n xs Q X 549 [.ref (500), .ref (240), .ref (270), .ref (297), .int (x4), x5, x6] [] h := by
  have hn : 298 ≤ 298 := Nat.le_refl _
  exact ⟨Nat.le_of_ble_eq_true rfl, Nat.le_of_ble_eq_true rfl, q⟩
set_option maxRecDepth 100000 in
theorem go_L_553 {C : tf_C} {n : Nat} {xs : Nat → Int32} {Q : tf_Q} {X : tf_X} {h : LH} {x4 : Int32} {x5 : Value} {x6 : Value} {y0 : Int32} (q : C 69 [.ref (270)] h (fun r g => X 558 [.ref (500), .ref (240), .ref (270), .ref (297), .int (x4), x5, x6] (r :: []) g)) : lxL C n xs Q X 553 [.ref (500), .ref (240), .ref (270), .ref (297), .int (x4), x5, x6] [.int (y0)] h := by
  have hn : 298 ≤ 298 := Nat.le_refl _
  exact ⟨Nat.le_of_ble_eq_true rfl, Nat.le_of_ble_eq_true rfl, q⟩
set_option maxRecDepth 100000 in
theorem go_L_558 {C : tf_C} {n : Nat} {xs : Nat → Int32} {Q : tf_Q} {X : tf_X} {h : LH} {x4 : Int32} {x5 : Value} {x6 : Value} {y0 : Int32} (q : X 1234 [.ref (500), .ref (240), .ref (270), .ref (297), .int (x4), x5, x6] [] h) : lxL C n xs Q X 558 [.ref (500), .ref (240), .ref (270), .ref (297), .int (x4), x5, x6] [.int (y0)] h := by
  have hn : 298 ≤ 298 := Nat.le_refl _
  exact q
set_option maxRecDepth 100000 in
theorem go_L_562 {C : tf_C} {n : Nat} {xs : Nat → Int32} {Q : tf_Q} {X : tf_X} {h : LH} {x4 : Int32} {x5 : Value} {x6 : Value} (q : C 193 [.ref (240)] h (fun r g => X 566 [.ref (500), .ref (240), .ref (270), .ref (297), .int (x4), x5, x6] (r :: []) g)) : lxL C n xs Q X 562 [.ref (500), .ref (240), .ref (270), .ref (297), .int (x4), x5, x6] [] h := by
  have hn : 298 ≤ 298 := Nat.le_refl _
  exact ⟨Nat.le_of_ble_eq_true rfl, Nat.le_of_ble_eq_true rfl, q⟩
set_option maxRecDepth 100000 in
theorem go_L_566 {C : tf_C} {n : Nat} {xs : Nat → Int32} {Q : tf_Q} {X : tf_X} {h : LH} {x4 : Int32} {x5 : Value} {x6 : Value} {y0 : Int32} (q : C 70 [.ref (270)] h (fun r g => X 571 [.ref (500), .ref (240), .ref (270), .ref (297), .int (x4), x5, x6] (r :: []) g)) : lxL C n xs Q X 566 [.ref (500), .ref (240), .ref (270), .ref (297), .int (x4), x5, x6] [.int (y0)] h := by
  have hn : 298 ≤ 298 := Nat.le_refl _
  exact ⟨Nat.le_of_ble_eq_true rfl, Nat.le_of_ble_eq_true rfl, q⟩
set_option maxRecDepth 100000 in
theorem go_L_571 {C : tf_C} {n : Nat} {xs : Nat → Int32} {Q : tf_Q} {X : tf_X} {h : LH} {x4 : Int32} {x5 : Value} {x6 : Value} {y0 : Int32} (q : X 1234 [.ref (500), .ref (240), .ref (270), .ref (297), .int (x4), x5, x6] [] h) : lxL C n xs Q X 571 [.ref (500), .ref (240), .ref (270), .ref (297), .int (x4), x5, x6] [.int (y0)] h := by
  have hn : 298 ≤ 298 := Nat.le_refl _
  exact q
set_option maxRecDepth 100000 in
theorem go_L_575 {C : tf_C} {n : Nat} {xs : Nat → Int32} {Q : tf_Q} {X : tf_X} {h : LH} {x4 : Int32} {x5 : Value} {x6 : Value} (q : (vp_in (x4 + 1) n) ∧ C 194 [.ref (240), .int (xs (x4 + 1 : Int32).toNatClampNeg)] h (fun r g => X 585 [.ref (500), .ref (240), .ref (270), .ref (297), .int (x4), x5, x6] (r :: []) g)) : lxL C n xs Q X 575 [.ref (500), .ref (240), .ref (270), .ref (297), .int (x4), x5, x6] [] h := by
  have hn : 298 ≤ 298 := Nat.le_refl _
  exact ⟨⟨rfl, q.1⟩, ⟨Nat.le_of_ble_eq_true rfl, Nat.le_of_ble_eq_true rfl, q.2⟩⟩
set_option maxRecDepth 100000 in
theorem go_L_585 {C : tf_C} {n : Nat} {xs : Nat → Int32} {Q : tf_Q} {X : tf_X} {h : LH} {x4 : Int32} {x5 : Value} {x6 : Value} {y0 : Int32} (q : (vp_in (x4 + 1) n) ∧ C 72 [.ref (270), .int (xs (x4 + 1 : Int32).toNatClampNeg)] h (fun r g => X 596 [.ref (500), .ref (240), .ref (270), .ref (297), .int (x4), x5, x6] (r :: []) g)) : lxL C n xs Q X 585 [.ref (500), .ref (240), .ref (270), .ref (297), .int (x4), x5, x6] [.int (y0)] h := by
  have hn : 298 ≤ 298 := Nat.le_refl _
  exact ⟨⟨rfl, q.1⟩, ⟨Nat.le_of_ble_eq_true rfl, Nat.le_of_ble_eq_true rfl, q.2⟩⟩
set_option maxRecDepth 100000 in
theorem go_L_596 {C : tf_C} {n : Nat} {xs : Nat → Int32} {Q : tf_Q} {X : tf_X} {h : LH} {x4 : Int32} {x5 : Value} {x6 : Value} {y0 : Int32} (q : X 1234 [.ref (500), .ref (240), .ref (270), .ref (297), .int (x4), x5, x6] [] h) : lxL C n xs Q X 596 [.ref (500), .ref (240), .ref (270), .ref (297), .int (x4), x5, x6] [.int (y0)] h := by
  have hn : 298 ≤ 298 := Nat.le_refl _
  exact q
set_option maxRecDepth 100000 in
theorem go_L_600 {C : tf_C} {n : Nat} {xs : Nat → Int32} {Q : tf_Q} {X : tf_X} {h : LH} {x4 : Int32} {x5 : Value} {x6 : Value} (q : (vp_in (x4 + 1) n) ∧ (vp_in (x4 + 2) n) ∧ X 614 [.ref (500), .ref (240), .ref (270), .ref (297), .int (x4), x5, x6] [.ref (297), .int (xs (x4 + 2 : Int32).toNatClampNeg), .int (xs (x4 + 1 : Int32).toNatClampNeg), .ref (240)] h) : lxL C n xs Q X 600 [.ref (500), .ref (240), .ref (270), .ref (297), .int (x4), x5, x6] [] h := by
  have hn : 298 ≤ 298 := Nat.le_refl _
  exact ⟨⟨rfl, q.1⟩, ⟨⟨rfl, q.2.1⟩, q.2.2⟩⟩
set_option maxRecDepth 100000 in
theorem go_L_617 {C : tf_C} {n : Nat} {xs : Nat → Int32} {Q : tf_Q} {X : tf_X} {h : LH} {x4 : Int32} {x5 : Value} {x6 : Value} {y0 : Int32} (q : (vp_in (x4 + 1) n) ∧ (vp_in (x4 + 2) n) ∧ C 73 [.ref (270), .int (xs (x4 + 1 : Int32).toNatClampNeg), .int (xs (x4 + 2 : Int32).toNatClampNeg)] h (fun r g => X 635 [.ref (500), .ref (240), .ref (270), .ref (297), .int (x4), .int (y0), x6] (r :: []) g)) : lxL C n xs Q X 617 [.ref (500), .ref (240), .ref (270), .ref (297), .int (x4), x5, x6] [.int (y0)] h := by
  have hn : 298 ≤ 298 := Nat.le_refl _
  exact ⟨⟨rfl, q.1⟩, ⟨⟨rfl, q.2.1⟩, ⟨Nat.le_of_ble_eq_true rfl, Nat.le_of_ble_eq_true rfl, q.2.2⟩⟩⟩
set_option maxRecDepth 100000 in
theorem go_L_635 {C : tf_C} {n : Nat} {xs : Nat → Int32} {Q : tf_Q} {X : tf_X} {h : LH} {x4 : Int32} {x5 : Int32} {x6 : Value} {y0 : Int32} (q : X 1234 [.ref (500), .ref (240), .ref (270), .ref (297), .int (x4), .int (x5), .int (y0)] [] h) : lxL C n xs Q X 635 [.ref (500), .ref (240), .ref (270), .ref (297), .int (x4), .int (x5), x6] [.int (y0)] h := by
  have hn : 298 ≤ 298 := Nat.le_refl _
  exact q
set_option maxRecDepth 100000 in
theorem go_L_640 {C : tf_C} {n : Nat} {xs : Nat → Int32} {Q : tf_Q} {X : tf_X} {h : LH} {x4 : Int32} {x5 : Value} {x6 : Value} (q : (vp_in (x4 + 1) n) ∧ (vp_in (x4 + 2) n) ∧ X 654 [.ref (500), .ref (240), .ref (270), .ref (297), .int (x4), x5, x6] [.ref (297), .int (xs (x4 + 2 : Int32).toNatClampNeg), .int (xs (x4 + 1 : Int32).toNatClampNeg), .ref (240)] h) : lxL C n xs Q X 640 [.ref (500), .ref (240), .ref (270), .ref (297), .int (x4), x5, x6] [] h := by
  have hn : 298 ≤ 298 := Nat.le_refl _
  exact ⟨⟨rfl, q.1⟩, ⟨⟨rfl, q.2.1⟩, q.2.2⟩⟩
set_option maxRecDepth 100000 in
theorem go_L_657 {C : tf_C} {n : Nat} {xs : Nat → Int32} {Q : tf_Q} {X : tf_X} {h : LH} {x4 : Int32} {x5 : Value} {x6 : Value} {y0 : Int32} (q : (vp_in (x4 + 1) n) ∧ (vp_in (x4 + 2) n) ∧ C 75 [.ref (270), .int (xs (x4 + 1 : Int32).toNatClampNeg), .int (xs (x4 + 2 : Int32).toNatClampNeg)] h (fun r g => X 675 [.ref (500), .ref (240), .ref (270), .ref (297), .int (x4), .int (y0), x6] (r :: []) g)) : lxL C n xs Q X 657 [.ref (500), .ref (240), .ref (270), .ref (297), .int (x4), x5, x6] [.int (y0)] h := by
  have hn : 298 ≤ 298 := Nat.le_refl _
  exact ⟨⟨rfl, q.1⟩, ⟨⟨rfl, q.2.1⟩, ⟨Nat.le_of_ble_eq_true rfl, Nat.le_of_ble_eq_true rfl, q.2.2⟩⟩⟩
set_option maxRecDepth 100000 in
theorem go_L_675 {C : tf_C} {n : Nat} {xs : Nat → Int32} {Q : tf_Q} {X : tf_X} {h : LH} {x4 : Int32} {x5 : Int32} {x6 : Value} {y0 : Int32} (q : X 1234 [.ref (500), .ref (240), .ref (270), .ref (297), .int (x4), .int (x5), .int (y0)] [] h) : lxL C n xs Q X 675 [.ref (500), .ref (240), .ref (270), .ref (297), .int (x4), .int (x5), x6] [.int (y0)] h := by
  have hn : 298 ≤ 298 := Nat.le_refl _
  exact q
set_option maxRecDepth 100000 in
theorem go_L_680 {C : tf_C} {n : Nat} {xs : Nat → Int32} {Q : tf_Q} {X : tf_X} {h : LH} {x4 : Int32} {x5 : Value} {x6 : Value} (q : (vp_in (x4 + 1) n) ∧ C 195 [.ref (240), .int (xs (x4 + 1 : Int32).toNatClampNeg)] h (fun r g => X 690 [.ref (500), .ref (240), .ref (270), .ref (297), .int (x4), x5, x6] (r :: []) g)) : lxL C n xs Q X 680 [.ref (500), .ref (240), .ref (270), .ref (297), .int (x4), x5, x6] [] h := by
  have hn : 298 ≤ 298 := Nat.le_refl _
  exact ⟨⟨rfl, q.1⟩, ⟨Nat.le_of_ble_eq_true rfl, Nat.le_of_ble_eq_true rfl, q.2⟩⟩
set_option maxRecDepth 100000 in
theorem go_L_690 {C : tf_C} {n : Nat} {xs : Nat → Int32} {Q : tf_Q} {X : tf_X} {h : LH} {x4 : Int32} {x5 : Value} {x6 : Value} {y0 : Int32} (q : (vp_in (x4 + 1) n) ∧ C 77 [.ref (270), .int (xs (x4 + 1 : Int32).toNatClampNeg)] h (fun r g => X 701 [.ref (500), .ref (240), .ref (270), .ref (297), .int (x4), x5, x6] (r :: []) g)) : lxL C n xs Q X 690 [.ref (500), .ref (240), .ref (270), .ref (297), .int (x4), x5, x6] [.int (y0)] h := by
  have hn : 298 ≤ 298 := Nat.le_refl _
  exact ⟨⟨rfl, q.1⟩, ⟨Nat.le_of_ble_eq_true rfl, Nat.le_of_ble_eq_true rfl, q.2⟩⟩
set_option maxRecDepth 100000 in
theorem go_L_701 {C : tf_C} {n : Nat} {xs : Nat → Int32} {Q : tf_Q} {X : tf_X} {h : LH} {x4 : Int32} {x5 : Value} {x6 : Value} {y0 : Int32} (q : X 1234 [.ref (500), .ref (240), .ref (270), .ref (297), .int (x4), x5, x6] [] h) : lxL C n xs Q X 701 [.ref (500), .ref (240), .ref (270), .ref (297), .int (x4), x5, x6] [.int (y0)] h := by
  have hn : 298 ≤ 298 := Nat.le_refl _
  exact q
set_option maxRecDepth 100000 in
theorem go_L_705 {C : tf_C} {n : Nat} {xs : Nat → Int32} {Q : tf_Q} {X : tf_X} {h : LH} {x4 : Int32} {x5 : Value} {x6 : Value} (q : (vp_in (x4 + 1) n) ∧ (vp_in (x4 + 2) n) ∧ (vp_in (x4 + 3) n) ∧ C 196 [.ref (240), .int (xs (x4 + 1 : Int32).toNatClampNeg), .int (xs (x4 + 2 : Int32).toNatClampNeg), .int (xs (x4 + 3 : Int32).toNatClampNeg)] h (fun r g => X 727 [.ref (500), .ref (240), .ref (270), .ref (297), .int (x4), x5, x6] (r :: []) g)) : lxL C n xs Q X 705 [.ref (500), .ref (240), .ref (270), .ref (297), .int (x4), x5, x6] [] h := by
  have hn : 298 ≤ 298 := Nat.le_refl _
  exact ⟨⟨rfl, q.1⟩, ⟨⟨rfl, q.2.1⟩, ⟨⟨rfl, q.2.2.1⟩, ⟨Nat.le_of_ble_eq_true rfl, Nat.le_of_ble_eq_true rfl, q.2.2.2⟩⟩⟩⟩
set_option maxRecDepth 100000 in
theorem go_L_727 {C : tf_C} {n : Nat} {xs : Nat → Int32} {Q : tf_Q} {X : tf_X} {h : LH} {x4 : Int32} {x5 : Value} {x6 : Value} {y0 : Int32} (q : (vp_in (x4 + 1) n) ∧ (vp_in (x4 + 2) n) ∧ (vp_in (x4 + 3) n) ∧ C 79 [.ref (270), .int (xs (x4 + 1 : Int32).toNatClampNeg), .int (xs (x4 + 2 : Int32).toNatClampNeg), .int (xs (x4 + 3 : Int32).toNatClampNeg)] h (fun r g => X 750 [.ref (500), .ref (240), .ref (270), .ref (297), .int (x4), x5, x6] (r :: []) g)) : lxL C n xs Q X 727 [.ref (500), .ref (240), .ref (270), .ref (297), .int (x4), x5, x6] [.int (y0)] h := by
  have hn : 298 ≤ 298 := Nat.le_refl _
  exact ⟨⟨rfl, q.1⟩, ⟨⟨rfl, q.2.1⟩, ⟨⟨rfl, q.2.2.1⟩, ⟨Nat.le_of_ble_eq_true rfl, Nat.le_of_ble_eq_true rfl, q.2.2.2⟩⟩⟩⟩
set_option maxRecDepth 100000 in
theorem go_L_750 {C : tf_C} {n : Nat} {xs : Nat → Int32} {Q : tf_Q} {X : tf_X} {h : LH} {x4 : Int32} {x5 : Value} {x6 : Value} {y0 : Int32} (q : X 1234 [.ref (500), .ref (240), .ref (270), .ref (297), .int (x4), x5, x6] [] h) : lxL C n xs Q X 750 [.ref (500), .ref (240), .ref (270), .ref (297), .int (x4), x5, x6] [.int (y0)] h := by
  have hn : 298 ≤ 298 := Nat.le_refl _
  exact q
set_option maxRecDepth 100000 in
theorem go_L_754 {C : tf_C} {n : Nat} {xs : Nat → Int32} {Q : tf_Q} {X : tf_X} {h : LH} {x4 : Int32} {x5 : Value} {x6 : Value} (q : (vp_in (x4 + 1) n) ∧ C 197 [.ref (240), .int (xs (x4 + 1 : Int32).toNatClampNeg)] h (fun r g => X 764 [.ref (500), .ref (240), .ref (270), .ref (297), .int (x4), x5, x6] (r :: []) g)) : lxL C n xs Q X 754 [.ref (500), .ref (240), .ref (270), .ref (297), .int (x4), x5, x6] [] h := by
  have hn : 298 ≤ 298 := Nat.le_refl _
  exact ⟨⟨rfl, q.1⟩, ⟨Nat.le_of_ble_eq_true rfl, Nat.le_of_ble_eq_true rfl, q.2⟩⟩
set_option maxRecDepth 100000 in
theorem go_L_764 {C : tf_C} {n : Nat} {xs : Nat → Int32} {Q : tf_Q} {X : tf_X} {h : LH} {x4 : Int32} {x5 : Value} {x6 : Value} {y0 : Int32} (q : (vp_in (x4 + 1) n) ∧ C 80 [.ref (270), .int (xs (x4 + 1 : Int32).toNatClampNeg)] h (fun r g => X 775 [.ref (500), .ref (240), .ref (270), .ref (297), .int (x4), x5, x6] (r :: []) g)) : lxL C n xs Q X 764 [.ref (500), .ref (240), .ref (270), .ref (297), .int (x4), x5, x6] [.int (y0)] h := by
  have hn : 298 ≤ 298 := Nat.le_refl _
  exact ⟨⟨rfl, q.1⟩, ⟨Nat.le_of_ble_eq_true rfl, Nat.le_of_ble_eq_true rfl, q.2⟩⟩
set_option maxRecDepth 100000 in
theorem go_L_775 {C : tf_C} {n : Nat} {xs : Nat → Int32} {Q : tf_Q} {X : tf_X} {h : LH} {x4 : Int32} {x5 : Value} {x6 : Value} {y0 : Int32} (q : X 1234 [.ref (500), .ref (240), .ref (270), .ref (297), .int (x4), x5, x6] [] h) : lxL C n xs Q X 775 [.ref (500), .ref (240), .ref (270), .ref (297), .int (x4), x5, x6] [.int (y0)] h := by
  have hn : 298 ≤ 298 := Nat.le_refl _
  exact q
set_option maxRecDepth 100000 in
theorem go_L_779 {C : tf_C} {n : Nat} {xs : Nat → Int32} {Q : tf_Q} {X : tf_X} {h : LH} {x4 : Int32} {x5 : Value} {x6 : Value} (q : (vp_in (x4 + 1) n) ∧ (vp_in (x4 + 2) n) ∧ C 198 [.ref (240), .int (xs (x4 + 1 : Int32).toNatClampNeg), .int (xs (x4 + 2 : Int32).toNatClampNeg)] h (fun r g => X 795 [.ref (500), .ref (240), .ref (270), .ref (297), .int (x4), x5, x6] (r :: []) g)) : lxL C n xs Q X 779 [.ref (500), .ref (240), .ref (270), .ref (297), .int (x4), x5, x6] [] h := by
  have hn : 298 ≤ 298 := Nat.le_refl _
  exact ⟨⟨rfl, q.1⟩, ⟨⟨rfl, q.2.1⟩, ⟨Nat.le_of_ble_eq_true rfl, Nat.le_of_ble_eq_true rfl, q.2.2⟩⟩⟩
set_option maxRecDepth 100000 in
theorem go_L_795 {C : tf_C} {n : Nat} {xs : Nat → Int32} {Q : tf_Q} {X : tf_X} {h : LH} {x4 : Int32} {x5 : Value} {x6 : Value} {y0 : Int32} (q : (vp_in (x4 + 1) n) ∧ (vp_in (x4 + 2) n) ∧ C 81 [.ref (270), .int (xs (x4 + 1 : Int32).toNatClampNeg), .int (xs (x4 + 2 : Int32).toNatClampNeg)] h (fun r g => X 812 [.ref (500), .ref (240), .ref (270), .ref (297), .int (x4), x5, x6] (r :: []) g)) : lxL C n xs Q X 795 [.ref (500), .ref (240), .ref (270), .ref (297), .int (x4), x5, x6] [.int (y0)] h := by
  have hn : 298 ≤ 298 := Nat.le_refl _
  exact ⟨⟨rfl, q.1⟩, ⟨⟨rfl, q.2.1⟩, ⟨Nat.le_of_ble_eq_true rfl, Nat.le_of_ble_eq_true rfl, q.2.2⟩⟩⟩
set_option maxRecDepth 100000 in
theorem go_L_812 {C : tf_C} {n : Nat} {xs : Nat → Int32} {Q : tf_Q} {X : tf_X} {h : LH} {x4 : Int32} {x5 : Value} {x6 : Value} {y0 : Int32} (q : X 1234 [.ref (500), .ref (240), .ref (270), .ref (297), .int (x4), x5, x6] [] h) : lxL C n xs Q X 812 [.ref (500), .ref (240), .ref (270), .ref (297), .int (x4), x5, x6] [.int (y0)] h := by
  have hn : 298 ≤ 298 := Nat.le_refl _
  exact q
set_option maxRecDepth 100000 in
theorem go_L_816 {C : tf_C} {n : Nat} {xs : Nat → Int32} {Q : tf_Q} {X : tf_X} {h : LH} {x4 : Int32} {x5 : Value} {x6 : Value} (q : (vp_in (x4 + 1) n) ∧ C 199 [.ref (240), .int (xs (x4 + 1 : Int32).toNatClampNeg)] h (fun r g => X 826 [.ref (500), .ref (240), .ref (270), .ref (297), .int (x4), x5, x6] (r :: []) g)) : lxL C n xs Q X 816 [.ref (500), .ref (240), .ref (270), .ref (297), .int (x4), x5, x6] [] h := by
  have hn : 298 ≤ 298 := Nat.le_refl _
  exact ⟨⟨rfl, q.1⟩, ⟨Nat.le_of_ble_eq_true rfl, Nat.le_of_ble_eq_true rfl, q.2⟩⟩
set_option maxRecDepth 100000 in
theorem go_L_826 {C : tf_C} {n : Nat} {xs : Nat → Int32} {Q : tf_Q} {X : tf_X} {h : LH} {x4 : Int32} {x5 : Value} {x6 : Value} {y0 : Int32} (q : (vp_in (x4 + 1) n) ∧ C 83 [.ref (270), .int (xs (x4 + 1 : Int32).toNatClampNeg)] h (fun r g => X 837 [.ref (500), .ref (240), .ref (270), .ref (297), .int (x4), x5, x6] (r :: []) g)) : lxL C n xs Q X 826 [.ref (500), .ref (240), .ref (270), .ref (297), .int (x4), x5, x6] [.int (y0)] h := by
  have hn : 298 ≤ 298 := Nat.le_refl _
  exact ⟨⟨rfl, q.1⟩, ⟨Nat.le_of_ble_eq_true rfl, Nat.le_of_ble_eq_true rfl, q.2⟩⟩
set_option maxRecDepth 100000 in
theorem go_L_837 {C : tf_C} {n : Nat} {xs : Nat → Int32} {Q : tf_Q} {X : tf_X} {h : LH} {x4 : Int32} {x5 : Value} {x6 : Value} {y0 : Int32} (q : X 1234 [.ref (500), .ref (240), .ref (270), .ref (297), .int (x4), x5, x6] [] h) : lxL C n xs Q X 837 [.ref (500), .ref (240), .ref (270), .ref (297), .int (x4), x5, x6] [.int (y0)] h := by
  have hn : 298 ≤ 298 := Nat.le_refl _
  exact q
set_option maxRecDepth 100000 in
theorem go_L_841 {C : tf_C} {n : Nat} {xs : Nat → Int32} {Q : tf_Q} {X : tf_X} {h : LH} {x4 : Int32} {x5 : Value} {x6 : Value} (q : (vp_in (x4 + 1) n) ∧ (vp_in (x4 + 2) n) ∧ ((xs (x4 + 2 : Int32).toNatClampNeg) = (0 : Int32) → X 861 [.ref (500), .ref (240), .ref (270), .ref (297), .int (x4), x5, x6] [.int (xs (x4 + 1 : Int32).toNatClampNeg), .ref (240)] h) ∧ (¬ (xs (x4 + 2 : Int32).toNatClampNeg) = (0 : Int32) → X 862 [.ref (500), .ref (240), .ref (270), .ref (297), .int (x4), x5, x6] [.int (1), .int (xs (x4 + 1 : Int32).toNatClampNeg), .ref (240)] h)) : lxL C n xs Q X 841 [.ref (500), .ref (240), .ref (270), .ref (297), .int (x4), x5, x6] [] h := by
  have hn : 298 ≤ 298 := Nat.le_refl _
  exact ⟨⟨rfl, q.1⟩, ⟨⟨rfl, q.2.1⟩, ⟨q.2.2.1, fun c1 => (q.2.2.2 c1)⟩⟩⟩
set_option maxRecDepth 100000 in
theorem go_L_861 {C : tf_C} {n : Nat} {xs : Nat → Int32} {Q : tf_Q} {X : tf_X} {h : LH} {x4 : Int32} {x5 : Value} {x6 : Value} {y1 : Int32} (q : X 862 [.ref (500), .ref (240), .ref (270), .ref (297), .int (x4), x5, x6] [.int (0), .int (y1), .ref (240)] h) : lxL C n xs Q X 861 [.ref (500), .ref (240), .ref (270), .ref (297), .int (x4), x5, x6] [.int (y1), .ref (240)] h := by
  have hn : 298 ≤ 298 := Nat.le_refl _
  exact q
set_option maxRecDepth 100000 in
theorem go_L_862 {C : tf_C} {n : Nat} {xs : Nat → Int32} {Q : tf_Q} {X : tf_X} {h : LH} {x4 : Int32} {x5 : Value} {x6 : Value} {y1 : Int32} {y2 : Int32} (q : C 200 [.ref (240), .int (y1), .int (y2)] h (fun r g => X 865 [.ref (500), .ref (240), .ref (270), .ref (297), .int (x4), x5, x6] (r :: []) g)) : lxL C n xs Q X 862 [.ref (500), .ref (240), .ref (270), .ref (297), .int (x4), x5, x6] [.int (y2), .int (y1), .ref (240)] h := by
  have hn : 298 ≤ 298 := Nat.le_refl _
  exact ⟨Nat.le_of_ble_eq_true rfl, Nat.le_of_ble_eq_true rfl, q⟩
set_option maxRecDepth 100000 in
theorem go_L_865 {C : tf_C} {n : Nat} {xs : Nat → Int32} {Q : tf_Q} {X : tf_X} {h : LH} {x4 : Int32} {x5 : Value} {x6 : Value} {y0 : Int32} (q : (vp_in (x4 + 1) n) ∧ (vp_in (x4 + 2) n) ∧ ((xs (x4 + 2 : Int32).toNatClampNeg) = (0 : Int32) → X 886 [.ref (500), .ref (240), .ref (270), .ref (297), .int (x4), x5, x6] [.int (xs (x4 + 1 : Int32).toNatClampNeg), .ref (270)] h) ∧ (¬ (xs (x4 + 2 : Int32).toNatClampNeg) = (0 : Int32) → X 887 [.ref (500), .ref (240), .ref (270), .ref (297), .int (x4), x5, x6] [.int (1), .int (xs (x4 + 1 : Int32).toNatClampNeg), .ref (270)] h)) : lxL C n xs Q X 865 [.ref (500), .ref (240), .ref (270), .ref (297), .int (x4), x5, x6] [.int (y0)] h := by
  have hn : 298 ≤ 298 := Nat.le_refl _
  exact ⟨⟨rfl, q.1⟩, ⟨⟨rfl, q.2.1⟩, ⟨q.2.2.1, fun c1 => (q.2.2.2 c1)⟩⟩⟩
set_option maxRecDepth 100000 in
theorem go_L_886 {C : tf_C} {n : Nat} {xs : Nat → Int32} {Q : tf_Q} {X : tf_X} {h : LH} {x4 : Int32} {x5 : Value} {x6 : Value} {y1 : Int32} (q : X 887 [.ref (500), .ref (240), .ref (270), .ref (297), .int (x4), x5, x6] [.int (0), .int (y1), .ref (270)] h) : lxL C n xs Q X 886 [.ref (500), .ref (240), .ref (270), .ref (297), .int (x4), x5, x6] [.int (y1), .ref (270)] h := by
  have hn : 298 ≤ 298 := Nat.le_refl _
  exact q
set_option maxRecDepth 100000 in
theorem go_L_887 {C : tf_C} {n : Nat} {xs : Nat → Int32} {Q : tf_Q} {X : tf_X} {h : LH} {x4 : Int32} {x5 : Value} {x6 : Value} {y1 : Int32} {y2 : Int32} (q : C 85 [.ref (270), .int (y1), .int (y2)] h (fun r g => X 890 [.ref (500), .ref (240), .ref (270), .ref (297), .int (x4), x5, x6] (r :: []) g)) : lxL C n xs Q X 887 [.ref (500), .ref (240), .ref (270), .ref (297), .int (x4), x5, x6] [.int (y2), .int (y1), .ref (270)] h := by
  have hn : 298 ≤ 298 := Nat.le_refl _
  exact ⟨Nat.le_of_ble_eq_true rfl, Nat.le_of_ble_eq_true rfl, q⟩
set_option maxRecDepth 100000 in
theorem go_L_890 {C : tf_C} {n : Nat} {xs : Nat → Int32} {Q : tf_Q} {X : tf_X} {h : LH} {x4 : Int32} {x5 : Value} {x6 : Value} {y0 : Int32} (q : X 1234 [.ref (500), .ref (240), .ref (270), .ref (297), .int (x4), x5, x6] [] h) : lxL C n xs Q X 890 [.ref (500), .ref (240), .ref (270), .ref (297), .int (x4), x5, x6] [.int (y0)] h := by
  have hn : 298 ≤ 298 := Nat.le_refl _
  exact q
set_option maxRecDepth 100000 in
theorem go_L_894 {C : tf_C} {n : Nat} {xs : Nat → Int32} {Q : tf_Q} {X : tf_X} {h : LH} {x4 : Int32} {x5 : Value} {x6 : Value} (q : (vp_in (x4 + 1) n) ∧ (vp_in (x4 + 2) n) ∧ C 201 [.ref (240), .int (xs (x4 + 1 : Int32).toNatClampNeg), .int (xs (x4 + 2 : Int32).toNatClampNeg)] h (fun r g => X 910 [.ref (500), .ref (240), .ref (270), .ref (297), .int (x4), x5, x6] (r :: []) g)) : lxL C n xs Q X 894 [.ref (500), .ref (240), .ref (270), .ref (297), .int (x4), x5, x6] [] h := by
  have hn : 298 ≤ 298 := Nat.le_refl _
  exact ⟨⟨rfl, q.1⟩, ⟨⟨rfl, q.2.1⟩, ⟨Nat.le_of_ble_eq_true rfl, Nat.le_of_ble_eq_true rfl, q.2.2⟩⟩⟩
set_option maxRecDepth 100000 in
theorem go_L_910 {C : tf_C} {n : Nat} {xs : Nat → Int32} {Q : tf_Q} {X : tf_X} {h : LH} {x4 : Int32} {x5 : Value} {x6 : Value} {y0 : Int32} (q : (vp_in (x4 + 1) n) ∧ (vp_in (x4 + 2) n) ∧ C 86 [.ref (270), .int (xs (x4 + 1 : Int32).toNatClampNeg), .int (xs (x4 + 2 : Int32).toNatClampNeg)] h (fun r g => X 927 [.ref (500), .ref (240), .ref (270), .ref (297), .int (x4), x5, x6] (r :: []) g)) : lxL C n xs Q X 910 [.ref (500), .ref (240), .ref (270), .ref (297), .int (x4), x5, x6] [.int (y0)] h := by
  have hn : 298 ≤ 298 := Nat.le_refl _
  exact ⟨⟨rfl, q.1⟩, ⟨⟨rfl, q.2.1⟩, ⟨Nat.le_of_ble_eq_true rfl, Nat.le_of_ble_eq_true rfl, q.2.2⟩⟩⟩
set_option maxRecDepth 100000 in
theorem go_L_927 {C : tf_C} {n : Nat} {xs : Nat → Int32} {Q : tf_Q} {X : tf_X} {h : LH} {x4 : Int32} {x5 : Value} {x6 : Value} {y0 : Int32} (q : X 1234 [.ref (500), .ref (240), .ref (270), .ref (297), .int (x4), x5, x6] [] h) : lxL C n xs Q X 927 [.ref (500), .ref (240), .ref (270), .ref (297), .int (x4), x5, x6] [.int (y0)] h := by
  have hn : 298 ≤ 298 := Nat.le_refl _
  exact q
set_option maxRecDepth 100000 in
theorem go_L_931 {C : tf_C} {n : Nat} {xs : Nat → Int32} {Q : tf_Q} {X : tf_X} {h : LH} {x4 : Int32} {x5 : Value} {x6 : Value} (q : (vp_in (x4 + 1) n) ∧ (vp_in (x4 + 2) n) ∧ C 202 [.ref (240), .int (xs (x4 + 1 : Int32).toNatClampNeg), .int (xs (x4 + 2 : Int32).toNatClampNeg)] h (fun r g => X 947 [.ref (500), .ref (240), .ref (270), .ref (297), .int (x4), x5, x6] (r :: []) g)) : lxL C n xs Q X 931 [.ref (500), .ref (240), .ref (270), .ref (297), .int (x4), x5, x6] [] h := by
  have hn : 298 ≤ 298 := Nat.le_refl _
  exact ⟨⟨rfl, q.1⟩, ⟨⟨rfl, q.2.1⟩, ⟨Nat.le_of_ble_eq_true rfl, Nat.le_of_ble_eq_true rfl, q.2.2⟩⟩⟩
set_option maxRecDepth 100000 in
theorem go_L_947 {C : tf_C} {n : Nat} {xs : Nat → Int32} {Q : tf_Q} {X : tf_X} {h : LH} {x4 : Int32} {x5 : Value} {x6 : Value} {y0 : Int32} (q : (vp_in (x4 + 1) n) ∧ (vp_in (x4 + 2) n) ∧ C 91 [.ref (270), .int (xs (x4 + 1 : Int32).toNatClampNeg), .int (xs (x4 + 2 : Int32).toNatClampNeg)] h (fun r g => X 964 [.ref (500), .ref (240), .ref (270), .ref (297), .int (x4), x5, x6] (r :: []) g)) : lxL C n xs Q X 947 [.ref (500), .ref (240), .ref (270), .ref (297), .int (x4), x5, x6] [.int (y0)] h := by
  have hn : 298 ≤ 298 := Nat.le_refl _
  exact ⟨⟨rfl, q.1⟩, ⟨⟨rfl, q.2.1⟩, ⟨Nat.le_of_ble_eq_true rfl, Nat.le_of_ble_eq_true rfl, q.2.2⟩⟩⟩
set_option maxRecDepth 100000 in
theorem go_L_964 {C : tf_C} {n : Nat} {xs : Nat → Int32} {Q : tf_Q} {X : tf_X} {h : LH} {x4 : Int32} {x5 : Value} {x6 : Value} {y0 : Int32} (q : X 1234 [.ref (500), .ref (240), .ref (270), .ref (297), .int (x4), x5, x6] [] h) : lxL C n xs Q X 964 [.ref (500), .ref (240), .ref (270), .ref (297), .int (x4), x5, x6] [.int (y0)] h := by
  have hn : 298 ≤ 298 := Nat.le_refl _
  exact q
set_option maxRecDepth 100000 in
theorem go_L_968 {C : tf_C} {n : Nat} {xs : Nat → Int32} {Q : tf_Q} {X : tf_X} {h : LH} {x4 : Int32} {x5 : Value} {x6 : Value} (q : (vp_in (x4 + 1) n) ∧ C 203 [.ref (240), .int (xs (x4 + 1 : Int32).toNatClampNeg)] h (fun r g => X 978 [.ref (500), .ref (240), .ref (270), .ref (297), .int (x4), x5, x6] (r :: []) g)) : lxL C n xs Q X 968 [.ref (500), .ref (240), .ref (270), .ref (297), .int (x4), x5, x6] [] h := by
  have hn : 298 ≤ 298 := Nat.le_refl _
  exact ⟨⟨rfl, q.1⟩, ⟨Nat.le_of_ble_eq_true rfl, Nat.le_of_ble_eq_true rfl, q.2⟩⟩
set_option maxRecDepth 100000 in
theorem go_L_978 {C : tf_C} {n : Nat} {xs : Nat → Int32} {Q : tf_Q} {X : tf_X} {h : LH} {x4 : Int32} {x5 : Value} {x6 : Value} {y0 : Int32} (q : (vp_in (x4 + 1) n) ∧ C 93 [.ref (270), .int (xs (x4 + 1 : Int32).toNatClampNeg)] h (fun r g => X 989 [.ref (500), .ref (240), .ref (270), .ref (297), .int (x4), x5, x6] (r :: []) g)) : lxL C n xs Q X 978 [.ref (500), .ref (240), .ref (270), .ref (297), .int (x4), x5, x6] [.int (y0)] h := by
  have hn : 298 ≤ 298 := Nat.le_refl _
  exact ⟨⟨rfl, q.1⟩, ⟨Nat.le_of_ble_eq_true rfl, Nat.le_of_ble_eq_true rfl, q.2⟩⟩
set_option maxRecDepth 100000 in
theorem go_L_989 {C : tf_C} {n : Nat} {xs : Nat → Int32} {Q : tf_Q} {X : tf_X} {h : LH} {x4 : Int32} {x5 : Value} {x6 : Value} {y0 : Int32} (q : X 1234 [.ref (500), .ref (240), .ref (270), .ref (297), .int (x4), x5, x6] [] h) : lxL C n xs Q X 989 [.ref (500), .ref (240), .ref (270), .ref (297), .int (x4), x5, x6] [.int (y0)] h := by
  have hn : 298 ≤ 298 := Nat.le_refl _
  exact q
set_option maxRecDepth 100000 in
theorem go_L_993 {C : tf_C} {n : Nat} {xs : Nat → Int32} {Q : tf_Q} {X : tf_X} {h : LH} {x4 : Int32} {x5 : Value} {x6 : Value} (q : (vp_in (x4 + 1) n) ∧ (vp_in (x4 + 2) n) ∧ ((xs (x4 + 2 : Int32).toNatClampNeg) = (0 : Int32) → X 1013 [.ref (500), .ref (240), .ref (270), .ref (297), .int (x4), x5, x6] [.int (xs (x4 + 1 : Int32).toNatClampNeg), .ref (240)] h) ∧ (¬ (xs (x4 + 2 : Int32).toNatClampNeg) = (0 : Int32) → X 1014 [.ref (500), .ref (240), .ref (270), .ref (297), .int (x4), x5, x6] [.int (1), .int (xs (x4 + 1 : Int32).toNatClampNeg), .ref (240)] h)) : lxL C n xs Q X 993 [.ref (500), .ref (240), .ref (270), .ref (297), .int (x4), x5, x6] [] h := by
  have hn : 298 ≤ 298 := Nat.le_refl _
  exact ⟨⟨rfl, q.1⟩, ⟨⟨rfl, q.2.1⟩, ⟨q.2.2.1, fun c1 => (q.2.2.2 c1)⟩⟩⟩
set_option maxRecDepth 100000 in
theorem go_L_1013 {C : tf_C} {n : Nat} {xs : Nat → Int32} {Q : tf_Q} {X : tf_X} {h : LH} {x4 : Int32} {x5 : Value} {x6 : Value} {y1 : Int32} (q : X 1014 [.ref (500), .ref (240), .ref (270), .ref (297), .int (x4), x5, x6] [.int (0), .int (y1), .ref (240)] h) : lxL C n xs Q X 1013 [.ref (500), .ref (240), .ref (270), .ref (297), .int (x4), x5, x6] [.int (y1), .ref (240)] h := by
  have hn : 298 ≤ 298 := Nat.le_refl _
  exact q
set_option maxRecDepth 100000 in
theorem go_L_1014 {C : tf_C} {n : Nat} {xs : Nat → Int32} {Q : tf_Q} {X : tf_X} {h : LH} {x4 : Int32} {x5 : Value} {x6 : Value} {y1 : Int32} {y2 : Int32} (q : C 204 [.ref (240), .int (y1), .int (y2)] h (fun r g => X 1017 [.ref (500), .ref (240), .ref (270), .ref (297), .int (x4), x5, x6] (r :: []) g)) : lxL C n xs Q X 1014 [.ref (500), .ref (240), .ref (270), .ref (297), .int (x4), x5, x6] [.int (y2), .int (y1), .ref (240)] h := by
  have hn : 298 ≤ 298 := Nat.le_refl _
  exact ⟨Nat.le_of_ble_eq_true rfl, Nat.le_of_ble_eq_true rfl, q⟩
set_option maxRecDepth 100000 in
theorem go_L_1017 {C : tf_C} {n : Nat} {xs : Nat → Int32} {Q : tf_Q} {X : tf_X} {h : LH} {x4 : Int32} {x5 : Value} {x6 : Value} {y0 : Int32} (q : (vp_in (x4 + 1) n) ∧ (vp_in (x4 + 2) n) ∧ ((xs (x4 + 2 : Int32).toNatClampNeg) = (0 : Int32) → X 1038 [.ref (500), .ref (240), .ref (270), .ref (297), .int (x4), x5, x6] [.int (xs (x4 + 1 : Int32).toNatClampNeg), .ref (270)] h) ∧ (¬ (xs (x4 + 2 : Int32).toNatClampNeg) = (0 : Int32) → X 1039 [.ref (500), .ref (240), .ref (270), .ref (297), .int (x4), x5, x6] [.int (1), .int (xs (x4 + 1 : Int32).toNatClampNeg), .ref (270)] h)) : lxL C n xs Q X 1017 [.ref (500), .ref (240), .ref (270), .ref (297), .int (x4), x5, x6] [.int (y0)] h := by
  have hn : 298 ≤ 298 := Nat.le_refl _
  exact ⟨⟨rfl, q.1⟩, ⟨⟨rfl, q.2.1⟩, ⟨q.2.2.1, fun c1 => (q.2.2.2 c1)⟩⟩⟩
set_option maxRecDepth 100000 in
theorem go_L_1038 {C : tf_C} {n : Nat} {xs : Nat → Int32} {Q : tf_Q} {X : tf_X} {h : LH} {x4 : Int32} {x5 : Value} {x6 : Value} {y1 : Int32} (q : X 1039 [.ref (500), .ref (240), .ref (270), .ref (297), .int (x4), x5, x6] [.int (0), .int (y1), .ref (270)] h) : lxL C n xs Q X 1038 [.ref (500), .ref (240), .ref (270), .ref (297), .int (x4), x5, x6] [.int (y1), .ref (270)] h := by
  have hn : 298 ≤ 298 := Nat.le_refl _
  exact q
set_option maxRecDepth 100000 in
theorem go_L_1039 {C : tf_C} {n : Nat} {xs : Nat → Int32} {Q : tf_Q} {X : tf_X} {h : LH} {x4 : Int32} {x5 : Value} {x6 : Value} {y1 : Int32} {y2 : Int32} (q : C 94 [.ref (270), .int (y1), .int (y2)] h (fun r g => X 1042 [.ref (500), .ref (240), .ref (270), .ref (297), .int (x4), x5, x6] (r :: []) g)) : lxL C n xs Q X 1039 [.ref (500), .ref (240), .ref (270), .ref (297), .int (x4), x5, x6] [.int (y2), .int (y1), .ref (270)] h := by
  have hn : 298 ≤ 298 := Nat.le_refl _
  exact ⟨Nat.le_of_ble_eq_true rfl, Nat.le_of_ble_eq_true rfl, q⟩
set_option maxRecDepth 100000 in
theorem go_L_1042 {C : tf_C} {n : Nat} {xs : Nat → Int32} {Q : tf_Q} {X : tf_X} {h : LH} {x4 : Int32} {x5 : Value} {x6 : Value} {y0 : Int32} (q : X 1234 [.ref (500), .ref (240), .ref (270), .ref (297), .int (x4), x5, x6] [] h) : lxL C n xs Q X 1042 [.ref (500), .ref (240), .ref (270), .ref (297), .int (x4), x5, x6] [.int (y0)] h := by
  have hn : 298 ≤ 298 := Nat.le_refl _
  exact q
set_option maxRecDepth 100000 in
theorem go_L_1046 {C : tf_C} {n : Nat} {xs : Nat → Int32} {Q : tf_Q} {X : tf_X} {h : LH} {x4 : Int32} {x5 : Value} {x6 : Value} (q : C 205 [.ref (240)] h (fun r g => X 1050 [.ref (500), .ref (240), .ref (270), .ref (297), .int (x4), x5, x6] (r :: []) g)) : lxL C n xs Q X 1046 [.ref (500), .ref (240), .ref (270), .ref (297), .int (x4), x5, x6] [] h := by
  have hn : 298 ≤ 298 := Nat.le_refl _
  exact ⟨Nat.le_of_ble_eq_true rfl, Nat.le_of_ble_eq_true rfl, q⟩
set_option maxRecDepth 100000 in
theorem go_L_1050 {C : tf_C} {n : Nat} {xs : Nat → Int32} {Q : tf_Q} {X : tf_X} {h : LH} {x4 : Int32} {x5 : Value} {x6 : Value} {y0 : Int32} (q : C 103 [.ref (270)] h (fun r g => X 1055 [.ref (500), .ref (240), .ref (270), .ref (297), .int (x4), x5, x6] (r :: []) g)) : lxL C n xs Q X 1050 [.ref (500), .ref (240), .ref (270), .ref (297), .int (x4), x5, x6] [.int (y0)] h := by
  have hn : 298 ≤ 298 := Nat.le_refl _
  exact ⟨Nat.le_of_ble_eq_true rfl, Nat.le_of_ble_eq_true rfl, q⟩
set_option maxRecDepth 100000 in
theorem go_L_1055 {C : tf_C} {n : Nat} {xs : Nat → Int32} {Q : tf_Q} {X : tf_X} {h : LH} {x4 : Int32} {x5 : Value} {x6 : Value} {y0 : Int32} (q : X 1234 [.ref (500), .ref (240), .ref (270), .ref (297), .int (x4), x5, x6] [] h) : lxL C n xs Q X 1055 [.ref (500), .ref (240), .ref (270), .ref (297), .int (x4), x5, x6] [.int (y0)] h := by
  have hn : 298 ≤ 298 := Nat.le_refl _
  exact q
set_option maxRecDepth 100000 in
theorem go_L_1059 {C : tf_C} {n : Nat} {xs : Nat → Int32} {Q : tf_Q} {X : tf_X} {h : LH} {x4 : Int32} {x5 : Value} {x6 : Value} (q : C 206 [.ref (240)] h (fun r g => X 1063 [.ref (500), .ref (240), .ref (270), .ref (297), .int (x4), x5, x6] (r :: []) g)) : lxL C n xs Q X 1059 [.ref (500), .ref (240), .ref (270), .ref (297), .int (x4), x5, x6] [] h := by
  have hn : 298 ≤ 298 := Nat.le_refl _
  exact ⟨Nat.le_of_ble_eq_true rfl, Nat.le_of_ble_eq_true rfl, q⟩
set_option maxRecDepth 100000 in
theorem go_L_1063 {C : tf_C} {n : Nat} {xs : Nat → Int32} {Q : tf_Q} {X : tf_X} {h : LH} {x4 : Int32} {x5 : Value} {x6 : Value} {y0 : Int32} (q : C 110 [.ref (270)] h (fun r g => X 1068 [.ref (500), .ref (240), .ref (270), .ref (297), .int (x4), x5, x6] (r :: []) g)) : lxL C n xs Q X 1063 [.ref (500), .ref (240), .ref (270), .ref (297), .int (x4), x5, x6] [.int (y0)] h := by
  have hn : 298 ≤ 298 := Nat.le_refl _
  exact ⟨Nat.le_of_ble_eq_true rfl, Nat.le_of_ble_eq_true rfl, q⟩
set_option maxRecDepth 100000 in
theorem go_L_1068 {C : tf_C} {n : Nat} {xs : Nat → Int32} {Q : tf_Q} {X : tf_X} {h : LH} {x4 : Int32} {x5 : Value} {x6 : Value} {y0 : Int32} (q : X 1234 [.ref (500), .ref (240), .ref (270), .ref (297), .int (x4), x5, x6] [] h) : lxL C n xs Q X 1068 [.ref (500), .ref (240), .ref (270), .ref (297), .int (x4), x5, x6] [.int (y0)] h := by
  have hn : 298 ≤ 298 := Nat.le_refl _
  exact q
set_option maxRecDepth 100000 in
theorem go_L_1072 {C : tf_C} {n : Nat} {xs : Nat → Int32} {Q : tf_Q} {X : tf_X} {h : LH} {x4 : Int32} {x5 : Value} {x6 : Value} (q : C 207 [.ref (240)] h (fun r g => X 1076 [.ref (500), .ref (240), .ref (270), .ref (297), .int (x4), x5, x6] (r :: []) g)) : lxL C n xs Q X 1072 [.ref (500), .ref (240), .ref (270), .ref (297), .int (x4), x5, x6] [] h := by
  have hn : 298 ≤ 298 := Nat.le_refl _
  exact ⟨Nat.le_of_ble_eq_true rfl, Nat.le_of_ble_eq_true rfl, q⟩
set_option maxRecDepth 100000 in
theorem go_L_1076 {C : tf_C} {n : Nat} {xs : Nat → Int32} {Q : tf_Q} {X : tf_X} {h : LH} {x4 : Int32} {x5 : Value} {x6 : Value} {y0 : Int32} (q : C 109 [.ref (270)] h (fun r g => X 1081 [.ref (500), .ref (240), .ref (270), .ref (297), .int (x4), x5, x6] (r :: []) g)) : lxL C n xs Q X 1076 [.ref (500), .ref (240), .ref (270), .ref (297), .int (x4), x5, x6] [.int (y0)] h := by
  have hn : 298 ≤ 298 := Nat.le_refl _
  exact ⟨Nat.le_of_ble_eq_true rfl, Nat.le_of_ble_eq_true rfl, q⟩
set_option maxRecDepth 100000 in
theorem go_L_1081 {C : tf_C} {n : Nat} {xs : Nat → Int32} {Q : tf_Q} {X : tf_X} {h : LH} {x4 : Int32} {x5 : Value} {x6 : Value} {y0 : Int32} (q : X 1234 [.ref (500), .ref (240), .ref (270), .ref (297), .int (x4), x5, x6] [] h) : lxL C n xs Q X 1081 [.ref (500), .ref (240), .ref (270), .ref (297), .int (x4), x5, x6] [.int (y0)] h := by
  have hn : 298 ≤ 298 := Nat.le_refl _
  exact q
set_option maxRecDepth 100000 in
theorem go_L_1085 {C : tf_C} {n : Nat} {xs : Nat → Int32} {Q : tf_Q} {X : tf_X} {h : LH} {x4 : Int32} {x5 : Value} {x6 : Value} (q : (vp_in (x4 + 1) n) ∧ C 208 [.ref (240), .int (xs (x4 + 1 : Int32).toNatClampNeg)] h (fun r g => X 1095 [.ref (500), .ref (240), .ref (270), .ref (297), .int (x4), x5, x6] (r :: []) g)) : lxL C n xs Q X 1085 [.ref (500), .ref (240), .ref (270), .ref (297), .int (x4), x5, x6] [] h := by
  have hn : 298 ≤ 298 := Nat.le_refl _
  exact ⟨⟨rfl, q.1⟩, ⟨Nat.le_of_ble_eq_true rfl, Nat.le_of_ble_eq_true rfl, q.2⟩⟩
set_option maxRecDepth 100000 in
theorem go_L_1095 {C : tf_C} {n : Nat} {xs : Nat → Int32} {Q : tf_Q} {X : tf_X} {h : LH} {x4 : Int32} {x5 : Value} {x6 : Value} {y0 : Int32} (q : (vp_in (x4 + 1) n) ∧ C 111 [.ref (270), .int (xs (x4 + 1 : Int32).toNatClampNeg)] h (fun r g => X 1106 [.ref (500), .ref (240), .ref (270), .ref (297), .int (x4), x5, x6] (r :: []) g)) : lxL C n xs Q X 1095 [.ref (500), .ref (240), .ref (270), .ref (297), .int (x4), x5, x6] [.int (y0)] h := by
  have hn : 298 ≤ 298 := Nat.le_refl _
  exact ⟨⟨rfl, q.1⟩, ⟨Nat.le_of_ble_eq_true rfl, Nat.le_of_ble_eq_true rfl, q.2⟩⟩
set_option maxRecDepth 100000 in
theorem go_L_1106 {C : tf_C} {n : Nat} {xs : Nat → Int32} {Q : tf_Q} {X : tf_X} {h : LH} {x4 : Int32} {x5 : Value} {x6 : Value} {y0 : Int32} (q : X 1234 [.ref (500), .ref (240), .ref (270), .ref (297), .int (x4), x5, x6] [] h) : lxL C n xs Q X 1106 [.ref (500), .ref (240), .ref (270), .ref (297), .int (x4), x5, x6] [.int (y0)] h := by
  have hn : 298 ≤ 298 := Nat.le_refl _
  exact q
set_option maxRecDepth 100000 in
theorem go_L_1110 {C : tf_C} {n : Nat} {xs : Nat → Int32} {Q : tf_Q} {X : tf_X} {h : LH} {x4 : Int32} {x5 : Value} {x6 : Value} (q : (vp_in (x4 + 1) n) ∧ (vp_in (x4 + 2) n) ∧ C 209 [.ref (240), .int (xs (x4 + 1 : Int32).toNatClampNeg), .int (xs (x4 + 2 : Int32).toNatClampNeg)] h (fun r g => X 1126 [.ref (500), .ref (240), .ref (270), .ref (297), .int (x4), x5, x6] (r :: []) g)) : lxL C n xs Q X 1110 [.ref (500), .ref (240), .ref (270), .ref (297), .int (x4), x5, x6] [] h := by
  have hn : 298 ≤ 298 := Nat.le_refl _
  exact ⟨⟨rfl, q.1⟩, ⟨⟨rfl, q.2.1⟩, ⟨Nat.le_of_ble_eq_true rfl, Nat.le_of_ble_eq_true rfl, q.2.2⟩⟩⟩
set_option maxRecDepth 100000 in
theorem go_L_1126 {C : tf_C} {n : Nat} {xs : Nat → Int32} {Q : tf_Q} {X : tf_X} {h : LH} {x4 : Int32} {x5 : Value} {x6 : Value} {y0 : Int32} (q : (vp_in (x4 + 1) n) ∧ (vp_in (x4 + 2) n) ∧ C 105 [.ref (270), .int (xs (x4 + 1 : Int32).toNatClampNeg), .int (xs (x4 + 2 : Int32).toNatClampNeg)] h (fun r g => X 1143 [.ref (500), .ref (240), .ref (270), .ref (297), .int (x4), x5, x6] (r :: []) g)) : lxL C n xs Q X 1126 [.ref (500), .ref (240), .ref (270), .ref (297), .int (x4), x5, x6] [.int (y0)] h := by
  have hn : 298 ≤ 298 := Nat.le_refl _
  exact ⟨⟨rfl, q.1⟩, ⟨⟨rfl, q.2.1⟩, ⟨Nat.le_of_ble_eq_true rfl, Nat.le_of_ble_eq_true rfl, q.2.2⟩⟩⟩
set_option maxRecDepth 100000 in
theorem go_L_1143 {C : tf_C} {n : Nat} {xs : Nat → Int32} {Q : tf_Q} {X : tf_X} {h : LH} {x4 : Int32} {x5 : Value} {x6 : Value} {y0 : Int32} (q : X 1234 [.ref (500), .ref (240), .ref (270), .ref (297), .int (x4), x5, x6] [] h) : lxL C n xs Q X 1143 [.ref (500), .ref (240), .ref (270), .ref (297), .int (x4), x5, x6] [.int (y0)] h := by
  have hn : 298 ≤ 298 := Nat.le_refl _
  exact q
set_option maxRecDepth 100000 in
theorem go_L_1147 {C : tf_C} {n : Nat} {xs : Nat → Int32} {Q : tf_Q} {X : tf_X} {h : LH} {x4 : Int32} {x5 : Value} {x6 : Value} (q : (vp_in (x4 + 1) n) ∧ (vp_in (x4 + 2) n) ∧ C 210 [.ref (240), .int (xs (x4 + 1 : Int32).toNatClampNeg), .int (xs (x4 + 2 : Int32).toNatClampNeg)] h (fun r g => X 1163 [.ref (500), .ref (240), .ref (270), .ref (297), .int (x4), x5, x6] (r :: []) g)) : lxL C n xs Q X 1147 [.ref (500), .ref (240), .ref (270), .ref (297), .int (x4), x5, x6] [] h := by
  have hn : 298 ≤ 298 := Nat.le_refl _
  exact ⟨⟨rfl, q.1⟩, ⟨⟨rfl, q.2.1⟩, ⟨Nat.le_of_ble_eq_true rfl, Nat.le_of_ble_eq_true rfl, q.2.2⟩⟩⟩
set_option maxRecDepth 100000 in
theorem go_L_1163 {C : tf_C} {n : Nat} {xs : Nat → Int32} {Q : tf_Q} {X : tf_X} {h : LH} {x4 : Int32} {x5 : Value} {x6 : Value} {y0 : Int32} (q : (vp_in (x4 + 1) n) ∧ (vp_in (x4 + 2) n) ∧ C 106 [.ref (270), .int (xs (x4 + 1 : Int32).toNatClampNeg), .int (xs (x4 + 2 : Int32).toNatClampNeg)] h (fun r g => X 1179 [.ref (500), .ref (240), .ref (270), .ref (297), .int (x4), x5, x6] (r :: [.int (y0)]) g)) : lxL C n xs Q X 1163 [.ref (500), .ref (240), .ref (270), .ref (297), .int (x4), x5, x6] [.int (y0)] h := by
  have hn : 298 ≤ 298 := Nat.le_refl _
  exact ⟨⟨rfl, q.1⟩, ⟨⟨rfl, q.2.1⟩, ⟨Nat.le_of_ble_eq_true rfl, Nat.le_of_ble_eq_true rfl, q.2.2⟩⟩⟩
set_option maxRecDepth 100000 in
theorem go_L_1179 {C : tf_C} {n : Nat} {xs : Nat → Int32} {Q : tf_Q} {X : tf_X} {h : LH} {x4 : Int32} {x5 : Value} {x6 : Value} {y0 : Int32} {y1 : Int32} (q : (y0 = y1 → X 1234 [.ref (500), .ref (240), .ref (270), .ref (297), .int (x4), x5, x6] [] h) ∧ (¬ y0 = y1 → Q (.int (0)) h)) : lxL C n xs Q X 1179 [.ref (500), .ref (240), .ref (270), .ref (297), .int (x4), x5, x6] [.int (y1), .int (y0)] h := by
  have hn : 298 ≤ 298 := Nat.le_refl _
  exact ⟨q.1, fun c1 => ⟨(by first | rfl | trivial), (q.2 c1)⟩⟩
set_option maxRecDepth 100000 in
theorem go_L_1184 {C : tf_C} {n : Nat} {xs : Nat → Int32} {Q : tf_Q} {X : tf_X} {h : LH} {x4 : Int32} {x5 : Value} {x6 : Value} (q : (vp_in (x4 + 1) n) ∧ C 211 [.ref (240), .int (xs (x4 + 1 : Int32).toNatClampNeg)] h (fun r g => X 1194 [.ref (500), .ref (240), .ref (270), .ref (297), .int (x4), x5, x6] (r :: []) g)) : lxL C n xs Q X 1184 [.ref (500), .ref (240), .ref (270), .ref (297), .int (x4), x5, x6] [] h := by
  have hn : 298 ≤ 298 := Nat.le_refl _
  exact ⟨⟨rfl, q.1⟩, ⟨Nat.le_of_ble_eq_true rfl, Nat.le_of_ble_eq_true rfl, q.2⟩⟩
set_option maxRecDepth 100000 in
theorem go_L_1194 {C : tf_C} {n : Nat} {xs : Nat → Int32} {Q : tf_Q} {X : tf_X} {h : LH} {x4 : Int32} {x5 : Value} {x6 : Value} {y0 : Int32} (q : (vp_in (x4 + 1) n) ∧ C 114 [.ref (270), .int (xs (x4 + 1 : Int32).toNatClampNeg)] h (fun r g => X 1205 [.ref (500), .ref (240), .ref (270), .ref (297), .int (x4), x5, x6] (r :: []) g)) : lxL C n xs Q X 1194 [.ref (500), .ref (240), .ref (270), .ref (297), .int (x4), x5, x6] [.int (y0)] h := by
  have hn : 298 ≤ 298 := Nat.le_refl _
  exact ⟨⟨rfl, q.1⟩, ⟨Nat.le_of_ble_eq_true rfl, Nat.le_of_ble_eq_true rfl, q.2⟩⟩
set_option maxRecDepth 100000 in
theorem go_L_1205 {C : tf_C} {n : Nat} {xs : Nat → Int32} {Q : tf_Q} {X : tf_X} {h : LH} {x4 : Int32} {x5 : Value} {x6 : Value} {y0 : Int32} (q : X 1234 [.ref (500), .ref (240), .ref (270), .ref (297), .int (x4), x5, x6] [] h) : lxL C n xs Q X 1205 [.ref (500), .ref (240), .ref (270), .ref (297), .int (x4), x5, x6] [.int (y0)] h := by
  have hn : 298 ≤ 298 := Nat.le_refl _
  exact q
set_option maxRecDepth 100000 in
theorem go_L_1209 {C : tf_C} {n : Nat} {xs : Nat → Int32} {Q : tf_Q} {X : tf_X} {h : LH} {x4 : Int32} {x5 : Value} {x6 : Value} (q : (vp_in (x4 + 1) n) ∧ C 212 [.ref (240), .int (xs (x4 + 1 : Int32).toNatClampNeg)] h (fun r g => X 1219 [.ref (500), .ref (240), .ref (270), .ref (297), .int (x4), x5, x6] (r :: []) g)) : lxL C n xs Q X 1209 [.ref (500), .ref (240), .ref (270), .ref (297), .int (x4), x5, x6] [] h := by
  have hn : 298 ≤ 298 := Nat.le_refl _
  exact ⟨⟨rfl, q.1⟩, ⟨Nat.le_of_ble_eq_true rfl, Nat.le_of_ble_eq_true rfl, q.2⟩⟩
set_option maxRecDepth 100000 in
theorem go_L_1219 {C : tf_C} {n : Nat} {xs : Nat → Int32} {Q : tf_Q} {X : tf_X} {h : LH} {x4 : Int32} {x5 : Value} {x6 : Value} {y0 : Int32} (q : (vp_in (x4 + 1) n) ∧ C 115 [.ref (270), .int (xs (x4 + 1 : Int32).toNatClampNeg)] h (fun r g => X 1230 [.ref (500), .ref (240), .ref (270), .ref (297), .int (x4), x5, x6] (r :: []) g)) : lxL C n xs Q X 1219 [.ref (500), .ref (240), .ref (270), .ref (297), .int (x4), x5, x6] [.int (y0)] h := by
  have hn : 298 ≤ 298 := Nat.le_refl _
  exact ⟨⟨rfl, q.1⟩, ⟨Nat.le_of_ble_eq_true rfl, Nat.le_of_ble_eq_true rfl, q.2⟩⟩
set_option maxRecDepth 100000 in
theorem go_L_1230 {C : tf_C} {n : Nat} {xs : Nat → Int32} {Q : tf_Q} {X : tf_X} {h : LH} {x4 : Int32} {x5 : Value} {x6 : Value} {y0 : Int32} (q : X 1234 [.ref (500), .ref (240), .ref (270), .ref (297), .int (x4), x5, x6] [] h) : lxL C n xs Q X 1230 [.ref (500), .ref (240), .ref (270), .ref (297), .int (x4), x5, x6] [.int (y0)] h := by
  have hn : 298 ≤ 298 := Nat.le_refl _
  exact q
set_option maxRecDepth 100000 in
theorem go_L_1234 {C : tf_C} {n : Nat} {xs : Nat → Int32} {Q : tf_Q} {X : tf_X} {h : LH} {x4 : Int32} {x5 : Value} {x6 : Value} (q : X 23 [.ref (500), .ref (240), .ref (270), .ref (297), .int (x4 + 4), x5, x6] [] h) : lxL C n xs Q X 1234 [.ref (500), .ref (240), .ref (270), .ref (297), .int (x4), x5, x6] [] h := by
  have hn : 298 ≤ 298 := Nat.le_refl _
  exact q
set_option maxRecDepth 100000 in
theorem go_L_1240 {C : tf_C} {n : Nat} {xs : Nat → Int32} {Q : tf_Q} {X : tf_X} {h : LH} {x4 : Int32} {x5 : Value} {x6 : Value} (q : Q (.int (1)) h) : lxL C n xs Q X 1240 [.ref (500), .ref (240), .ref (270), .ref (297), .int (x4), x5, x6] [] h := by
  have hn : 298 ≤ 298 := Nat.le_refl _
  exact ⟨(by first | rfl | trivial), q⟩
