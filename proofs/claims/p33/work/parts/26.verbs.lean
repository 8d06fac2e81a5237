/-! ===== the verbs and the words as the Statement has them at the start ===== -/
def tv_is (i : Nat) (w : Jvm.Cond) : Bool := decide ((flatC narrow_1)[i]? = some w)
theorem tv_fact {args : Array Value} {s : State} (h : (Jvm.Cond.and given_1 narrow_1).before args s = true) {i : Nat} {w : Jvm.Cond} (hi : tv_is i w = true) : w.before args s = true := flat_of_before _ h w (List.mem_append_right _ (List.mem_of_getElem? (of_decide_eq_true hi)))
def tv_sk : List Nat := [82, 88, 91, 94, 97, 100, 103, 106, 109, 112, 115, 118, 121, 124, 127]
abbrev tv_tm (i : Nat) : Term := .string "TreeFlows$Verb" (tv_sk.getD i 0)
abbrev tv_st (i : Nat) : Term := .static "TreeFlows$Verb" (tv_nm.getD i "") "LTreeFlows$Verb;"
abbrev tv_sv (i : Nat) : Term := .field (tv_tm i) "java/lang/String" "value" "[B"
theorem tv_qlay : (List.range 15).all (fun i => decide (lw_tbl[([596, 584, 586, 598, 600, 1773, 1774, 1775, 1776, 1777, 1778, 1779, 1780, 1781, 1782] : List Nat).getD i 0]? = some (.laysStatic "TreeFlows$Verb" (tv_nm.getD i "") "LTreeFlows$Verb;"))) = true := by decide +kernel
theorem tv_qex : (List.range 15).all (fun i => tv_is (([56, 45, 50, 63, 71, 82, 92, 103, 115, 128, 142, 157, 173, 190, 208] : List Nat).getD i 0) (.exactly (tv_st i) "TreeFlows$Verb")) = true := by decide +kernel
theorem tv_qord : (List.range 15).all (fun i => tv_is (([57, 46, 51, 64, 72, 83, 93, 104, 116, 129, 143, 158, 174, 191, 209] : List Nat).getD i 0) (.eq (.field (tv_st i) "java/lang/Enum" "ordinal" "I") (.int (tv_ord.getD i 0)))) = true := by decide +kernel
theorem tv_qg : (List.range 15).all (fun i => tv_is (([59, 48, 53, 66, 74, 85, 95, 106, 118, 131, 145, 160, 176, 193, 211] : List Nat).getD i 0) (.eq (.field (tv_st i) "TreeFlows$Verb" "inGrid" "I") (.int (tv_g.getD i 0)))) = true := by decide +kernel
theorem tv_qo : (List.range 15).all (fun i => tv_is (([60, 49, 54, 67, 75, 86, 96, 107, 119, 132, 146, 161, 177, 194, 212] : List Nat).getD i 0) (.eq (.field (tv_st i) "TreeFlows$Verb" "inOrders" "I") (.int (tv_o.getD i 0)))) = true := by decide +kernel
theorem tv_qw : (List.range 15).all (fun i => tv_is (([58, 47, 52, 65, 73, 84, 94, 105, 117, 130, 144, 159, 175, 192, 210] : List Nat).getD i 0) (.eq (.field (tv_st i) "TreeFlows$Verb" "word" "Ljava/lang/String;") (tv_tm i))) = true := by decide +kernel
theorem tv_qal : (List.range 15).all (fun i => tv_is (([7, 8, 9, 10, 11, 12, 13, 14, 15, 16, 17, 18, 19, 20, 21] : List Nat).getD i 0) (.eq (.elem (.static "TreeFlows$Verb" "ALL" "[LTreeFlows$Verb;") (.int (Int32.ofNat i))) (tv_st i))) = true := by decide +kernel
theorem tv_qsm : (List.range 15).all (fun i => tv_is (([30, 31, 32, 33, 34, 35, 36, 37, 38, 39, 40, 41, 42, 43, 44] : List Nat).getD i 0) (.eq (.elem (.static "TreeFlows$1" "$SwitchMap$TreeFlows$Verb" "[I") (.int (Int32.ofNat i))) (.int (tv_sm.getD i 0)))) = true := by decide +kernel
theorem tv_qsx : (List.range 15).all (fun i => tv_is (([285, 269, 276, 297, 310, 322, 336, 351, 367, 384, 402, 421, 440, 461, 484] : List Nat).getD i 0) (.exactly (tv_tm i) "java/lang/String")) = true := by decide +kernel
theorem tv_qsc : (List.range 15).all (fun i => tv_is (([286, 270, 277, 298, 311, 323, 337, 352, 368, 385, 403, 422, 441, 462, 485] : List Nat).getD i 0) (.eq (.field (tv_tm i) "java/lang/String" "coder" "B") (.int 0))) = true := by decide +kernel
theorem tv_qsa : (List.range 15).all (fun i => tv_is (([287, 271, 278, 299, 312, 324, 338, 353, 369, 386, 404, 423, 442, 463, 486] : List Nat).getD i 0) (.arrayOf (tv_sv i) .byte)) = true := by decide +kernel
theorem tv_qsl : (List.range 15).all (fun i => tv_is (([288, 272, 279, 300, 313, 325, 339, 354, 370, 387, 405, 424, 443, 464, 487] : List Nat).getD i 0) (.eq (.length (tv_sv i)) (.int (Int32.ofNat (tv_len.getD i 0))))) = true := by decide +kernel
theorem tv_qsb : (List.range 15).all (fun i => (List.range (tv_len.getD i 0)).all (fun j => tv_is (((([[289, 290, 291, 292, 293, 294], [273, 274, 275], [280, 281, 282, 283], [301, 302, 303, 304, 305, 306], [314, 315, 316, 317], [326, 327, 328, 329, 330], [340, 341, 342, 343, 344], [355, 356, 357, 358, 359], [371, 372, 373, 374, 375], [388, 389, 390, 391, 392], [406, 407, 408, 409, 410], [425, 426, 427, 428], [444, 445, 446, 447, 448], [465, 466, 467, 468, 469, 470], [488, 489, 490, 491]] : List (List Nat)).getD i []).getD j 0)) (.eq (.elem (tv_sv i) (.int (Int32.ofNat j))) (.int ((tv_byt.getD i []).getD j 0))))) = true := by decide +kernel
def tv_tdd : List (List Nat) := [[0, 123, 125, 140, 156, 178, 198, 220, 244, 270, 298, 328, 360, 394, 430], [122, 0, 110, 136, 152, 174, 194, 216, 240, 266, 294, 324, 356, 390, 426], [124, 111, 0, 138, 154, 176, 196, 218, 242, 268, 296, 326, 358, 392, 428], [141, 137, 139, 0, 158, 180, 200, 222, 246, 272, 300, 330, 362, 396, 432], [157, 153, 155, 159, 0, 182, 202, 224, 248, 274, 302, 332, 364, 398, 434], [179, 175, 177, 181, 183, 0, 204, 226, 250, 276, 304, 334, 366, 400, 436], [199, 195, 197, 201, 203, 205, 0, 228, 252, 278, 306, 336, 368, 402, 438], [221, 217, 219, 223, 225, 227, 229, 0, 254, 280, 308, 338, 370, 404, 440], [245, 241, 243, 247, 249, 251, 253, 255, 0, 282, 310, 340, 372, 406, 442], [271, 267, 269, 273, 275, 277, 279, 281, 283, 0, 312, 342, 374, 408, 444], [299, 295, 297, 301, 303, 305, 307, 309, 311, 313, 0, 344, 376, 410, 446], [329, 325, 327, 331, 333, 335, 337, 339, 341, 343, 345, 0, 378, 412, 448], [361, 357, 359, 363, 365, 367, 369, 371, 373, 375, 377, 379, 0, 414, 450], [395, 391, 393, 397, 399, 401, 403, 405, 407, 409, 411, 413, 415, 0, 452], [431, 427, 429, 433, 435, 437, 439, 441, 443, 445, 447, 449, 451, 453, 0]]
theorem tv_qdd : (List.range 15).all (fun i => (List.range 15).all (fun j => decide (i = j) || (decide (((tv_tdd.getD i []).getD j 0) % 2 = 0) && tv_is (((tv_tdd.getD i []).getD j 0) / 2) (.not (.eq (tv_st i) (tv_st j)))) || tv_is (((tv_tdd.getD i []).getD j 0) / 2) (.not (.eq (tv_st j) (tv_st i))))) = true := by decide +kernel
def tv_tsd : List (List Nat) := [[0, 591, 593, 618, 640, 666, 694, 724, 756, 790, 826, 862, 902, 946, 988], [590, 0, 568, 614, 636, 662, 690, 720, 752, 786, 822, 858, 898, 942, 984], [592, 569, 0, 616, 638, 664, 692, 722, 754, 788, 824, 860, 900, 944, 986], [619, 615, 617, 0, 642, 668, 696, 726, 758, 792, 828, 864, 904, 948, 990], [641, 637, 639, 643, 0, 670, 698, 728, 760, 794, 830, 866, 906, 950, 992], [667, 663, 665, 669, 671, 0, 700, 730, 762, 796, 832, 868, 908, 952, 994], [695, 691, 693, 697, 699, 701, 0, 732, 764, 798, 834, 870, 910, 954, 996], [725, 721, 723, 727, 729, 731, 733, 0, 766, 800, 836, 872, 912, 956, 998], [757, 753, 755, 759, 761, 763, 765, 767, 0, 802, 838, 874, 914, 958, 1000], [791, 787, 789, 793, 795, 797, 799, 801, 803, 0, 840, 876, 916, 960, 1002], [827, 823, 825, 829, 831, 833, 835, 837, 839, 841, 0, 878, 918, 962, 1004], [863, 859, 861, 865, 867, 869, 871, 873, 875, 877, 879, 0, 920, 964, 1006], [903, 899, 901, 905, 907, 909, 911, 913, 915, 917, 919, 921, 0, 966, 1008], [947, 943, 945, 949, 951, 953, 955, 957, 959, 961, 963, 965, 967, 0, 1010], [989, 985, 987, 991, 993, 995, 997, 999, 1001, 1003, 1005, 1007, 1009, 1011, 0]]
theorem tv_qsd : (List.range 15).all (fun i => (List.range 15).all (fun j => decide (i = j) || (decide (((tv_tsd.getD i []).getD j 0) % 2 = 0) && tv_is (((tv_tsd.getD i []).getD j 0) / 2) (.not (.eq (tv_tm i) (tv_tm j)))) || tv_is (((tv_tsd.getD i []).getD j 0) / 2) (.not (.eq (tv_tm j) (tv_tm i))))) = true := by decide +kernel
theorem tv_K_cg {a1 a2 : Nat → Nat} {A : Nat → Prop} {U : State} {H : Heap} (e4 : ∀ i, i < 15 → a2 (400 + i) = a1 (400 + i)) (e20 : a2 420 = a1 420) (e21 : a2 421 = a1 421) (e43 : ∀ i, i < 15 → a2 (430 + i) = a1 (430 + i)) (e45 : ∀ i, i < 15 → a2 (450 + i) = a1 (450 + i)) (h : tv_K a1 A U H) : tv_K a2 A U H := by
  obtain ⟨⟨h1, h2, ⟨h3, h4⟩, h5, h6⟩, h7, h8, h9⟩ := h
  refine ⟨⟨⟨fun i hi => ?_, fun i j hi hj e => h1.2 i j hi hj ?_⟩, fun i hi => ?_, ⟨by rw [e20]; exact h3, ?_⟩, by rw [e21]; exact h5, by rw [e21]; exact h6⟩, ⟨fun i hi => ?_, fun i j hi hj e => h7.2 i j hi hj ?_⟩, h8, h9⟩
  · show va_Z _ _ _ (.ref (a2 (400 + i))) A U H ∧ va_O _ (a2 (400 + i)) A U H ∧ ∀ q ∈ tv_F, va_OF q.1 q.2.1 q.2.2.1 _ (a2 (400 + i)) A U H
    rw [e4 i hi]
    exact h1.1 i hi
  · show a1 (400 + i) = a1 (400 + j)
    rw [← e4 i hi, ← e4 j hj]
    exact e
  · show va_OF _ _ _ (.ref (a2 (430 + i))) (a2 (400 + i)) A U H
    rw [e4 i hi, e43 i hi]
    exact h2 i hi
  · rw [e20]
    obtain ⟨cell, c1, c2, c3, c4, c5, c6, c7⟩ := h4
    exact ⟨cell, c1, c2, c3, c4, c5, fun j hj => by show cell.slots[j]? = some (.ref (a2 (400 + j))); rw [e4 j hj]; exact c6 j hj, c7⟩
  · show va_O _ (a2 (430 + i)) A U H ∧ va_OF _ _ _ _ (a2 (430 + i)) A U H ∧ va_OF _ _ _ (.ref (a2 (450 + i))) (a2 (430 + i)) A U H ∧ va_T .byte (a2 (450 + i)) _ _ A U H
    rw [e43 i hi, e45 i hi]
    exact h7.1 i hi
  · show a1 (430 + i) = a1 (430 + j)
    rw [← e43 i hi, ← e43 j hj]
    exact e
set_option maxRecDepth 100000 in
theorem tv_start {args : Array Value} {s : State} {A : Nat → Prop} (hts : ∀ w ∈ lw_tbl, w.before args s = true) (hgv : (Jvm.Cond.and given_1 narrow_1).before args s = true) (hA : ∀ a : Nat, a < s.heap.size → ¬ A a) : ∃ ek : Nat → Nat, tv_K ek A s s.heap := by
  have hlay : ∀ i, i < 15 → (Jvm.Cond.laysStatic "TreeFlows$Verb" (tv_nm.getD i "") "LTreeFlows$Verb;").before args s = true := fun i hi => hts _ (List.mem_of_getElem? (of_decide_eq_true (tf_rng tv_qlay hi)))
  have hini : (Jvm.Cond.initialized "TreeFlows$Verb").before args s = true := (hts _ (List.mem_of_getElem? (i := 118) (by decide +kernel)))
  obtain ⟨aE, hE, evE⟩ := va_Enof2 (E := "TreeFlows$Verb") (d := "LTreeFlows$Verb;") (nm := tv_nm) (F := tv_F) (A := A) hlay hini (fun i hi => tv_fact hgv (tf_rng tv_qex hi)) (fun q hq i hi => by
      simp only [tv_F, List.mem_cons, List.not_mem_nil, or_false] at hq
      rcases hq with rfl | rfl | rfl
      · exact tv_fact hgv (tf_rng tv_qord hi)
      · exact tv_fact hgv (tf_rng tv_qg hi)
      · exact tv_fact hgv (tf_rng tv_qo hi)) (fun i j hi hj hne => by
      have h := tf_rng (tf_rng tv_qdd hi) hj
      simp only [Bool.or_eq_true, Bool.and_eq_true, decide_eq_true_eq] at h
      rcases h with (h | h) | h
      · exact absurd h hne
      · exact Or.inl (tv_fact hgv h.2)
      · exact Or.inr (tv_fact hgv h)) hA
  obtain ⟨aK, aV, hS, evK⟩ := vk_Sof (N := 15) (tm := tv_tm) (len := tv_len) (byt := tv_byt) (A := A) (args := args) (s := s) (fun i hi => Nat.lt_of_lt_of_le (tv_c4 i hi) (by decide)) (fun i hi => tv_fact hgv (tf_rng tv_qsx hi)) (fun i hi => tv_fact hgv (tf_rng tv_qsc hi)) (fun i hi => tv_fact hgv (tf_rng tv_qsa hi)) (fun i hi => tv_fact hgv (tf_rng tv_qsl hi)) (fun i hi j hj => tv_fact hgv (tf_rng (tf_rng tv_qsb hi) hj)) (fun i j hi hj hne => by
      have h := tf_rng (tf_rng tv_qsd hi) hj
      simp only [Bool.or_eq_true, Bool.and_eq_true, decide_eq_true_eq] at h
      rcases h with (h | h) | h
      · exact absurd h hne
      · exact Or.inl (tv_fact hgv h.2)
      · exact Or.inr (tv_fact hgv h)) hA
  have hW : va_Ef 15 "TreeFlows$Verb" "word" "Ljava/lang/String;" (fun i => .ref (aK i)) aE A s s.heap := va_Efof (tm := tv_tm) evE (fun i hi => tv_fact hgv (tf_rng tv_qw hi)) evK hA
  obtain ⟨tA, evA, hTA⟩ := va_Tof (tm := .static "TreeFlows$Verb" "ALL" "[LTreeFlows$Verb;") (ty := .object "TreeFlows$Verb") (N := 15) (f := fun i => .ref (aE i)) (A := A) (args := args) (s := s) (by decide) (tv_fact hgv (i := 4) (by decide +kernel)) (va_eqv (u := .int 15) (tv_fact hgv (i := 5) (by decide +kernel)) rfl) (fun j hj => va_eqv (tv_fact hgv (tf_rng tv_qal hj)) (evE j hj)) hA
  obtain ⟨tM, evM, hTM⟩ := va_Tof (tm := .static "TreeFlows$1" "$SwitchMap$TreeFlows$Verb" "[I") (ty := .int) (N := 15) (f := fun i => .int (tv_sm.getD i 0)) (A := A) (args := args) (s := s) (by decide) (tv_fact hgv (i := 28) (by decide +kernel)) (va_eqv (u := .int 15) (tv_fact hgv (i := 29) (by decide +kernel)) rfl) (fun j hj => va_eqv (tv_fact hgv (tf_rng tv_qsm hj)) rfl) hA
  have hZA := va_Zof (A := A) (C := "TreeFlows$Verb") (n := "ALL") (d := "[LTreeFlows$Verb;") (hts _ (List.mem_of_getElem? (i := 490) (by decide +kernel))) hini evA hA
  have hZM := va_Zof (A := A) (C := "TreeFlows$1") (n := "$SwitchMap$TreeFlows$Verb") (d := "[I") (hts _ (List.mem_of_getElem? (i := 564) (by decide +kernel))) (hts _ (List.mem_of_getElem? (i := 123) (by decide +kernel))) evM hA
  have hZC := va_Zof (A := A) (C := "java/lang/String") (n := "COMPACT_STRINGS") (d := "Z") (hts _ (List.mem_of_getElem? (i := 508) (by decide +kernel))) (hts _ (List.mem_of_getElem? (i := 119) (by decide +kernel))) (va_eqi (z := 1) (tv_fact hgv (i := 22) (by decide +kernel))) hA
  have hZQ := va_Zqof (A := A) (C := "jdk/internal/util/Preconditions") (n := "SIOOBE_FORMATTER") (d := "Ljava/util/function/BiFunction;") (hts _ (List.mem_of_getElem? (i := 524) (by decide +kernel))) (hts _ (List.mem_of_getElem? (i := 121) (by decide +kernel))) (tv_fact hgv (i := 23) (by decide +kernel)) hA
  obtain ⟨ek, x4, x20, x21, x43, x45⟩ : ∃ ek : Nat → Nat, (∀ i, i < 15 → ek (400 + i) = aE i) ∧ ek 420 = tA ∧ ek 421 = tM ∧ (∀ i, i < 15 → ek (430 + i) = aK i) ∧ (∀ i, i < 15 → ek (450 + i) = aV i) := by
    refine ⟨fun c => if c < 420 then aE (c - 400) else if c = 420 then tA else if c = 421 then tM else if c < 445 then aK (c - 430) else aV (c - 450), fun i hi => ?_, rfl, rfl, fun i hi => ?_, fun i hi => ?_⟩
    · show (if 400 + i < 420 then aE (400 + i - 400) else _) = _
      rw [if_pos (by omega), Nat.add_sub_cancel_left]
    · show (if 430 + i < 420 then _ else if 430 + i = 420 then _ else if 430 + i = 421 then _ else if 430 + i < 445 then aK (430 + i - 430) else _) = _
      rw [if_neg (by omega), if_neg (by omega), if_neg (by omega), if_pos (by omega), Nat.add_sub_cancel_left]
    · show (if 450 + i < 420 then _ else if 450 + i = 420 then _ else if 450 + i = 421 then _ else if 450 + i < 445 then _ else aV (450 + i - 450)) = _
      rw [if_neg (by omega), if_neg (by omega), if_neg (by omega), if_neg (by omega), Nat.add_sub_cancel_left]
  refine ⟨ek, ⟨⟨fun i hi => ?_, fun i j hi hj e => hE.2 i j hi hj ?_⟩, fun i hi => ?_, ⟨by rw [x20]; exact hZA, ?_⟩, by rw [x21]; exact hZM, by rw [x21]; exact hTM⟩, ⟨fun i hi => ?_, fun i j hi hj e => hS.2 i j hi hj ?_⟩, hZC, hZQ⟩
  · show va_Z _ _ _ (.ref (ek (400 + i))) A s s.heap ∧ va_O _ (ek (400 + i)) A s s.heap ∧ ∀ q ∈ tv_F, va_OF q.1 q.2.1 q.2.2.1 _ (ek (400 + i)) A s s.heap
    rw [x4 i hi]
    exact hE.1 i hi
  · rw [← x4 i hi, ← x4 j hj]
    exact e
  · show va_OF _ _ _ (.ref (ek (430 + i))) (ek (400 + i)) A s s.heap
    rw [x4 i hi, x43 i hi]
    exact hW i hi
  · rw [x20]
    obtain ⟨cell, c1, c2, c3, c4, c5, c6, c7⟩ := hTA
    exact ⟨cell, c1, c2, c3, c4, c5, fun j hj => by show cell.slots[j]? = some (.ref (ek (400 + j))); rw [x4 j hj]; exact c6 j hj, c7⟩
  · show va_O _ (ek (430 + i)) A s s.heap ∧ va_OF _ _ _ _ (ek (430 + i)) A s s.heap ∧ va_OF _ _ _ (.ref (ek (450 + i))) (ek (430 + i)) A s s.heap ∧ va_T .byte (ek (450 + i)) _ _ A s s.heap
    rw [x43 i hi, x45 i hi]
    exact hS.1 i hi
  · rw [← x43 i hi, ← x43 j hj]
    exact e
