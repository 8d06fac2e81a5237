/-! ===== the words of texts and the verbs: the JDK's own methods on them; each place that uses them is sound ===== -/
theorem dJ0_coder_7d493_0 : decode cJ0_coder_7d493 0 = .ok (.getstatic 38, 3) := by decide +kernel
theorem dJ0_coder_7d493_3 : decode cJ0_coder_7d493 3 = .ok (.ifCond .eq 10, 3) := by decide +kernel
theorem dJ0_coder_7d493_6 : decode cJ0_coder_7d493 6 = .ok (.aload_n 0, 1) := by decide +kernel
theorem dJ0_coder_7d493_7 : decode cJ0_coder_7d493 7 = .ok (.getfield 15, 3) := by decide +kernel
theorem dJ0_coder_7d493_10 : decode cJ0_coder_7d493 10 = .ok (.goto 4, 3) := by decide +kernel
theorem dJ0_coder_7d493_13 : decode cJ0_coder_7d493 13 = .ok (.iconst 1, 1) := by decide +kernel
theorem dJ0_coder_7d493_14 : decode cJ0_coder_7d493 14 = .ok (.ireturn, 1) := by decide +kernel
theorem dJ0_length_8abf5_0 : decode cJ0_length_8abf5 0 = .ok (.aload_n 0, 1) := by decide +kernel
theorem dJ0_length_8abf5_1 : decode cJ0_length_8abf5 1 = .ok (.getfield 9, 3) := by decide +kernel
theorem dJ0_length_8abf5_4 : decode cJ0_length_8abf5 4 = .ok (.arraylength, 1) := by decide +kernel
theorem dJ0_length_8abf5_5 : decode cJ0_length_8abf5 5 = .ok (.aload_n 0, 1) := by decide +kernel
theorem dJ0_length_8abf5_6 : decode cJ0_length_8abf5 6 = .ok (.invokevirtual 335, 3) := by decide +kernel
theorem dJ0_length_8abf5_9 : decode cJ0_length_8abf5 9 = .ok (.ishr, 1) := by decide +kernel
theorem dJ0_length_8abf5_10 : decode cJ0_length_8abf5 10 = .ok (.ireturn, 1) := by decide +kernel
theorem dJ0_isLatin1_aae02_0 : decode cJ0_isLatin1_aae02 0 = .ok (.getstatic 38, 3) := by decide +kernel
theorem dJ0_isLatin1_aae02_3 : decode cJ0_isLatin1_aae02 3 = .ok (.ifCond .eq 14, 3) := by decide +kernel
theorem dJ0_isLatin1_aae02_6 : decode cJ0_isLatin1_aae02 6 = .ok (.aload_n 0, 1) := by decide +kernel
theorem dJ0_isLatin1_aae02_7 : decode cJ0_isLatin1_aae02 7 = .ok (.getfield 15, 3) := by decide +kernel
theorem dJ0_isLatin1_aae02_10 : decode cJ0_isLatin1_aae02 10 = .ok (.ifCond .ne 7, 3) := by decide +kernel
theorem dJ0_isLatin1_aae02_13 : decode cJ0_isLatin1_aae02 13 = .ok (.iconst 1, 1) := by decide +kernel
theorem dJ0_isLatin1_aae02_14 : decode cJ0_isLatin1_aae02 14 = .ok (.goto 4, 3) := by decide +kernel
theorem dJ0_isLatin1_aae02_17 : decode cJ0_isLatin1_aae02 17 = .ok (.iconst 0, 1) := by decide +kernel
theorem dJ0_isLatin1_aae02_18 : decode cJ0_isLatin1_aae02 18 = .ok (.ireturn, 1) := by decide +kernel
theorem dJ0_charAt_5068e_0 : decode cJ0_charAt_5068e 0 = .ok (.aload_n 0, 1) := by decide +kernel
theorem dJ0_charAt_5068e_1 : decode cJ0_charAt_5068e 1 = .ok (.invokevirtual 492, 3) := by decide +kernel
theorem dJ0_charAt_5068e_4 : decode cJ0_charAt_5068e 4 = .ok (.ifCond .eq 12, 3) := by decide +kernel
theorem dJ0_charAt_5068e_7 : decode cJ0_charAt_5068e 7 = .ok (.aload_n 0, 1) := by decide +kernel
theorem dJ0_charAt_5068e_8 : decode cJ0_charAt_5068e 8 = .ok (.getfield 9, 3) := by decide +kernel
theorem dJ0_charAt_5068e_11 : decode cJ0_charAt_5068e 11 = .ok (.iload_n 1, 1) := by decide +kernel
theorem dJ0_charAt_5068e_12 : decode cJ0_charAt_5068e 12 = .ok (.invokestatic 495, 3) := by decide +kernel
theorem dJ0_charAt_5068e_15 : decode cJ0_charAt_5068e 15 = .ok (.ireturn, 1) := by decide +kernel
theorem dJ0_charAt_5068e_16 : decode cJ0_charAt_5068e 16 = .ok (.aload_n 0, 1) := by decide +kernel
theorem dJ0_charAt_5068e_17 : decode cJ0_charAt_5068e 17 = .ok (.getfield 9, 3) := by decide +kernel
theorem dJ0_charAt_5068e_20 : decode cJ0_charAt_5068e 20 = .ok (.iload_n 1, 1) := by decide +kernel
theorem dJ0_charAt_5068e_21 : decode cJ0_charAt_5068e 21 = .ok (.invokestatic 498, 3) := by decide +kernel
theorem dJ0_charAt_5068e_24 : decode cJ0_charAt_5068e 24 = .ok (.ireturn, 1) := by decide +kernel
theorem dJ1_charAt_3b067_0 : decode cJ1_charAt_3b067 0 = .ok (.iload_n 1, 1) := by decide +kernel
theorem dJ1_charAt_3b067_1 : decode cJ1_charAt_3b067 1 = .ok (.aload_n 0, 1) := by decide +kernel
theorem dJ1_charAt_3b067_2 : decode cJ1_charAt_3b067 2 = .ok (.arraylength, 1) := by decide +kernel
theorem dJ1_charAt_3b067_3 : decode cJ1_charAt_3b067 3 = .ok (.invokestatic 9, 3) := by decide +kernel
theorem dJ1_charAt_3b067_6 : decode cJ1_charAt_3b067 6 = .ok (.aload_n 0, 1) := by decide +kernel
theorem dJ1_charAt_3b067_7 : decode cJ1_charAt_3b067 7 = .ok (.iload_n 1, 1) := by decide +kernel
theorem dJ1_charAt_3b067_8 : decode cJ1_charAt_3b067 8 = .ok (.baload, 1) := by decide +kernel
theorem dJ1_charAt_3b067_9 : decode cJ1_charAt_3b067 9 = .ok (.sipush 255, 3) := by decide +kernel
theorem dJ1_charAt_3b067_12 : decode cJ1_charAt_3b067 12 = .ok (.iand, 1) := by decide +kernel
theorem dJ1_charAt_3b067_13 : decode cJ1_charAt_3b067 13 = .ok (.i2c, 1) := by decide +kernel
theorem dJ1_charAt_3b067_14 : decode cJ1_charAt_3b067 14 = .ok (.ireturn, 1) := by decide +kernel
theorem dJ0_checkIndex_df160_0 : decode cJ0_checkIndex_df160 0 = .ok (.iload_n 0, 1) := by decide +kernel
theorem dJ0_checkIndex_df160_1 : decode cJ0_checkIndex_df160 1 = .ok (.iload_n 1, 1) := by decide +kernel
theorem dJ0_checkIndex_df160_2 : decode cJ0_checkIndex_df160 2 = .ok (.getstatic 1053, 3) := by decide +kernel
theorem dJ0_checkIndex_df160_5 : decode cJ0_checkIndex_df160 5 = .ok (.invokestatic 1059, 3) := by decide +kernel
theorem dJ0_checkIndex_df160_8 : decode cJ0_checkIndex_df160 8 = .ok (.pop, 1) := by decide +kernel
theorem dJ0_checkIndex_df160_9 : decode cJ0_checkIndex_df160 9 = .ok (.return_, 1) := by decide +kernel
theorem dJ3_checkIndex_8e157_0 : decode cJ3_checkIndex_8e157 0 = .ok (.iload_n 0, 1) := by decide +kernel
theorem dJ3_checkIndex_8e157_1 : decode cJ3_checkIndex_8e157 1 = .ok (.ifCond .lt 8, 3) := by decide +kernel
theorem dJ3_checkIndex_8e157_4 : decode cJ3_checkIndex_8e157 4 = .ok (.iload_n 0, 1) := by decide +kernel
theorem dJ3_checkIndex_8e157_5 : decode cJ3_checkIndex_8e157 5 = .ok (.iload_n 1, 1) := by decide +kernel
theorem dJ3_checkIndex_8e157_6 : decode cJ3_checkIndex_8e157 6 = .ok (.if_icmp .lt 10, 3) := by decide +kernel
theorem dJ3_checkIndex_8e157_9 : decode cJ3_checkIndex_8e157 9 = .ok (.aload_n 2, 1) := by decide +kernel
theorem dJ3_checkIndex_8e157_10 : decode cJ3_checkIndex_8e157 10 = .ok (.iload_n 0, 1) := by decide +kernel
theorem dJ3_checkIndex_8e157_11 : decode cJ3_checkIndex_8e157 11 = .ok (.iload_n 1, 1) := by decide +kernel
theorem dJ3_checkIndex_8e157_12 : decode cJ3_checkIndex_8e157 12 = .ok (.invokestatic 95, 3) := by decide +kernel
theorem dJ3_checkIndex_8e157_15 : decode cJ3_checkIndex_8e157 15 = .ok (.athrow, 1) := by decide +kernel
theorem dJ3_checkIndex_8e157_16 : decode cJ3_checkIndex_8e157 16 = .ok (.iload_n 0, 1) := by decide +kernel
theorem dJ3_checkIndex_8e157_17 : decode cJ3_checkIndex_8e157 17 = .ok (.ireturn, 1) := by decide +kernel
theorem dJx29ce0_ordinal_8abf5_0 : decode cJx29ce0_ordinal_8abf5 0 = .ok (.aload_n 0, 1) := by decide +kernel
theorem dJx29ce0_ordinal_8abf5_1 : decode cJx29ce0_ordinal_8abf5 1 = .ok (.getfield 7, 3) := by decide +kernel
theorem dJx29ce0_ordinal_8abf5_4 : decode cJx29ce0_ordinal_8abf5 4 = .ok (.ireturn, 1) := by decide +kernel
theorem dX7_numbers_0 : decode cX7_numbers 0 = .ok (.iload_n 1, 1) := by decide +kernel
theorem dX7_numbers_1 : decode cX7_numbers 1 = .ok (.ifCond .eq 10, 3) := by decide +kernel
theorem dX7_numbers_4 : decode cX7_numbers 4 = .ok (.aload_n 0, 1) := by decide +kernel
theorem dX7_numbers_5 : decode cX7_numbers 5 = .ok (.getfield 78, 3) := by decide +kernel
theorem dX7_numbers_8 : decode cX7_numbers 8 = .ok (.goto 7, 3) := by decide +kernel
theorem dX7_numbers_11 : decode cX7_numbers 11 = .ok (.aload_n 0, 1) := by decide +kernel
theorem dX7_numbers_12 : decode cX7_numbers 12 = .ok (.getfield 74, 3) := by decide +kernel
theorem dX7_numbers_15 : decode cX7_numbers 15 = .ok (.ireturn, 1) := by decide +kernel
theorem tv_Sb {As : List Value} {ad : Nat → Nat} {A : Nat → Prop} : FrameBlind (va_Pc As (fun U => tv_S ad A U U.heap)) := fun a U g mk q => ⟨q.1, tv_S.moved (u := U) (U := U.calling g mk a) (Vm.Alike.refl U.vm) q.2⟩
theorem tv_Vb {As : List Value} {ad : Nat → Nat} {A : Nat → Prop} : FrameBlind (va_Pc As (fun U => tv_V ad A U U.heap)) := fun a U g mk q => ⟨q.1, tv_V.moved (u := U) (U := U.calling g mk a) (Vm.Alike.refl U.vm) q.2⟩
theorem tv_Sxb {As : List Value} {ad : Nat → Nat} {A : Nat → Prop} {G : Prop} : FrameBlind (va_Pc As (fun U => tv_S ad A U U.heap ∧ G)) := fun a U g mk q => ⟨q.1, tv_S.moved (u := U) (U := U.calling g mk a) (Vm.Alike.refl U.vm) q.2.1, q.2.2⟩
theorem tv_Gb {As : List Value} {G : Prop} : FrameBlind (va_Pc As (fun _ => G)) := fun _ _ _ _ q => q
theorem tv_c1 : ∀ i, i < 15 → (nI (tv_len.getD i 0)) >>> ((0 : Int32) &&& 31) = nI (tv_len.getD i 0) := by decide +kernel
theorem tv_c2 : ∀ i, i < 15 → ∀ k, k < tv_len.getD i 0 → ((tv_ch i k &&& 255).toUInt32 % 65536).toInt32 = tv_ch i k ∧ narrow .char (.int (tv_ch i k)) = .int (tv_ch i k) := by decide +kernel
theorem tv_c3 : ∀ i, i < 15 → tv_ord.getD i 0 = nI i := by decide +kernel
theorem tv_c4 : ∀ i, i < 15 → tv_len.getD i 0 < 8 := by decide +kernel
set_option maxHeartbeats 2000000 in
set_option maxRecDepth 100000 in
theorem tv_m_coder (l : Launch) (ad : Nat → Nat) (A : Nat → Prop) {i : Nat} (hi : i < 15) : Met l yJ0_coder_7d493 (Jvm.Cond.code yJ0_coder_7d493 cJ0_coder_7d493 1 (some .byte) :: tf_BW) (tf_rm 0) (va_Pc [.ref (ad (430 + i))] (fun U => tv_S ad A U U.heap)) (vp_Si (fun r => r = 0)) 0 0 (fun _ => False) := by
  refine Met.ofW (cc := cJ0_coder_7d493) (maxL := 1) (ret := (some .byte)) (by decide) rfl ?_
  intro p e s m args below meth c s₁ B hml hv
  obtain ⟨rfl, hZ⟩ := hv
  have hx := B.exec
  have hb := B.bytes
  have hr := B.returns
  have hts := atoms_spec (ws := Jvm.Cond.code yJ0_coder_7d493 cJ0_coder_7d493 1 (some .byte) :: tf_BW) B.pre
  have hsub : ∀ w ∈ tf_BW, w ∈ Jvm.Cond.code yJ0_coder_7d493 cJ0_coder_7d493 1 (some .byte) :: tf_BW := fun w hw => List.mem_cons_of_mem _ hw
  have hT : ∀ w ∈ tf_BW, w.before ([.ref (ad (430 + i))] : List Value).toArray s = true := fun w hw => hts w (hsub w hw)
  have hown : s.vm.findClass RJ0 = some m.cls := findClass_of_methodNamed B.named
  have hlocks := B.notSynchronized
  have hS : va_S A s.heap s.heap [] := va_S.rf
  have hl := lv_entry [.ref (ad (430 + i))] (n := 1) (Nat.le_of_ble_eq_true rfl)
  rw [lg_entry_eq]
  generalize (lg_sl [.ref (ad (430 + i))] ++ List.replicate (1 - (lg_sl [.ref (ad (430 + i))]).length) Slot.unset).toArray = ls at hl ⊢
  have hl : lv_has ls 1 [(0, .ref (ad (430 + i)))] := hl
  refine va_gets (ref := "java/lang/String") (v := .int 1) hx hb hZ.2.1 hS hown (hT _ (tf_isw_in (i := 507) (by decide +kernel))) (fun _ h => h) dJ0_coder_7d493_0 ?_
  refine lv_if_eq (tgt := 13) hx hb dJ0_coder_7d493_3 rfl (fun z => absurd z (by decide)) (fun _ => ?_)
  refine lv_aload_n hx hb dJ0_coder_7d493_6 rfl (lv_at hl 0 rfl) ?_
  refine vk_getf (ref := "java/lang/String") hx hb (hZ.1.1 i hi).2.1 hS hown (hT _ (tf_isw_in (i := 1771) (by decide +kernel))) (fun _ h => h) dJ0_coder_7d493_7 ?_
  refine lv_goto (tgt := 14) hx hb dJ0_coder_7d493_10 rfl ?_
  exact W.zret (v := 0) hx hb hr rfl (fun t ht hW => ⟨0, rfl, rfl, ht⟩) (fun q hq => absurd hq List.not_mem_nil) dJ0_coder_7d493_14
set_option maxHeartbeats 2000000 in
set_option maxRecDepth 100000 in
theorem tv_m_isLatin1 (l : Launch) (ad : Nat → Nat) (A : Nat → Prop) {i : Nat} (hi : i < 15) : Met l yJ0_isLatin1_aae02 (Jvm.Cond.code yJ0_isLatin1_aae02 cJ0_isLatin1_aae02 1 (some .boolean) :: tf_BW) (tf_rm 0) (va_Pc [.ref (ad (430 + i))] (fun U => tv_S ad A U U.heap)) (vp_Si (fun r => r = 1)) 0 0 (fun _ => False) := by
  refine Met.ofW (cc := cJ0_isLatin1_aae02) (maxL := 1) (ret := (some .boolean)) (by decide) rfl ?_
  intro p e s m args below meth c s₁ B hml hv
  obtain ⟨rfl, hZ⟩ := hv
  have hx := B.exec
  have hb := B.bytes
  have hr := B.returns
  have hts := atoms_spec (ws := Jvm.Cond.code yJ0_isLatin1_aae02 cJ0_isLatin1_aae02 1 (some .boolean) :: tf_BW) B.pre
  have hsub : ∀ w ∈ tf_BW, w ∈ Jvm.Cond.code yJ0_isLatin1_aae02 cJ0_isLatin1_aae02 1 (some .boolean) :: tf_BW := fun w hw => List.mem_cons_of_mem _ hw
  have hT : ∀ w ∈ tf_BW, w.before ([.ref (ad (430 + i))] : List Value).toArray s = true := fun w hw => hts w (hsub w hw)
  have hown : s.vm.findClass RJ0 = some m.cls := findClass_of_methodNamed B.named
  have hlocks := B.notSynchronized
  have hS : va_S A s.heap s.heap [] := va_S.rf
  have hl := lv_entry [.ref (ad (430 + i))] (n := 1) (Nat.le_of_ble_eq_true rfl)
  rw [lg_entry_eq]
  generalize (lg_sl [.ref (ad (430 + i))] ++ List.replicate (1 - (lg_sl [.ref (ad (430 + i))]).length) Slot.unset).toArray = ls at hl ⊢
  have hl : lv_has ls 1 [(0, .ref (ad (430 + i)))] := hl
  refine va_gets (ref := "java/lang/String") (v := .int 1) hx hb hZ.2.1 hS hown (hT _ (tf_isw_in (i := 507) (by decide +kernel))) (fun _ h => h) dJ0_isLatin1_aae02_0 ?_
  refine lv_if_eq (tgt := 17) hx hb dJ0_isLatin1_aae02_3 rfl (fun z => absurd z (by decide)) (fun _ => ?_)
  refine lv_aload_n hx hb dJ0_isLatin1_aae02_6 rfl (lv_at hl 0 rfl) ?_
  refine vk_getf (ref := "java/lang/String") hx hb (hZ.1.1 i hi).2.1 hS hown (hT _ (tf_isw_in (i := 1771) (by decide +kernel))) (fun _ h => h) dJ0_isLatin1_aae02_7 ?_
  refine lv_if_ne (tgt := 17) hx hb dJ0_isLatin1_aae02_10 rfl (fun z => absurd rfl z) (fun _ => ?_)
  refine lv_iconst (v := 1) hx hb dJ0_isLatin1_aae02_13 rfl ?_
  refine lv_goto (tgt := 18) hx hb dJ0_isLatin1_aae02_14 rfl ?_
  exact W.zret (v := 1) hx hb hr rfl (fun t ht hW => ⟨1, rfl, rfl, ht⟩) (fun q hq => absurd hq List.not_mem_nil) dJ0_isLatin1_aae02_18
set_option maxHeartbeats 2000000 in
set_option maxRecDepth 100000 in
theorem tv_m_length (l : Launch) (ad : Nat → Nat) (A : Nat → Prop) {i : Nat} (hi : i < 15) : Met l yJ0_length_8abf5 (Jvm.Cond.code yJ0_length_8abf5 cJ0_length_8abf5 1 (some .int) :: tf_BW) (tf_rm 1) (va_Pc [.ref (ad (430 + i))] (fun U => tv_S ad A U U.heap)) (vp_Si (fun r => r = nI (tv_len.getD i 0))) 0 0 (fun _ => False) := by
  refine Met.ofW (cc := cJ0_length_8abf5) (maxL := 1) (ret := (some .int)) (by decide) rfl ?_
  intro p e s m args below meth c s₁ B hml hv
  obtain ⟨rfl, hZ⟩ := hv
  have hx := B.exec
  have hb := B.bytes
  have hr := B.returns
  have hts := atoms_spec (ws := Jvm.Cond.code yJ0_length_8abf5 cJ0_length_8abf5 1 (some .int) :: tf_BW) B.pre
  have hsub : ∀ w ∈ tf_BW, w ∈ Jvm.Cond.code yJ0_length_8abf5 cJ0_length_8abf5 1 (some .int) :: tf_BW := fun w hw => List.mem_cons_of_mem _ hw
  have hT : ∀ w ∈ tf_BW, w.before ([.ref (ad (430 + i))] : List Value).toArray s = true := fun w hw => hts w (hsub w hw)
  have hown : s.vm.findClass RJ0 = some m.cls := findClass_of_methodNamed B.named
  have hlocks := B.notSynchronized
  have hS : va_S A s.heap s.heap [] := va_S.rf
  have hl := lv_entry [.ref (ad (430 + i))] (n := 1) (Nat.le_of_ble_eq_true rfl)
  rw [lg_entry_eq]
  generalize (lg_sl [.ref (ad (430 + i))] ++ List.replicate (1 - (lg_sl [.ref (ad (430 + i))]).length) Slot.unset).toArray = ls at hl ⊢
  have hl : lv_has ls 1 [(0, .ref (ad (430 + i)))] := hl
  refine lv_aload_n hx hb dJ0_length_8abf5_0 rfl (lv_at hl 0 rfl) ?_
  refine vk_getf (ref := "java/lang/String") hx hb (hZ.1.1 i hi).2.2.1 hS hown (hT _ (tf_isw_in (i := 1770) (by decide +kernel))) (fun _ h => h) dJ0_length_8abf5_1 ?_
  refine va_tlen (v := nI (tv_len.getD i 0)) hx hb (hZ.1.1 i hi).2.2.2 hS rfl dJ0_length_8abf5_4 ?_
  refine lv_aload_n hx hb dJ0_length_8abf5_5 rfl (lv_at hl 0 rfl) ?_
  have hrv := vk_recv hZ.1 hi hS
  refine vp_callSi (W.runV (As := []) (rest := [.int (nI (tv_len.getD i 0))]) (b := ad (430 + i)) (C := RJ0) ⟨hx, hb, hml, hown, hts⟩ (tv_m_coder l ad A hi) ⟨callB_of 0 hts (tf_goodBW tf_BW_good hsub (List.mem_filter.mpr ⟨List.mem_of_getElem? (i := 506) rfl, rfl⟩)) rfl rfl rfl (hT _ (tf_isw_in (i := 119) (by decide +kernel))) (hT _ (tf_isw_in (i := 503) (by decide +kernel))) ⟨by decide, by decide, by decide +kernel⟩ ⟨by decide, by decide⟩, hT _ (tf_isw_in (i := 504) (by decide +kernel)), hT _ (tf_isw_in (i := 505) (by decide +kernel))⟩ ⟨tv_Sb, hrv, fun U hU hW => ⟨rfl, by show tv_S ad A U U.heap; rw [hU]; exact tv_S.moved hW.alike hZ⟩⟩ rfl rfl hl.1 rfl (Nat.le_of_ble_eq_true rfl)  dJ0_length_8abf5_6 ⟨Nat.le_refl _, Nat.le_refl _⟩) (fun r hr9 => ?_)
  subst hr9
  refine lv_ishr hx hb dJ0_length_8abf5_9 ?_
  rw [tv_c1 i hi]
  exact W.iret hx hb hr (fun t ht hW => ⟨_, rfl, rfl, ht⟩) (fun q hq => absurd hq List.not_mem_nil) dJ0_length_8abf5_10
set_option maxHeartbeats 2000000 in
set_option maxRecDepth 100000 in
theorem tv_m_pciN (l : Launch) (ad : Nat → Nat) (A : Nat → Prop) {x n : Int32}  : Met l yJ3_checkIndex_8e157 (Jvm.Cond.code yJ3_checkIndex_8e157 cJ3_checkIndex_8e157 3 (some .int) :: tf_BW) (tf_rm 0) (va_Pc [.int x, .int n, .null] (fun U => ¬ x < 0 ∧ x < n)) (vp_Si (fun _ => True)) 0 0 (fun _ => False) := by
  refine Met.ofW (cc := cJ3_checkIndex_8e157) (maxL := 3) (ret := (some .int)) (by decide) rfl ?_
  intro p e s m args below meth c s₁ B hml hv
  obtain ⟨rfl, hZ⟩ := hv
  have hx := B.exec
  have hb := B.bytes
  have hr := B.returns
  have hts := atoms_spec (ws := Jvm.Cond.code yJ3_checkIndex_8e157 cJ3_checkIndex_8e157 3 (some .int) :: tf_BW) B.pre
  have hsub : ∀ w ∈ tf_BW, w ∈ Jvm.Cond.code yJ3_checkIndex_8e157 cJ3_checkIndex_8e157 3 (some .int) :: tf_BW := fun w hw => List.mem_cons_of_mem _ hw
  have hT : ∀ w ∈ tf_BW, w.before ([.int x, .int n, .null] : List Value).toArray s = true := fun w hw => hts w (hsub w hw)
  have hown : s.vm.findClass RJ3 = some m.cls := findClass_of_methodNamed B.named
  have hlocks := B.notSynchronized
  have hS : va_S A s.heap s.heap [] := va_S.rf
  have hl := lv_entry [.int x, .int n, .null] (n := 3) (Nat.le_of_ble_eq_true rfl)
  rw [lg_entry_eq]
  generalize (lg_sl [.int x, .int n, .null] ++ List.replicate (3 - (lg_sl [.int x, .int n, .null]).length) Slot.unset).toArray = ls at hl ⊢
  have hl : lv_has ls 3 [(0, .int x), (1, .int n), (2, .null)] := hl
  refine lv_iload_n hx hb dJ3_checkIndex_8e157_0 rfl (lv_at hl 0 rfl) ?_
  refine lv_if_lt (tgt := 9) hx hb dJ3_checkIndex_8e157_1 rfl (fun z => absurd z hZ.1) (fun _ => ?_)
  refine lv_iload_n hx hb dJ3_checkIndex_8e157_4 rfl (lv_at hl 0 rfl) ?_
  refine lv_iload_n hx hb dJ3_checkIndex_8e157_5 rfl (lv_at hl 1 rfl) ?_
  refine lv_icmp_lt (tgt := 16) hx hb dJ3_checkIndex_8e157_6 rfl (fun _ => ?_) (fun z => absurd hZ.2 z)
  refine lv_iload_n hx hb dJ3_checkIndex_8e157_16 rfl (lv_at hl 0 rfl) ?_
  exact W.iret hx hb hr (fun t ht hW => ⟨_, rfl, trivial, ht⟩) (fun q hq => absurd hq List.not_mem_nil) dJ3_checkIndex_8e157_17
set_option maxHeartbeats 2000000 in
set_option maxRecDepth 100000 in
theorem tv_m_pciR (l : Launch) (ad : Nat → Nat) (A : Nat → Prop) {x n : Int32} {w9 : Nat} : Met l yJ3_checkIndex_8e157 (Jvm.Cond.code yJ3_checkIndex_8e157 cJ3_checkIndex_8e157 3 (some .int) :: tf_BW) (tf_rm 0) (va_Pc [.int x, .int n, .ref w9] (fun U => ¬ x < 0 ∧ x < n)) (vp_Si (fun _ => True)) 0 0 (fun _ => False) := by
  refine Met.ofW (cc := cJ3_checkIndex_8e157) (maxL := 3) (ret := (some .int)) (by decide) rfl ?_
  intro p e s m args below meth c s₁ B hml hv
  obtain ⟨rfl, hZ⟩ := hv
  have hx := B.exec
  have hb := B.bytes
  have hr := B.returns
  have hts := atoms_spec (ws := Jvm.Cond.code yJ3_checkIndex_8e157 cJ3_checkIndex_8e157 3 (some .int) :: tf_BW) B.pre
  have hsub : ∀ w ∈ tf_BW, w ∈ Jvm.Cond.code yJ3_checkIndex_8e157 cJ3_checkIndex_8e157 3 (some .int) :: tf_BW := fun w hw => List.mem_cons_of_mem _ hw
  have hT : ∀ w ∈ tf_BW, w.before ([.int x, .int n, .ref w9] : List Value).toArray s = true := fun w hw => hts w (hsub w hw)
  have hown : s.vm.findClass RJ3 = some m.cls := findClass_of_methodNamed B.named
  have hlocks := B.notSynchronized
  have hS : va_S A s.heap s.heap [] := va_S.rf
  have hl := lv_entry [.int x, .int n, .ref w9] (n := 3) (Nat.le_of_ble_eq_true rfl)
  rw [lg_entry_eq]
  generalize (lg_sl [.int x, .int n, .ref w9] ++ List.replicate (3 - (lg_sl [.int x, .int n, .ref w9]).length) Slot.unset).toArray = ls at hl ⊢
  have hl : lv_has ls 3 [(0, .int x), (1, .int n), (2, .ref w9)] := hl
  refine lv_iload_n hx hb dJ3_checkIndex_8e157_0 rfl (lv_at hl 0 rfl) ?_
  refine lv_if_lt (tgt := 9) hx hb dJ3_checkIndex_8e157_1 rfl (fun z => absurd z hZ.1) (fun _ => ?_)
  refine lv_iload_n hx hb dJ3_checkIndex_8e157_4 rfl (lv_at hl 0 rfl) ?_
  refine lv_iload_n hx hb dJ3_checkIndex_8e157_5 rfl (lv_at hl 1 rfl) ?_
  refine lv_icmp_lt (tgt := 16) hx hb dJ3_checkIndex_8e157_6 rfl (fun _ => ?_) (fun z => absurd hZ.2 z)
  refine lv_iload_n hx hb dJ3_checkIndex_8e157_16 rfl (lv_at hl 0 rfl) ?_
  exact W.iret hx hb hr (fun t ht hW => ⟨_, rfl, trivial, ht⟩) (fun q hq => absurd hq List.not_mem_nil) dJ3_checkIndex_8e157_17
set_option maxHeartbeats 2000000 in
set_option maxRecDepth 100000 in
theorem tv_m_sci (l : Launch) (ad : Nat → Nat) (A : Nat → Prop) {x n : Int32} : Met l yJ0_checkIndex_df160 (Jvm.Cond.code yJ0_checkIndex_df160 cJ0_checkIndex_df160 2 none :: tf_BW) (tf_rm 1) (va_Pc [.int x, .int n] (fun U => tv_S ad A U U.heap ∧ (¬ x < 0 ∧ x < n))) (va_Sv (fun _ => True)) 0 0 (fun _ => False) := by
  refine Met.ofW (cc := cJ0_checkIndex_df160) (maxL := 2) (ret := none) (by decide) rfl ?_
  intro p e s m args below meth c s₁ B hml hv
  obtain ⟨rfl, hZ⟩ := hv
  have hx := B.exec
  have hb := B.bytes
  have hr := B.returns
  have hts := atoms_spec (ws := Jvm.Cond.code yJ0_checkIndex_df160 cJ0_checkIndex_df160 2 none :: tf_BW) B.pre
  have hsub : ∀ w ∈ tf_BW, w ∈ Jvm.Cond.code yJ0_checkIndex_df160 cJ0_checkIndex_df160 2 none :: tf_BW := fun w hw => List.mem_cons_of_mem _ hw
  have hT : ∀ w ∈ tf_BW, w.before ([.int x, .int n] : List Value).toArray s = true := fun w hw => hts w (hsub w hw)
  have hown : s.vm.findClass RJ0 = some m.cls := findClass_of_methodNamed B.named
  have hlocks := B.notSynchronized
  have hS : va_S A s.heap s.heap [] := va_S.rf
  have hl := lv_entry [.int x, .int n] (n := 2) (Nat.le_of_ble_eq_true rfl)
  rw [lg_entry_eq]
  generalize (lg_sl [.int x, .int n] ++ List.replicate (2 - (lg_sl [.int x, .int n]).length) Slot.unset).toArray = ls at hl ⊢
  have hl : lv_has ls 2 [(0, .int x), (1, .int n)] := hl
  refine lv_iload_n hx hb dJ0_checkIndex_df160_0 rfl (lv_at hl 0 rfl) ?_
  refine lv_iload_n hx hb dJ0_checkIndex_df160_1 rfl (lv_at hl 1 rfl) ?_
  rcases hZ.1.2.2 with hq | ⟨w9, hq⟩
  · refine va_gets (ref := "jdk/internal/util/Preconditions") hx hb hq hS hown (hT _ (tf_isw_in (i := 523) (by decide +kernel))) (fun _ h => h) dJ0_checkIndex_df160_2 ?_
    refine vp_callSi (W.runS (As := [.int x, .int n, .null]) (rest := []) ⟨hx, hb, hml, hown, hts⟩ (tv_m_pciN l ad A) ⟨callB_of 3 hts (tf_goodBW tf_BW_good hsub (List.mem_filter.mpr ⟨List.mem_of_getElem? (i := 527) rfl, rfl⟩)) rfl rfl rfl (hT _ (tf_isw_in (i := 121) (by decide +kernel))) (hT _ (tf_isw_in (i := 525) (by decide +kernel))) ⟨by decide, by decide, by decide +kernel⟩ ⟨by decide, by decide⟩, hT _ (tf_isw_in (i := 526) (by decide +kernel))⟩ ⟨tv_Gb, fun U hU hW => ⟨rfl, hZ.2⟩⟩ rfl rfl hl.1 rfl (Nat.le_of_ble_eq_true rfl)  dJ0_checkIndex_df160_5 ⟨Nat.le_refl _, Nat.le_refl _⟩) (fun r _ => ?_)
    refine lv_pop hx hb dJ0_checkIndex_df160_8 rfl ?_
    exact W.vret hx hb hr (fun t ht hW => ⟨rfl, trivial, ht⟩) (fun q hq => absurd hq List.not_mem_nil) dJ0_checkIndex_df160_9
  · refine va_gets (ref := "jdk/internal/util/Preconditions") hx hb hq hS hown (hT _ (tf_isw_in (i := 523) (by decide +kernel))) (fun _ h => h) dJ0_checkIndex_df160_2 ?_
    refine vp_callSi (W.runS (As := [.int x, .int n, .ref w9]) (rest := []) ⟨hx, hb, hml, hown, hts⟩ (tv_m_pciR l ad A) ⟨callB_of 3 hts (tf_goodBW tf_BW_good hsub (List.mem_filter.mpr ⟨List.mem_of_getElem? (i := 527) rfl, rfl⟩)) rfl rfl rfl (hT _ (tf_isw_in (i := 121) (by decide +kernel))) (hT _ (tf_isw_in (i := 525) (by decide +kernel))) ⟨by decide, by decide, by decide +kernel⟩ ⟨by decide, by decide⟩, hT _ (tf_isw_in (i := 526) (by decide +kernel))⟩ ⟨tv_Gb, fun U hU hW => ⟨rfl, hZ.2⟩⟩ rfl rfl hl.1 rfl (Nat.le_of_ble_eq_true rfl)  dJ0_checkIndex_df160_5 ⟨Nat.le_refl _, Nat.le_refl _⟩) (fun r _ => ?_)
    refine lv_pop hx hb dJ0_checkIndex_df160_8 rfl ?_
    exact W.vret hx hb hr (fun t ht hW => ⟨rfl, trivial, ht⟩) (fun q hq => absurd hq List.not_mem_nil) dJ0_checkIndex_df160_9
set_option maxHeartbeats 2000000 in
set_option maxRecDepth 100000 in
theorem tv_m_lcharAt (l : Launch) (ad : Nat → Nat) (A : Nat → Prop) {i : Nat} (hi : i < 15) {x : Int32} (hin : vp_in x (tv_len.getD i 0)) : Met l yJ1_charAt_3b067 (Jvm.Cond.code yJ1_charAt_3b067 cJ1_charAt_3b067 2 (some .char) :: tf_BW) (tf_rm 2) (va_Pc [.ref (ad (450 + i)), .int x] (fun U => tv_S ad A U U.heap)) (vp_Si (fun r => r = tv_ch i x.toNatClampNeg)) 0 0 (fun _ => False) := by
  refine Met.ofW (cc := cJ1_charAt_3b067) (maxL := 2) (ret := (some .char)) (by decide) rfl ?_
  intro p e s m args below meth c s₁ B hml hv
  obtain ⟨rfl, hZ⟩ := hv
  have hx := B.exec
  have hb := B.bytes
  have hr := B.returns
  have hts := atoms_spec (ws := Jvm.Cond.code yJ1_charAt_3b067 cJ1_charAt_3b067 2 (some .char) :: tf_BW) B.pre
  have hsub : ∀ w ∈ tf_BW, w ∈ Jvm.Cond.code yJ1_charAt_3b067 cJ1_charAt_3b067 2 (some .char) :: tf_BW := fun w hw => List.mem_cons_of_mem _ hw
  have hT : ∀ w ∈ tf_BW, w.before ([.ref (ad (450 + i)), .int x] : List Value).toArray s = true := fun w hw => hts w (hsub w hw)
  have hown : s.vm.findClass RJ1 = some m.cls := findClass_of_methodNamed B.named
  have hlocks := B.notSynchronized
  have hS : va_S A s.heap s.heap [] := va_S.rf
  have hl := lv_entry [.ref (ad (450 + i)), .int x] (n := 2) (Nat.le_of_ble_eq_true rfl)
  rw [lg_entry_eq]
  generalize (lg_sl [.ref (ad (450 + i)), .int x] ++ List.replicate (2 - (lg_sl [.ref (ad (450 + i)), .int x]).length) Slot.unset).toArray = ls at hl ⊢
  have hl : lv_has ls 2 [(0, .ref (ad (450 + i))), (1, .int x)] := hl
  have hlt : x.toNatClampNeg < tv_len.getD i 0 := Nat.not_le.mp fun q => hin (Or.inr q)
  have hx0 : ¬ x < 0 := fun q => hin (Or.inl q)
  have hl8 := tv_c4 i hi
  have hxn : x < nI (tv_len.getD i 0) := by
    obtain ⟨j, hj, e⟩ := nI_of hx0
    subst e
    rw [nI_clamp hj] at hlt
    exact nI_lt hlt (by omega)
  refine lv_iload_n hx hb dJ1_charAt_3b067_0 rfl (lv_at hl 1 rfl) ?_
  refine lv_aload_n hx hb dJ1_charAt_3b067_1 rfl (lv_at hl 0 rfl) ?_
  refine va_tlen (v := nI (tv_len.getD i 0)) hx hb (hZ.1.1 i hi).2.2.2 hS rfl dJ1_charAt_3b067_2 ?_
  refine va_csv (W.runS (As := [.int x, .int (nI (tv_len.getD i 0))]) (rest := []) ⟨hx, hb, hml, hown, hts⟩ (tv_m_sci l ad A) ⟨callB_of 2 hts (tf_goodBW tf_BW_good hsub (List.mem_filter.mpr ⟨List.mem_of_getElem? (i := 522) rfl, rfl⟩)) rfl rfl rfl (hT _ (tf_isw_in (i := 119) (by decide +kernel))) (hT _ (tf_isw_in (i := 520) (by decide +kernel))) ⟨by decide, by decide, by decide +kernel⟩ ⟨by decide, by decide⟩, hT _ (tf_isw_in (i := 521) (by decide +kernel))⟩ ⟨tv_Sxb, fun U hU hW => ⟨rfl, (by show tv_S ad A U U.heap; rw [hU]; exact tv_S.moved hW.alike hZ), hx0, hxn⟩⟩ rfl rfl hl.1 rfl (Nat.le_of_ble_eq_true rfl)  dJ1_charAt_3b067_3 ⟨Nat.le_refl _, Nat.le_refl _⟩) (fun _ => ?_)
  refine lv_aload_n hx hb dJ1_charAt_3b067_6 rfl (lv_at hl 0 rfl) ?_
  refine lv_iload_n hx hb dJ1_charAt_3b067_7 rfl (lv_at hl 1 rfl) ?_
  refine va_tb (v := .int (tv_ch i x.toNatClampNeg)) hx hb (hZ.1.1 i hi).2.2.2 hS hin rfl dJ1_charAt_3b067_8 ?_
  refine lv_sipush (v := 255) hx hb dJ1_charAt_3b067_9 rfl ?_
  refine lv_iand hx hb dJ1_charAt_3b067_12 ?_
  refine lv_i2c (v := tv_ch i x.toNatClampNeg) hx hb dJ1_charAt_3b067_13 (tv_c2 i hi _ hlt).1 ?_
  exact W.zret hx hb hr (tv_c2 i hi _ hlt).2 (fun t ht hW => ⟨_, rfl, rfl, ht⟩) (fun q hq => absurd hq List.not_mem_nil) dJ1_charAt_3b067_14
set_option maxHeartbeats 2000000 in
set_option maxRecDepth 100000 in
theorem tv_m_charAt (l : Launch) (ad : Nat → Nat) (A : Nat → Prop) {i : Nat} (hi : i < 15) {x : Int32} (hin : vp_in x (tv_len.getD i 0)) : Met l yJ0_charAt_5068e (Jvm.Cond.code yJ0_charAt_5068e cJ0_charAt_5068e 2 (some .char) :: tf_BW) (tf_rm 3) (va_Pc [.ref (ad (430 + i)), .int x] (fun U => tv_S ad A U U.heap)) (vp_Si (fun r => r = tv_ch i x.toNatClampNeg)) 0 0 (fun _ => False) := by
  refine Met.ofW (cc := cJ0_charAt_5068e) (maxL := 2) (ret := (some .char)) (by decide) rfl ?_
  intro p e s m args below meth c s₁ B hml hv
  obtain ⟨rfl, hZ⟩ := hv
  have hx := B.exec
  have hb := B.bytes
  have hr := B.returns
  have hts := atoms_spec (ws := Jvm.Cond.code yJ0_charAt_5068e cJ0_charAt_5068e 2 (some .char) :: tf_BW) B.pre
  have hsub : ∀ w ∈ tf_BW, w ∈ Jvm.Cond.code yJ0_charAt_5068e cJ0_charAt_5068e 2 (some .char) :: tf_BW := fun w hw => List.mem_cons_of_mem _ hw
  have hT : ∀ w ∈ tf_BW, w.before ([.ref (ad (430 + i)), .int x] : List Value).toArray s = true := fun w hw => hts w (hsub w hw)
  have hown : s.vm.findClass RJ0 = some m.cls := findClass_of_methodNamed B.named
  have hlocks := B.notSynchronized
  have hS : va_S A s.heap s.heap [] := va_S.rf
  have hl := lv_entry [.ref (ad (430 + i)), .int x] (n := 2) (Nat.le_of_ble_eq_true rfl)
  rw [lg_entry_eq]
  generalize (lg_sl [.ref (ad (430 + i)), .int x] ++ List.replicate (2 - (lg_sl [.ref (ad (430 + i)), .int x]).length) Slot.unset).toArray = ls at hl ⊢
  have hl : lv_has ls 2 [(0, .ref (ad (430 + i))), (1, .int x)] := hl
  have hlt : x.toNatClampNeg < tv_len.getD i 0 := Nat.not_le.mp fun q => hin (Or.inr q)
  refine lv_aload_n hx hb dJ0_charAt_5068e_0 rfl (lv_at hl 0 rfl) ?_
  have hrv := vk_recv hZ.1 hi hS
  refine vp_callSi (W.runV (As := []) (rest := []) (b := ad (430 + i)) (C := RJ0) ⟨hx, hb, hml, hown, hts⟩ (tv_m_isLatin1 l ad A hi) ⟨callB_of 0 hts (tf_goodBW tf_BW_good hsub (List.mem_filter.mpr ⟨List.mem_of_getElem? (i := 516) rfl, rfl⟩)) rfl rfl rfl (hT _ (tf_isw_in (i := 119) (by decide +kernel))) (hT _ (tf_isw_in (i := 513) (by decide +kernel))) ⟨by decide, by decide, by decide +kernel⟩ ⟨by decide, by decide⟩, hT _ (tf_isw_in (i := 514) (by decide +kernel)), hT _ (tf_isw_in (i := 515) (by decide +kernel))⟩ ⟨tv_Sb, hrv, fun U hU hW => ⟨rfl, by show tv_S ad A U U.heap; rw [hU]; exact tv_S.moved hW.alike hZ⟩⟩ rfl rfl hl.1 rfl (Nat.le_of_ble_eq_true rfl)  dJ0_charAt_5068e_1 ⟨Nat.le_refl _, Nat.le_refl _⟩) (fun r hr9 => ?_)
  subst hr9
  refine lv_if_eq (tgt := 16) hx hb dJ0_charAt_5068e_4 rfl (fun z => absurd z (by decide)) (fun _ => ?_)
  refine lv_aload_n hx hb dJ0_charAt_5068e_7 rfl (lv_at hl 0 rfl) ?_
  refine vk_getf (ref := "java/lang/String") hx hb (hZ.1.1 i hi).2.2.1 hS hown (hT _ (tf_isw_in (i := 1770) (by decide +kernel))) (fun _ h => h) dJ0_charAt_5068e_8 ?_
  refine lv_iload_n hx hb dJ0_charAt_5068e_11 rfl (lv_at hl 1 rfl) ?_
  refine vp_callSi (W.runS (As := [.ref (ad (450 + i)), .int x]) (rest := []) ⟨hx, hb, hml, hown, hts⟩ (tv_m_lcharAt l ad A hi hin) ⟨callB_of 2 hts (tf_goodBW tf_BW_good hsub (List.mem_filter.mpr ⟨List.mem_of_getElem? (i := 519) rfl, rfl⟩)) rfl rfl rfl (hT _ (tf_isw_in (i := 120) (by decide +kernel))) (hT _ (tf_isw_in (i := 517) (by decide +kernel))) ⟨by decide, by decide, by decide +kernel⟩ ⟨by decide, by decide⟩, hT _ (tf_isw_in (i := 518) (by decide +kernel))⟩ ⟨tv_Sb, fun U hU hW => ⟨rfl, by show tv_S ad A U U.heap; rw [hU]; exact tv_S.moved hW.alike hZ⟩⟩ rfl rfl hl.1 rfl (Nat.le_of_ble_eq_true rfl)  dJ0_charAt_5068e_12 ⟨Nat.le_refl _, Nat.le_refl _⟩) (fun r hr9 => ?_)
  subst hr9
  exact W.zret hx hb hr (tv_c2 i hi _ hlt).2 (fun t ht hW => ⟨_, rfl, rfl, ht⟩) (fun q hq => absurd hq List.not_mem_nil) dJ0_charAt_5068e_15
set_option maxHeartbeats 2000000 in
set_option maxRecDepth 100000 in
theorem tv_m_ordinal (l : Launch) (ad : Nat → Nat) (A : Nat → Prop) {i : Nat} (hi : i < 15) : Met l yJx29ce0_ordinal_8abf5 (Jvm.Cond.code yJx29ce0_ordinal_8abf5 cJx29ce0_ordinal_8abf5 1 (some .int) :: tf_BW) (tf_rm 0) (va_Pc [.ref (ad (400 + i))] (fun U => tv_V ad A U U.heap)) (vp_Si (fun r => r = nI i)) 0 0 (fun _ => False) := by
  refine Met.ofW (cc := cJx29ce0_ordinal_8abf5) (maxL := 1) (ret := (some .int)) (by decide) rfl ?_
  intro p e s m args below meth c s₁ B hml hv
  obtain ⟨rfl, hZ⟩ := hv
  have hx := B.exec
  have hb := B.bytes
  have hr := B.returns
  have hts := atoms_spec (ws := Jvm.Cond.code yJx29ce0_ordinal_8abf5 cJx29ce0_ordinal_8abf5 1 (some .int) :: tf_BW) B.pre
  have hsub : ∀ w ∈ tf_BW, w ∈ Jvm.Cond.code yJx29ce0_ordinal_8abf5 cJx29ce0_ordinal_8abf5 1 (some .int) :: tf_BW := fun w hw => List.mem_cons_of_mem _ hw
  have hT : ∀ w ∈ tf_BW, w.before ([.ref (ad (400 + i))] : List Value).toArray s = true := fun w hw => hts w (hsub w hw)
  have hown : s.vm.findClass RJx29ce0 = some m.cls := findClass_of_methodNamed B.named
  have hlocks := B.notSynchronized
  have hS : va_S A s.heap s.heap [] := va_S.rf
  have hl := lv_entry [.ref (ad (400 + i))] (n := 1) (Nat.le_of_ble_eq_true rfl)
  rw [lg_entry_eq]
  generalize (lg_sl [.ref (ad (400 + i))] ++ List.replicate (1 - (lg_sl [.ref (ad (400 + i))]).length) Slot.unset).toArray = ls at hl ⊢
  have hl : lv_has ls 1 [(0, .ref (ad (400 + i)))] := hl
  refine lv_aload_n hx hb dJx29ce0_ordinal_8abf5_0 rfl (lv_at hl 0 rfl) ?_
  refine va_getE (i := i) (ref := "java/lang/Enum") (q := ("java/lang/Enum", "ordinal", "I", tv_ord)) hx hb hZ.1 hi hS hown (by simp [tv_F]) (hT _ (tf_isw_in (i := 1772) (by decide +kernel))) (fun _ h => h) dJx29ce0_ordinal_8abf5_1 ?_
  exact W.iret hx hb hr (fun t ht hW => ⟨_, rfl, tv_c3 i hi, ht⟩) (fun q hq => absurd hq List.not_mem_nil) dJx29ce0_ordinal_8abf5_4
set_option maxHeartbeats 2000000 in
set_option maxRecDepth 100000 in
theorem tv_m_numbers (l : Launch) (ad : Nat → Nat) (A : Nat → Prop) {i : Nat} (hi : i < 15) {x : Int32} : Met l yX7_numbers (Jvm.Cond.code yX7_numbers cX7_numbers 2 (some .int) :: tf_BW) (tf_rm 0) (va_Pc [.ref (ad (400 + i)), .int x] (fun U => tv_V ad A U U.heap)) (vp_Si (fun r => r = if x = 0 then tv_g.getD i 0 else tv_o.getD i 0)) 0 0 (fun _ => False) := by
  refine Met.ofW (cc := cX7_numbers) (maxL := 2) (ret := (some .int)) (by decide) rfl ?_
  intro p e s m args below meth c s₁ B hml hv
  obtain ⟨rfl, hZ⟩ := hv
  have hx := B.exec
  have hb := B.bytes
  have hr := B.returns
  have hts := atoms_spec (ws := Jvm.Cond.code yX7_numbers cX7_numbers 2 (some .int) :: tf_BW) B.pre
  have hsub : ∀ w ∈ tf_BW, w ∈ Jvm.Cond.code yX7_numbers cX7_numbers 2 (some .int) :: tf_BW := fun w hw => List.mem_cons_of_mem _ hw
  have hT : ∀ w ∈ tf_BW, w.before ([.ref (ad (400 + i)), .int x] : List Value).toArray s = true := fun w hw => hts w (hsub w hw)
  have hown : s.vm.findClass RX7 = some m.cls := findClass_of_methodNamed B.named
  have hlocks := B.notSynchronized
  have hS : va_S A s.heap s.heap [] := va_S.rf
  have hl := lv_entry [.ref (ad (400 + i)), .int x] (n := 2) (Nat.le_of_ble_eq_true rfl)
  rw [lg_entry_eq]
  generalize (lg_sl [.ref (ad (400 + i)), .int x] ++ List.replicate (2 - (lg_sl [.ref (ad (400 + i)), .int x]).length) Slot.unset).toArray = ls at hl ⊢
  have hl : lv_has ls 2 [(0, .ref (ad (400 + i))), (1, .int x)] := hl
  refine lv_iload_n hx hb dX7_numbers_0 rfl (lv_at hl 1 rfl) ?_
  refine lv_if_eq (tgt := 11) hx hb dX7_numbers_1 rfl (fun z => ?_) (fun z => ?_)
  · refine lv_aload_n hx hb dX7_numbers_11 rfl (lv_at hl 0 rfl) ?_
    refine va_getE (i := i) (ref := "TreeFlows$Verb") (q := ("TreeFlows$Verb", "inGrid", "I", tv_g)) hx hb hZ.1 hi hS hown (by simp [tv_F]) (hT _ (tf_isw_in (i := 1768) (by decide +kernel))) (fun _ h => h) dX7_numbers_12 ?_
    exact W.iret hx hb hr (fun t ht hW => ⟨_, rfl, (if_pos z).symm, ht⟩) (fun q hq => absurd hq List.not_mem_nil) dX7_numbers_15
  · refine lv_aload_n hx hb dX7_numbers_4 rfl (lv_at hl 0 rfl) ?_
    refine va_getE (i := i) (ref := "TreeFlows$Verb") (q := ("TreeFlows$Verb", "inOrders", "I", tv_o)) hx hb hZ.1 hi hS hown (by simp [tv_F]) (hT _ (tf_isw_in (i := 1767) (by decide +kernel))) (fun _ h => h) dX7_numbers_5 ?_
    refine lv_goto (tgt := 15) hx hb dX7_numbers_8 rfl ?_
    exact W.iret hx hb hr (fun t ht hW => ⟨_, rfl, (if_neg z).symm, ht⟩) (fun q hq => absurd hq List.not_mem_nil) dX7_numbers_15
theorem vi9 {j : Nat} (h : j < 15) : ¬ nI j < 0 := nI_pos (by omega)
section TVH
variable {p : Program} {l : Launch} {e : Env} {R : Room} {s : State} {m : MethodId} {args : Array Value} {below : List Frame} {meth : Method} {c : Code} {QW : State → Prop}
variable {cc : ByteArray} {D : va_G} {cA : Nat → ClassId} {ad : Nat → Nat} {A : Nat → Prop} {nL cells slots : Nat} {Ts : List Jvm.Cond}
set_option maxHeartbeats 1000000 in
set_option maxRecDepth 100000 in
theorem tv_ok0 (hx : p.tables.exec = Jvm.exec) (hb : c.code = cc) (hml : c.maxLocals = nL) (hown : s.vm.findClass RX4 = some m.cls) (hts : ∀ w ∈ Ts, w.before args s = true) (hsub : ∀ w ∈ tf_BW, w ∈ Ts) (hK : va_K D vwCl (tf_ty cA) s) (hj : tf_inj ad 298) (hA : ∀ d, d < 298 → A (ad d)) (hSX : tf_SX 298 ad A s s.heap) {pc pr : Nat} {L st : List Value} {h : LH} (hd : decode cc pc = .ok (.getstatic pr, 3)) (hpr : pr = 85 ∨ pr = 122 ∨ pr = 137 ∨ pr = 141 ∨ pr = 144 ∨ pr = 147 ∨ pr = 150) (hk : tf_At (fun H locs g => W p l e R s m args below meth c H locs cells slots QW g) m s.heap D cA ad A 298 nL (pc + 3) L (.ref (tv_hs pr) :: st) h) : tf_At (fun H locs g => W p l e R s m args below meth c H locs cells slots QW g) m s.heap D cA ad A 298 nL (pc) L st h := by
  intro H locs ls hP hS hL
  have hV := (hSX.2.2 rfl).1
  have hZ := (hSX.2.2 rfl).2
  have hT : ∀ w ∈ tf_BW, w.before args s = true := fun w hw => hts w (hsub w hw)
  rcases hpr with rfl | rfl | rfl | rfl | rfl | rfl | rfl
  · exact va_getsN (ref := "TreeFlows$Verb") (host := RX8) hx hb hV.2.2.1.1 hS hown (va_tabs rfl rfl (hSX.2.1 rfl)) (fun _ h => h) hd (hk H locs ls hP hS hL)
  · exact va_gets (ref := "TreeFlows$1") hx hb hV.2.2.2.1 hS hown (hT _ (tf_isw_in (i := 563) (by decide +kernel))) (fun _ h => h) hd (hk H locs ls hP hS hL)
  · exact va_gets (ref := "TreeFlows$Verb") (n := "SUPPLY") (v := .ref (ad 403)) hx hb (hV.1.1 3 (by decide)).1 hS hown (hT _ (tf_isw_in (i := 597) (by decide +kernel))) (fun _ h => h) hd (hk H locs ls hP hS hL)
  · exact va_gets (ref := "TreeFlows$Verb") (n := "WANT") (v := .ref (ad 404)) hx hb (hV.1.1 4 (by decide)).1 hS hown (hT _ (tf_isw_in (i := 599) (by decide +kernel))) (fun _ h => h) hd (hk H locs ls hP hS hL)
  · exact va_gets (ref := "TreeFlows$Verb") (n := "ARC") (v := .ref (ad 401)) hx hb (hV.1.1 1 (by decide)).1 hS hown (hT _ (tf_isw_in (i := 583) (by decide +kernel))) (fun _ h => h) hd (hk H locs ls hP hS hL)
  · exact va_gets (ref := "TreeFlows$Verb") (n := "GAIN") (v := .ref (ad 402)) hx hb (hV.1.1 2 (by decide)).1 hS hown (hT _ (tf_isw_in (i := 585) (by decide +kernel))) (fun _ h => h) hd (hk H locs ls hP hS hL)
  · exact va_gets (ref := "TreeFlows$Verb") (n := "POINTS") (v := .ref (ad 400)) hx hb (hV.1.1 0 (by decide)).1 hS hown (hT _ (tf_isw_in (i := 595) (by decide +kernel))) (fun _ h => h) hd (hk H locs ls hP hS hL)
set_option maxHeartbeats 1000000 in
set_option maxRecDepth 100000 in
theorem tv_ok1 (hx : p.tables.exec = Jvm.exec) (hb : c.code = cc) (hml : c.maxLocals = nL) (hown : s.vm.findClass RX4 = some m.cls) (hts : ∀ w ∈ Ts, w.before args s = true) (hsub : ∀ w ∈ tf_BW, w ∈ Ts) (hK : va_K D vwCl (tf_ty cA) s) (hj : tf_inj ad 298) (hA : ∀ d, d < 298 → A (ad d)) (hSX : tf_SX 298 ad A s s.heap) {pc i : Nat} {L st : List Value} {h : LH} (hd : decode cc pc = .ok (.getfield 88, 3)) (hi : i < 15) (hk : tf_At (fun H locs g => W p l e R s m args below meth c H locs cells slots QW g) m s.heap D cA ad A 298 nL (pc + 3) L (.ref (430 + i) :: st) h) : tf_At (fun H locs g => W p l e R s m args below meth c H locs cells slots QW g) m s.heap D cA ad A 298 nL (pc) L (.ref (400 + i) :: st) h := by
  intro H locs ls hP hS hL
  have hV := (hSX.2.2 rfl).1
  have hZ := (hSX.2.2 rfl).2
  have hT : ∀ w ∈ tf_BW, w.before args s = true := fun w hw => hts w (hsub w hw)
  exact va_getX (i := i) (ref := "TreeFlows$Verb") hx hb hV.2.1 hi hS hown (hT _ (tf_isw_in (i := 1769) (by decide +kernel))) (fun _ h => h) hd (hk H locs ls hP hS hL)
set_option maxHeartbeats 1000000 in
set_option maxRecDepth 100000 in
theorem tv_ok2 (hx : p.tables.exec = Jvm.exec) (hb : c.code = cc) (hml : c.maxLocals = nL) (hown : s.vm.findClass RX4 = some m.cls) (hts : ∀ w ∈ Ts, w.before args s = true) (hsub : ∀ w ∈ tf_BW, w ∈ Ts) (hK : va_K D vwCl (tf_ty cA) s) (hj : tf_inj ad 298) (hA : ∀ d, d < 298 → A (ad d)) (hSX : tf_SX 298 ad A s s.heap) {pc : Nat} {L st : List Value} {h : LH} (hd : decode cc pc = .ok (.arraylength, 1)) (hk : tf_At (fun H locs g => W p l e R s m args below meth c H locs cells slots QW g) m s.heap D cA ad A 298 nL (pc + 1) L (.int 15 :: st) h) : tf_At (fun H locs g => W p l e R s m args below meth c H locs cells slots QW g) m s.heap D cA ad A 298 nL (pc) L (.ref 420 :: st) h := by
  intro H locs ls hP hS hL
  have hV := (hSX.2.2 rfl).1
  have hZ := (hSX.2.2 rfl).2
  have hT : ∀ w ∈ tf_BW, w.before args s = true := fun w hw => hts w (hsub w hw)
  exact va_tlen (v := 15) hx hb hV.2.2.1.2 hS rfl hd (hk H locs ls hP hS hL)
set_option maxHeartbeats 1000000 in
set_option maxRecDepth 100000 in
theorem tv_ok3 (hx : p.tables.exec = Jvm.exec) (hb : c.code = cc) (hml : c.maxLocals = nL) (hown : s.vm.findClass RX4 = some m.cls) (hts : ∀ w ∈ Ts, w.before args s = true) (hsub : ∀ w ∈ tf_BW, w ∈ Ts) (hK : va_K D vwCl (tf_ty cA) s) (hj : tf_inj ad 298) (hA : ∀ d, d < 298 → A (ad d)) (hSX : tf_SX 298 ad A s s.heap) {pc : Nat} {i : Int32} {L st : List Value} {h : LH} (hd : decode cc pc = .ok (.aaload, 1)) (hi : vp_in i 15) (hk : tf_At (fun H locs g => W p l e R s m args below meth c H locs cells slots QW g) m s.heap D cA ad A 298 nL (pc + 1) L (.ref (400 + i.toNatClampNeg) :: st) h) : tf_At (fun H locs g => W p l e R s m args below meth c H locs cells slots QW g) m s.heap D cA ad A 298 nL (pc) L (.int i :: .ref 420 :: st) h := by
  intro H locs ls hP hS hL
  have hV := (hSX.2.2 rfl).1
  have hZ := (hSX.2.2 rfl).2
  have hT : ∀ w ∈ tf_BW, w.before args s = true := fun w hw => hts w (hsub w hw)
  exact vb_tq hx hb hV.2.2.1.2 hS hi rfl hd (hk H locs ls hP hS hL)
set_option maxHeartbeats 1000000 in
set_option maxRecDepth 100000 in
theorem tv_ok4 (hx : p.tables.exec = Jvm.exec) (hb : c.code = cc) (hml : c.maxLocals = nL) (hown : s.vm.findClass RX4 = some m.cls) (hts : ∀ w ∈ Ts, w.before args s = true) (hsub : ∀ w ∈ tf_BW, w ∈ Ts) (hK : va_K D vwCl (tf_ty cA) s) (hj : tf_inj ad 298) (hA : ∀ d, d < 298 → A (ad d)) (hSX : tf_SX 298 ad A s s.heap) {pc x : Nat} {i : Int32} {L st : List Value} {h : LH} (hd : decode cc pc = .ok (.aaload, 1)) (kx : tf_K x = 15) (lx : x < 298) (hi : vp_in i (tf_N x)) (hv : vp_in (h.1 x i.toNatClampNeg) 15) (hk : tf_At (fun H locs g => W p l e R s m args below meth c H locs cells slots QW g) m s.heap D cA ad A 298 nL (pc + 1) L (.ref (400 + (h.1 x i.toNatClampNeg).toNatClampNeg) :: st) h) : tf_At (fun H locs g => W p l e R s m args below meth c H locs cells slots QW g) m s.heap D cA ad A 298 nL (pc) L (.int i :: .ref x :: st) h := by
  intro H locs ls hP hS hL
  have hV := (hSX.2.2 rfl).1
  have hZ := (hSX.2.2 rfl).2
  have hT : ∀ w ∈ tf_BW, w.before args s = true := fun w hw => hts w (hsub w hw)
  have e9 : va_rf (tf_vb ad (h.1 x i.toNatClampNeg)) = .ref (ad (400 + (h.1 x i.toNatClampNeg).toNatClampNeg)) := by
    unfold tf_vb
    rw [if_neg (fun q => hv (Or.inl q))]
    rfl
  refine va_aldq hx hb hK hP x 7 (C := "TreeFlows$Verb") (f := fun j => tf_vb ad (h.1 x j)) (n := tf_N x) (cA := cA 15) (by rw [tf_ws_get lx, tf_E, kx]; rfl) rfl hi hd ?_
  show W p l e R s m args below meth c H locs cells slots QW (F0 m (pc + 1) ls (va_rf (tf_vb ad (h.1 x i.toNatClampNeg)) :: _))
  rw [e9]
  exact (hk H locs ls hP hS hL)
set_option maxHeartbeats 1000000 in
set_option maxRecDepth 100000 in
theorem tv_ok5 (hx : p.tables.exec = Jvm.exec) (hb : c.code = cc) (hml : c.maxLocals = nL) (hown : s.vm.findClass RX4 = some m.cls) (hts : ∀ w ∈ Ts, w.before args s = true) (hsub : ∀ w ∈ tf_BW, w ∈ Ts) (hK : va_K D vwCl (tf_ty cA) s) (hj : tf_inj ad 298) (hA : ∀ d, d < 298 → A (ad d)) (hSX : tf_SX 298 ad A s s.heap) {pc x j : Nat} {i : Int32} {L st : List Value} {h : LH} (hd : decode cc pc = .ok (.aastore, 1)) (hj15 : j < 15) (kx : tf_K x = 15) (lx : x < 298) (hi : vp_in i (tf_N x)) (hk : tf_At (fun H locs g => W p l e R s m args below meth c H locs cells slots QW g) m s.heap D cA ad A 298 nL (pc + 1) L st (tf_up h.1 x i.toNatClampNeg (nI j), h.2)) : tf_At (fun H locs g => W p l e R s m args below meth c H locs cells slots QW g) m s.heap D cA ad A 298 nL (pc) L (.ref (400 + j) :: .int i :: .ref x :: st) h := by
  intro H locs ls hP hS hL
  have hV := (hSX.2.2 rfl).1
  have hZ := (hSX.2.2 rfl).2
  have hT : ∀ w ∈ tf_BW, w.before args s = true := fun w hw => hts w (hsub w hw)
  have hrv := va_recvE hV.1 hj15 hS
  refine vb_astq hx hb hK hP (tf_ws_D hj hA) hS x 7 (E := "TreeFlows$Verb") (C := "TreeFlows$Verb") (f := fun k => tf_vb ad (h.1 x k)) (n := tf_N x) (cA := cA 15) (v := ad (400 + j)) (by rw [tf_ws_get lx, tf_E, kx]; rfl) rfl hrv vb_asgS hi hd (fun H1 locs1 hP1 hD1 hS1 => ?_)
  have e : va_up (fun k => tf_vb ad (h.1 x k)) i.toNatClampNeg (some (ad (400 + j))) = fun k => tf_vb ad ((tf_up h.1 x i.toNatClampNeg (nI j)) x k) := by
    funext k
    unfold va_up tf_up upd
    rw [if_pos rfl]
    by_cases hk9 : k = i.toNatClampNeg
    · rw [if_pos hk9, if_pos hk9]
      unfold tf_vb
      rw [if_neg (vi9 hj15), nI_clamp (by omega)]
    · rw [if_neg hk9, if_neg hk9]
  rw [e, tf_ws_set (h' := (tf_up h.1 x i.toNatClampNeg (nI j), h.2)) (by rw [tf_E, kx]; rfl) (fun d hd => tf_E_up hd)] at hP1
  exact hk H1 locs1 ls hP1 hS1 hL
set_option maxHeartbeats 1000000 in
set_option maxRecDepth 100000 in
theorem tv_ok6 (hx : p.tables.exec = Jvm.exec) (hb : c.code = cc) (hml : c.maxLocals = nL) (hown : s.vm.findClass RX4 = some m.cls) (hts : ∀ w ∈ Ts, w.before args s = true) (hsub : ∀ w ∈ tf_BW, w ∈ Ts) (hK : va_K D vwCl (tf_ty cA) s) (hj : tf_inj ad 298) (hA : ∀ d, d < 298 → A (ad d)) (hSX : tf_SX 298 ad A s s.heap) {pc : Nat} {i : Int32} {L st : List Value} {h : LH} (hd : decode cc pc = .ok (.iaload, 1)) (hi : vp_in i 15) (hk : tf_At (fun H locs g => W p l e R s m args below meth c H locs cells slots QW g) m s.heap D cA ad A 298 nL (pc + 1) L (.int (tv_sm.getD i.toNatClampNeg 0) :: st) h) : tf_At (fun H locs g => W p l e R s m args below meth c H locs cells slots QW g) m s.heap D cA ad A 298 nL (pc) L (.int i :: .ref 421 :: st) h := by
  intro H locs ls hP hS hL
  have hV := (hSX.2.2 rfl).1
  have hZ := (hSX.2.2 rfl).2
  have hT : ∀ w ∈ tf_BW, w.before args s = true := fun w hw => hts w (hsub w hw)
  exact va_ti hx hb hV.2.2.2.2 hS hi rfl hd (hk H locs ls hP hS hL)
set_option maxHeartbeats 1000000 in
set_option maxRecDepth 100000 in
theorem tv_ok7 (hx : p.tables.exec = Jvm.exec) (hb : c.code = cc) (hml : c.maxLocals = nL) (hown : s.vm.findClass RX4 = some m.cls) (hts : ∀ w ∈ Ts, w.before args s = true) (hsub : ∀ w ∈ tf_BW, w ∈ Ts) (hK : va_K D vwCl (tf_ty cA) s) (hj : tf_inj ad 298) (hA : ∀ d, d < 298 → A (ad d)) (hSX : tf_SX 298 ad A s s.heap) {pc pr i j : Nat} {L st : List Value} {h : LH} (hd : decode cc pc = .ok (.if_acmp .eq (pr : Int), 3)) (hi : i < 15) (hj15 : j < 15) (hk1 :  i = j → tf_At (fun H locs g => W p l e R s m args below meth c H locs cells slots QW g) m s.heap D cA ad A 298 nL (pc + pr) L st h) (hk2 : ¬ i = j → tf_At (fun H locs g => W p l e R s m args below meth c H locs cells slots QW g) m s.heap D cA ad A 298 nL (pc + 3) L st h) : tf_At (fun H locs g => W p l e R s m args below meth c H locs cells slots QW g) m s.heap D cA ad A 298 nL (pc) L (.ref (400 + j) :: .ref (400 + i) :: st) h := by
  intro H locs ls hP hS hL
  have hV := (hSX.2.2 rfl).1
  have hZ := (hSX.2.2 rfl).2
  have hT : ∀ w ∈ tf_BW, w.before args s = true := fun w hw => hts w (hsub w hw)
  have e1 : some (ad (400 + i)) = some (ad (400 + j)) → i = j := fun z => hV.1.2 i j hi hj15 (Option.some.inj z)
  have e2 : i = j → some (ad (400 + i)) = some (ad (400 + j)) := fun z => by rw [z]
  exact lv_acmp_eq (rx := some (ad (400 + i))) (ry := some (ad (400 + j))) (tgt := pc + pr) hx hb hd (by omega) (fun z => hk1 (e1 z) H locs ls hP hS hL) (fun z => hk2 (fun q => z (e2 q)) H locs ls hP hS hL)
set_option maxHeartbeats 1000000 in
set_option maxRecDepth 100000 in
theorem tv_ok8 (hx : p.tables.exec = Jvm.exec) (hb : c.code = cc) (hml : c.maxLocals = nL) (hown : s.vm.findClass RX4 = some m.cls) (hts : ∀ w ∈ Ts, w.before args s = true) (hsub : ∀ w ∈ tf_BW, w ∈ Ts) (hK : va_K D vwCl (tf_ty cA) s) (hj : tf_inj ad 298) (hA : ∀ d, d < 298 → A (ad d)) (hSX : tf_SX 298 ad A s s.heap) {pc pr i j : Nat} {L st : List Value} {h : LH} (hd : decode cc pc = .ok (.if_acmp .ne (pr : Int), 3)) (hi : i < 15) (hj15 : j < 15) (hk1 : ¬ i = j → tf_At (fun H locs g => W p l e R s m args below meth c H locs cells slots QW g) m s.heap D cA ad A 298 nL (pc + pr) L st h) (hk2 :  i = j → tf_At (fun H locs g => W p l e R s m args below meth c H locs cells slots QW g) m s.heap D cA ad A 298 nL (pc + 3) L st h) : tf_At (fun H locs g => W p l e R s m args below meth c H locs cells slots QW g) m s.heap D cA ad A 298 nL (pc) L (.ref (400 + j) :: .ref (400 + i) :: st) h := by
  intro H locs ls hP hS hL
  have hV := (hSX.2.2 rfl).1
  have hZ := (hSX.2.2 rfl).2
  have hT : ∀ w ∈ tf_BW, w.before args s = true := fun w hw => hts w (hsub w hw)
  have e1 : some (ad (400 + i)) = some (ad (400 + j)) → i = j := fun z => hV.1.2 i j hi hj15 (Option.some.inj z)
  have e2 : i = j → some (ad (400 + i)) = some (ad (400 + j)) := fun z => by rw [z]
  exact lv_acmp_ne (rx := some (ad (400 + i))) (ry := some (ad (400 + j))) (tgt := pc + pr) hx hb hd (by omega) (fun z => hk1 (fun q => z (e2 q)) H locs ls hP hS hL) (fun z => hk2 (e1 z) H locs ls hP hS hL)
set_option maxHeartbeats 1000000 in
set_option maxRecDepth 100000 in
theorem tv_ok9 (hx : p.tables.exec = Jvm.exec) (hb : c.code = cc) (hml : c.maxLocals = nL) (hown : s.vm.findClass RX4 = some m.cls) (hts : ∀ w ∈ Ts, w.before args s = true) (hsub : ∀ w ∈ tf_BW, w ∈ Ts) (hK : va_K D vwCl (tf_ty cA) s) (hj : tf_inj ad 298) (hA : ∀ d, d < 298 → A (ad d)) (hSX : tf_SX 298 ad A s s.heap) {pc i d : Nat} {L st : List Value} {h : LH} (hR : d + 1 ≤ R.frames ∧ 32 * (d + 1) ≤ R.locals) (hcs : cells ≤ R.cells ∧ slots ≤ R.slots) (hd : decode cc pc = .ok (.invokevirtual 127, 3)) (hi : i < 15) (hsum : (st.map Value.category).sum ≤ 8) (hk : tf_At (fun H locs g => W p l e R s m args below meth c H locs cells slots QW g) m s.heap D cA ad A 298 nL (pc + 3) L (.int (nI i) :: st) h) : tf_At (fun H locs g => W p l e R s m args below meth c H locs cells slots QW g) m s.heap D cA ad A 298 nL (pc) L (.ref (400 + i) :: st) h := by
  intro H locs ls hP hS hL
  have hV := (hSX.2.2 rfl).1
  have hZ := (hSX.2.2 rfl).2
  have hT : ∀ w ∈ tf_BW, w.before args s = true := fun w hw => hts w (hsub w hw)
  have cw : va_CU R s args RX4 RX7 "java/lang/Enum" 127 ⟨"TreeFlows$Verb", "ordinal", "()I"⟩ yJx29ce0_ordinal_8abf5 cJx29ce0_ordinal_8abf5 1 (some .int) (Jvm.Cond.code yJx29ce0_ordinal_8abf5 cJx29ce0_ordinal_8abf5 1 (some .int) :: tf_BW) (tf_rm 0) 0 0 0 :=
    ⟨⟨rfl, rfl, by show 0 + 1 ≤ R.frames; omega, by show 8 + (1 + 11) + 32 * 0 ≤ R.locals; omega, pay_in hts (tf_goodBW tf_BW_good hsub (List.mem_filter.mpr ⟨List.mem_of_getElem? (i := 570) rfl, rfl⟩)), List.mem_cons_self⟩, hT _ (List.mem_filter.mpr ⟨List.mem_of_getElem? (i := 570) rfl, rfl⟩), hT _ (tf_isw_in (i := 117) (by decide +kernel)), ⟨by decide, by decide⟩, (fun sig h9 => by
      have h2 : (parseMethodDescriptor "()I").map (fun d => d.parameters.length) = some 0 := by decide +kernel
      have h3 : parseMethodDescriptor "()I" = some sig := h9
      rw [h3] at h2
      exact (Option.some.inj h2).symm), hT _ (tf_isw_in (i := 565) (by decide +kernel)), hT _ (tf_isw_in (i := 566) (by decide +kernel)), va_Decl.of (hT _ (tf_isw_in (i := 569) (by decide +kernel))) (hT _ (List.mem_filter.mpr ⟨List.mem_of_getElem? (i := 570) rfl, rfl⟩)), hT _ (tf_isw_in (i := 568) (by decide +kernel)), hT _ (tf_isw_in (i := 569) (by decide +kernel))⟩
  have hrv := va_recvE hV.1 hi hS
  have hrun := va_runU (e := e) (below := below) (meth := meth) (locs := locs) (As := []) (rest := st.map (tf_tr ad)) (b := ad (400 + i)) (g := F0 m pc ls (.ref (ad (400 + i)) :: st.map (tf_tr ad))) ⟨hx, hb, hml, hown, hts⟩ (tv_m_ordinal l ad A hi) cw ⟨tv_Vb, hrv, fun U hU hW => ⟨rfl, by show tv_V ad A U U.heap; rw [hU]; exact tv_V.moved hW.alike (hV.kept hS.2.1)⟩⟩ rfl rfl hL.1 rfl (by show 2 * 0 + _ ≤ 8; rw [tf_catsum]; omega) hd ⟨hcs.1, hcs.2⟩
  refine vp_callSi hrun.run (fun r hr9 => ?_)
  subst hr9
  exact (hk H locs ls hP hS hL)
set_option maxHeartbeats 1000000 in
set_option maxRecDepth 100000 in
theorem tv_ok10 (hx : p.tables.exec = Jvm.exec) (hb : c.code = cc) (hml : c.maxLocals = nL) (hown : s.vm.findClass RX4 = some m.cls) (hts : ∀ w ∈ Ts, w.before args s = true) (hsub : ∀ w ∈ tf_BW, w ∈ Ts) (hK : va_K D vwCl (tf_ty cA) s) (hj : tf_inj ad 298) (hA : ∀ d, d < 298 → A (ad d)) (hSX : tf_SX 298 ad A s s.heap) {pc i d : Nat}  {L st : List Value} {h : LH} (hR : d + 1 ≤ R.frames ∧ 32 * (d + 1) ≤ R.locals) (hcs : cells ≤ R.cells ∧ slots ≤ R.slots) (hd : decode cc pc = .ok (.invokevirtual 96, 3)) (hi : i < 15) (hsum : (st.map Value.category).sum ≤ 8) (hdd : 1 ≤ d) (hk : tf_At (fun H locs g => W p l e R s m args below meth c H locs cells slots QW g) m s.heap D cA ad A 298 nL (pc + 3) L (.int (nI (tv_len.getD i 0)) :: st) h) : tf_At (fun H locs g => W p l e R s m args below meth c H locs cells slots QW g) m s.heap D cA ad A 298 nL (pc) L (.ref (430 + i) :: st) h := by
  intro H locs ls hP hS hL
  have hV := (hSX.2.2 rfl).1
  have hZ := (hSX.2.2 rfl).2
  have hT : ∀ w ∈ tf_BW, w.before args s = true := fun w hw => hts w (hsub w hw)
  have cw : CallW R s args RX4 RJ0 96 yJ0_length_8abf5 cJ0_length_8abf5 1 (some .int) (Jvm.Cond.code yJ0_length_8abf5 cJ0_length_8abf5 1 (some .int) :: tf_BW) (tf_rm 1) 0 0 0 := ⟨callB_of 0 hts (tf_goodBW tf_BW_good hsub (List.mem_filter.mpr ⟨List.mem_of_getElem? (i := 502) rfl, rfl⟩)) rfl rfl rfl (hT _ (tf_isw_in (i := 119) (by decide +kernel))) (hT _ (tf_isw_in (i := 499) (by decide +kernel))) ⟨by decide, by decide, by decide +kernel⟩ ⟨by show 1 + 1 ≤ R.frames; omega, by show 8 + (1 + 11) + 32 * 1 ≤ R.locals; omega⟩, hT _ (tf_isw_in (i := 500) (by decide +kernel)), hT _ (tf_isw_in (i := 501) (by decide +kernel))⟩
  have hrv := vk_recv hZ.1 hi hS
  refine vp_callSi (W.runV (As := []) (rest := st.map (tf_tr ad)) (b := ad (430 + i)) ⟨hx, hb, hml, hown, hts⟩ (tv_m_length l ad A hi) cw ⟨tv_Sb, hrv, fun U hU hW => ⟨rfl, by show tv_S ad A U U.heap; rw [hU]; exact tv_S.moved hW.alike (hZ.kept hS.2.1)⟩⟩ rfl rfl hL.1 rfl (by show 2 * 0 + _ ≤ 8; rw [tf_catsum]; omega) hd ⟨hcs.1, hcs.2⟩) (fun r hr9 => ?_)
  subst hr9
  exact (hk H locs ls hP hS hL)
set_option maxHeartbeats 1000000 in
set_option maxRecDepth 100000 in
theorem tv_ok11 (hx : p.tables.exec = Jvm.exec) (hb : c.code = cc) (hml : c.maxLocals = nL) (hown : s.vm.findClass RX4 = some m.cls) (hts : ∀ w ∈ Ts, w.before args s = true) (hsub : ∀ w ∈ tf_BW, w ∈ Ts) (hK : va_K D vwCl (tf_ty cA) s) (hj : tf_inj ad 298) (hA : ∀ d, d < 298 → A (ad d)) (hSX : tf_SX 298 ad A s s.heap) {pc i d : Nat} {x : Int32} {L st : List Value} {h : LH} (hR : d + 1 ≤ R.frames ∧ 32 * (d + 1) ≤ R.locals) (hcs : cells ≤ R.cells ∧ slots ≤ R.slots) (hd : decode cc pc = .ok (.invokevirtual 101, 3)) (hi : i < 15) (hsum : (st.map Value.category).sum ≤ 8) (hdd : 3 ≤ d) (hin : vp_in x (tv_len.getD i 0)) (hk : tf_At (fun H locs g => W p l e R s m args below meth c H locs cells slots QW g) m s.heap D cA ad A 298 nL (pc + 3) L (.int (tv_ch i x.toNatClampNeg) :: st) h) : tf_At (fun H locs g => W p l e R s m args below meth c H locs cells slots QW g) m s.heap D cA ad A 298 nL (pc) L (.int x :: .ref (430 + i) :: st) h := by
  intro H locs ls hP hS hL
  have hV := (hSX.2.2 rfl).1
  have hZ := (hSX.2.2 rfl).2
  have hT : ∀ w ∈ tf_BW, w.before args s = true := fun w hw => hts w (hsub w hw)
  have cw : CallW R s args RX4 RJ0 101 yJ0_charAt_5068e cJ0_charAt_5068e 2 (some .char) (Jvm.Cond.code yJ0_charAt_5068e cJ0_charAt_5068e 2 (some .char) :: tf_BW) (tf_rm 3) 0 0 1 := ⟨callB_of 1 hts (tf_goodBW tf_BW_good hsub (List.mem_filter.mpr ⟨List.mem_of_getElem? (i := 512) rfl, rfl⟩)) rfl rfl rfl (hT _ (tf_isw_in (i := 119) (by decide +kernel))) (hT _ (tf_isw_in (i := 509) (by decide +kernel))) ⟨by decide, by decide, by decide +kernel⟩ ⟨by show 3 + 1 ≤ R.frames; omega, by show 8 + (2 + 11) + 32 * 3 ≤ R.locals; omega⟩, hT _ (tf_isw_in (i := 510) (by decide +kernel)), hT _ (tf_isw_in (i := 511) (by decide +kernel))⟩
  have hrv := vk_recv hZ.1 hi hS
  refine vp_callSi (W.runV (As := [.int x]) (rest := st.map (tf_tr ad)) (b := ad (430 + i)) ⟨hx, hb, hml, hown, hts⟩ (tv_m_charAt l ad A hi hin) cw ⟨tv_Sb, hrv, fun U hU hW => ⟨rfl, by show tv_S ad A U U.heap; rw [hU]; exact tv_S.moved hW.alike (hZ.kept hS.2.1)⟩⟩ rfl rfl hL.1 rfl (by show 2 * 0 + _ ≤ 8; rw [tf_catsum]; omega) hd ⟨hcs.1, hcs.2⟩) (fun r hr9 => ?_)
  subst hr9
  exact (hk H locs ls hP hS hL)
set_option maxHeartbeats 1000000 in
set_option maxRecDepth 100000 in
theorem tv_ok12 (hx : p.tables.exec = Jvm.exec) (hb : c.code = cc) (hml : c.maxLocals = nL) (hown : s.vm.findClass RX4 = some m.cls) (hts : ∀ w ∈ Ts, w.before args s = true) (hsub : ∀ w ∈ tf_BW, w ∈ Ts) (hK : va_K D vwCl (tf_ty cA) s) (hj : tf_inj ad 298) (hA : ∀ d, d < 298 → A (ad d)) (hSX : tf_SX 298 ad A s s.heap) {pc i d : Nat} {x : Int32} {L st : List Value} {h : LH} (hR : d + 1 ≤ R.frames ∧ 32 * (d + 1) ≤ R.locals) (hcs : cells ≤ R.cells ∧ slots ≤ R.slots) (hd : decode cc pc = .ok (.invokevirtual 65, 3)) (hi : i < 15) (hsum : (st.map Value.category).sum ≤ 8)  (hk : tf_At (fun H locs g => W p l e R s m args below meth c H locs cells slots QW g) m s.heap D cA ad A 298 nL (pc + 3) L (.int (if x = 0 then tv_g.getD i 0 else tv_o.getD i 0) :: st) h) : tf_At (fun H locs g => W p l e R s m args below meth c H locs cells slots QW g) m s.heap D cA ad A 298 nL (pc) L (.int x :: .ref (400 + i) :: st) h := by
  intro H locs ls hP hS hL
  have hV := (hSX.2.2 rfl).1
  have hZ := (hSX.2.2 rfl).2
  have hT : ∀ w ∈ tf_BW, w.before args s = true := fun w hw => hts w (hsub w hw)
  have cw : CallW R s args RX4 RX7 65 yX7_numbers cX7_numbers 2 (some .int) (Jvm.Cond.code yX7_numbers cX7_numbers 2 (some .int) :: tf_BW) (tf_rm 0) 0 0 1 := ⟨callB_of 1 hts (tf_goodBW tf_BW_good hsub (List.mem_filter.mpr ⟨List.mem_of_getElem? (i := 494) rfl, rfl⟩)) rfl rfl rfl (hT _ (tf_isw_in (i := 118) (by decide +kernel))) (hT _ (tf_isw_in (i := 491) (by decide +kernel))) ⟨by decide, by decide, by decide +kernel⟩ ⟨by show 0 + 1 ≤ R.frames; omega, by show 8 + (2 + 11) + 32 * 0 ≤ R.locals; omega⟩, hT _ (tf_isw_in (i := 492) (by decide +kernel)), hT _ (tf_isw_in (i := 493) (by decide +kernel))⟩
  have hrv := va_recvE hV.1 hi hS
  refine vp_callSi (W.runV (As := [.int x]) (rest := st.map (tf_tr ad)) (b := ad (400 + i)) ⟨hx, hb, hml, hown, hts⟩ (tv_m_numbers l ad A hi) cw ⟨tv_Vb, hrv, fun U hU hW => ⟨rfl, by show tv_V ad A U U.heap; rw [hU]; exact tv_V.moved hW.alike (hV.kept hS.2.1)⟩⟩ rfl rfl hL.1 rfl (by show 2 * 0 + _ ≤ 8; rw [tf_catsum]; omega) hd ⟨hcs.1, hcs.2⟩) (fun r hr9 => ?_)
  subst hr9
  exact (hk H locs ls hP hS hL)
set_option maxHeartbeats 1000000 in
set_option maxRecDepth 100000 in
theorem tv_ok13 (hx : p.tables.exec = Jvm.exec) (hb : c.code = cc) (hml : c.maxLocals = nL) (hown : s.vm.findClass RX4 = some m.cls) (hts : ∀ w ∈ Ts, w.before args s = true) (hsub : ∀ w ∈ tf_BW, w ∈ Ts) (hK : va_K D vwCl (tf_ty cA) s) (hj : tf_inj ad 298) (hA : ∀ d, d < 298 → A (ad d)) (hSX : tf_SX 298 ad A s s.heap) {pc x : Nat} {L st : List Value} {h : LH} (hd : decode cc pc = .ok (.astore_n 3, 1)) (hn : 3 < nL) (hk : tf_At (fun H locs g => W p l e R s m args below meth c H locs cells slots QW g) m s.heap D cA ad A 298 nL (pc + 1) (tf_s1 L 3 (.ref x)) st h) : tf_At (fun H locs g => W p l e R s m args below meth c H locs cells slots QW g) m s.heap D cA ad A 298 nL (pc) L (.ref x :: st) h := by
  intro H locs ls hP hS hL
  have hV := (hSX.2.2 rfl).1
  have hZ := (hSX.2.2 rfl).2
  have hT : ∀ w ∈ tf_BW, w.before args s = true := fun w hw => hts w (hsub w hw)
  exact lv_astore_n hx hb hd rfl (tf_rel_has hL) hn rfl (fun ls' hl' => hk H locs ls' hP hS (tf_rel_s1 hL.2.2.1 hl'))
set_option maxHeartbeats 1000000 in
set_option maxRecDepth 100000 in
theorem tv_ok14 (hx : p.tables.exec = Jvm.exec) (hb : c.code = cc) (hml : c.maxLocals = nL) (hown : s.vm.findClass RX4 = some m.cls) (hts : ∀ w ∈ Ts, w.before args s = true) (hsub : ∀ w ∈ tf_BW, w ∈ Ts) (hK : va_K D vwCl (tf_ty cA) s) (hj : tf_inj ad 298) (hA : ∀ d, d < 298 → A (ad d)) (hSX : tf_SX 298 ad A s s.heap) {pc : Nat} {L st : List Value} {h : LH} (hd : decode cc pc = .ok (.astore_n 3, 1)) (hn : 3 < nL) (hk : tf_At (fun H locs g => W p l e R s m args below meth c H locs cells slots QW g) m s.heap D cA ad A 298 nL (pc + 1) (tf_s1 L 3 .null) st h) : tf_At (fun H locs g => W p l e R s m args below meth c H locs cells slots QW g) m s.heap D cA ad A 298 nL (pc) L (.null :: st) h := by
  intro H locs ls hP hS hL
  have hV := (hSX.2.2 rfl).1
  have hZ := (hSX.2.2 rfl).2
  have hT : ∀ w ∈ tf_BW, w.before args s = true := fun w hw => hts w (hsub w hw)
  exact lv_astore_nN hx hb hd rfl (tf_rel_has hL) hn rfl (fun ls' hl' => hk H locs ls' hP hS (tf_rel_s1 (v := .null) hL.2.2.1 hl'))
set_option maxHeartbeats 2000000 in
set_option maxRecDepth 100000 in
theorem tv_ok (hx : p.tables.exec = Jvm.exec) (hb : c.code = cc) (hml : c.maxLocals = nL) (hown : s.vm.findClass RX4 = some m.cls) (hts : ∀ w ∈ Ts, w.before args s = true) (hsub : ∀ w ∈ tf_BW, w ∈ Ts) (hK : va_K D vwCl (tf_ty cA) s) (hj : tf_inj ad 298) (hA : ∀ d, d < 298 → A (ad d)) (hSX : tf_SX 298 ad A s s.heap) {d pc kd pr : Nat} {L st : List Value} {h : LH} {k : tf_Kt} {X : tf_X} (hR : d + 1 ≤ R.frames ∧ 32 * (d + 1) ≤ R.locals) (hcs : cells ≤ R.cells ∧ slots ≤ R.slots) (hn : 13 ≤ kd → 3 < nL) (hpr : kd = 0 → pr = 85 ∨ pr = 122 ∨ pr = 137 ∨ pr = 141 ∨ pr = 144 ∨ pr = 147 ∨ pr = 150) (hd : decode cc pc = .ok (tv_i kd pr)) (hf : tv_f 298 d pc kd pr L st h k X) (hk : ∀ L st h, k L st h → tf_At (fun H locs g => W p l e R s m args below meth c H locs cells slots QW g) m s.heap D cA ad A 298 nL (pc + (tv_i kd pr).2) L st h) (hX : ∀ pc L st h, X pc L st h → tf_At (fun H locs g => W p l e R s m args below meth c H locs cells slots QW g) m s.heap D cA ad A 298 nL (pc) L st h) : tf_At (fun H locs g => W p l e R s m args below meth c H locs cells slots QW g) m s.heap D cA ad A 298 nL (pc) L st h := by
  obtain ⟨-, hf⟩ := hf
  match kd with
  | 0 => exact tv_ok0 hx hb hml hown hts hsub hK hj hA hSX hd (hpr rfl) (hk _ _ _ hf)
  | 1 =>
    simp only at hf
    split at hf
    · obtain ⟨i, hi, rfl, hq⟩ := hf
      exact tv_ok1 hx hb hml hown hts hsub hK hj hA hSX hd hi (hk _ _ _ hq)
    · exact hf.elim
  | 2 =>
    simp only at hf
    split at hf
    · obtain ⟨rfl, hq⟩ := hf
      exact tv_ok2 hx hb hml hown hts hsub hK hj hA hSX hd (hk _ _ _ hq)
    · exact hf.elim
  | 3 =>
    simp only at hf
    split at hf
    · obtain ⟨rfl, hi, hq⟩ := hf
      exact tv_ok3 hx hb hml hown hts hsub hK hj hA hSX hd hi (hk _ _ _ hq)
    · exact hf.elim
  | 4 =>
    simp only at hf
    split at hf
    · obtain ⟨⟨kx, lx, hi, hv⟩, hq⟩ := hf
      exact tv_ok4 hx hb hml hown hts hsub hK hj hA hSX hd kx lx hi hv (hk _ _ _ hq)
    · exact hf.elim
  | 5 =>
    simp only at hf
    split at hf
    · obtain ⟨j, hj15, rfl, ⟨kx, lx, hi⟩, hq⟩ := hf
      exact tv_ok5 hx hb hml hown hts hsub hK hj hA hSX hd hj15 kx lx hi (hk _ _ _ hq)
    · exact hf.elim
  | 6 =>
    simp only at hf
    split at hf
    · obtain ⟨rfl, hi, hq⟩ := hf
      exact tv_ok6 hx hb hml hown hts hsub hK hj hA hSX hd hi (hk _ _ _ hq)
    · exact hf.elim
  | 7 =>
    simp only at hf
    split at hf
    · obtain ⟨i, j, hi, hj15, rfl, rfl, h1, h2⟩ := hf
      exact tv_ok7 hx hb hml hown hts hsub hK hj hA hSX hd hi hj15 (fun z => hX _ _ _ _ (h1 z)) (fun z => hk _ _ _ (h2 z))
    · exact hf.elim
  | 8 =>
    simp only at hf
    split at hf
    · obtain ⟨i, j, hi, hj15, rfl, rfl, h1, h2⟩ := hf
      exact tv_ok8 hx hb hml hown hts hsub hK hj hA hSX hd hi hj15 (fun z => hX _ _ _ _ (h2 z)) (fun z => hk _ _ _ (h1 z))
    · exact hf.elim
  | 9 =>
    simp only at hf
    split at hf
    · obtain ⟨i, hi, rfl, hsum, hq⟩ := hf
      exact tv_ok9 hx hb hml hown hts hsub hK hj hA hSX hR hcs hd hi hsum (hk _ _ _ hq)
    · exact hf.elim
  | 10 =>
    simp only at hf
    split at hf
    · obtain ⟨i, hi, rfl, ⟨hsum, hdd⟩, hq⟩ := hf
      exact tv_ok10 hx hb hml hown hts hsub hK hj hA hSX hR hcs hd hi hsum hdd (hk _ _ _ hq)
    · exact hf.elim
  | 11 =>
    simp only at hf
    split at hf
    · obtain ⟨i, hi, rfl, ⟨hsum, hdd, hin⟩, hq⟩ := hf
      exact tv_ok11 hx hb hml hown hts hsub hK hj hA hSX hR hcs hd hi hsum hdd hin (hk _ _ _ hq)
    · exact hf.elim
  | 12 =>
    simp only at hf
    split at hf
    · obtain ⟨i, hi, rfl, hsum, hq⟩ := hf
      exact tv_ok12 hx hb hml hown hts hsub hK hj hA hSX hR hcs hd hi hsum (hk _ _ _ hq)
    · exact hf.elim
  | n + 13 =>
    simp only at hf
    split at hf
    · exact tv_ok13 hx hb hml hown hts hsub hK hj hA hSX hd (hn (by omega)) (hk _ _ _ hf)
    · exact tv_ok14 hx hb hml hown hts hsub hK hj hA hSX hd (hn (by omega)) (hk _ _ _ hf)
    · exact hf.elim
end TVH
def tv_ck (kn : Nat) : Bool := (tv_hl kn).all (fun q => decide (decode (tf_mb kn) q.1 = .ok (tv_i q.2.1 q.2.2)) && decide (q.2.1 = 0 → (q.2.2 = 85 ∨ q.2.2 = 122 ∨ q.2.2 = 137 ∨ q.2.2 = 141 ∨ q.2.2 = 144 ∨ q.2.2 = 147 ∨ q.2.2 = 150)) && decide (tf_mo kn = 3) && decide (13 ≤ q.2.1 → 3 < tf_ml kn))
set_option maxRecDepth 100000 in
theorem tv_ck_all : (List.range 250).all tv_ck = true := by decide +kernel
