/-! ===== every method keeps what its spec tells ===== -/
theorem tf_m_ok {kn : Nat} (h : kn < tf_NM) : plainName (tf_my kn).cls = true ∧ (tf_my kn).cls = tf_own (tf_mo kn) ∧ tf_mo kn < 11 ∧ tf_ml kn ≤ 13 ∧ ((tf_my kn).cls ≠ "java/lang/invoke/MethodHandle" ∧ (tf_my kn).cls ≠ "java/lang/invoke/VarHandle" ∧ (parseMethodDescriptor (tf_my kn).desc).map (fun d => d.parameters.length) = some (tf_mn kn)) ∧ Jvm.Cond.initialized (tf_my kn).cls ∈ tf_BW := by
  have h1 := tf_rng tf_ckm_all h
  simp only [tf_ckm, Bool.and_eq_true, decide_eq_true_eq] at h1
  obtain ⟨⟨⟨⟨⟨⟨⟨a, b⟩, c⟩, d⟩, e⟩, f⟩, g⟩, i⟩ := h1
  exact ⟨a, b, c, d, ⟨e, f, g⟩, tf_isw_in i⟩
theorem tf_n_ok {kn : Nat} (h : kn < tf_NM) : (tf_mc kn = 99 → Jvm.Cond.static (tf_my kn) ∈ tf_BW) ∧ (tf_mc kn ≠ 99 → Jvm.Cond.instanceMethod (tf_my kn) ∈ tf_BW ∧ Jvm.Cond.selects (tf_my kn).cls (tf_my kn) (tf_my kn) ∈ tf_BW ∧ (tf_mc kn = 98 ∨ ∃ T N, vwCl[tf_mc kn]? = some ((tf_my kn).cls, T, N))) := by
  have h1 := tf_rng tf_ckn_all h
  unfold tf_ckn at h1
  constructor
  · intro hc
    rw [if_pos hc] at h1
    exact tf_isw_in h1
  · intro hc
    rw [if_neg hc] at h1
    simp only [Bool.and_eq_true, Bool.or_eq_true, beq_iff_eq, decide_eq_true_eq] at h1
    refine ⟨tf_isw_in h1.1.1, tf_isw_in h1.1.2, h1.2.imp id (fun h2 => ?_)⟩
    rw [Option.map_eq_some_iff] at h2
    obtain ⟨⟨C, T, N⟩, h3, h4⟩ := h2
    exact ⟨T, N, by rw [h3]; simp only at h4; rw [h4]⟩
theorem tf_code_in {kn : Nat} (h : kn < tf_NM) : Jvm.Cond.code (tf_my kn) (tf_mb kn) (tf_ml kn) (tf_mr kn) ∈ tf_BW := List.mem_filter.mpr ⟨(tf_row_ok h).2, rfl⟩
theorem tf_W_code (y : MethodName) (b : ByteArray) (n : Nat) (r : Option FieldType) : goodWord (.code y b n r) = true := rfl
theorem tf_no98 (b : Nat) : tf_K b ≠ 98 := by
  unfold tf_K
  rw [List.getD_eq_getElem?_getD]
  cases hb : tf_Kl[b]? with
  | none => decide
  | some x =>
    have hm := List.mem_of_getElem? hb
    have hall : ∀ y ∈ tf_Kl, y ≠ 98 := by decide +kernel
    exact hall x hm
section TFM
variable {l : Launch} {D : va_G} {cA : Nat → ClassId} {ad : Nat → Nat} {nc : Nat}
set_option maxHeartbeats 4000000 in
set_option maxRecDepth 100000 in
theorem tf_sound (hj : tf_inj ad nc) : ∀ (d kn : Nat), kn < tf_NM → tf_mc kn ≠ 98 → tf_Met l D cA ad nc (tf_my kn) (Jvm.Cond.code (tf_my kn) (tf_mb kn) (tf_ml kn) (tf_mr kn) :: tf_BW) (tf_rm d) (tf_mr kn) (tf_Cd nc d kn) := by
  intro d
  induction d with
  | zero =>
    intro kn hkn _ As h Q sz hq
    exact absurd hq (tf_ext_1000 (Nat.lt_of_lt_of_le hkn (by decide)))
  | succ d ih =>
    intro kn hkn h98 As h Q sz hq
    have hk1 : kn < 1000 := Nat.lt_of_lt_of_le hkn (by decide)
    simp only [tf_Cd, if_pos hk1] at hq
    obtain ⟨hrc, hLW⟩ := hq
    obtain ⟨hpl, hcls, hmo, hml13, hdd, hini⟩ := tf_m_ok hkn
    obtain ⟨hBck, hcode⟩ := tf_row_ok hkn
    refine Met.ofW (cc := tf_mb kn) (maxL := tf_ml kn) (ret := tf_mr kn) hpl rfl ?_
    intro p e s m args below meth c s₁ B hml hv
    obtain ⟨rfl, hsz, hP, hK, hSX⟩ := hv
    have hx := B.exec
    have hb := B.bytes
    have hr := B.returns
    have hts := atoms_spec (ws := Jvm.Cond.code (tf_my kn) (tf_mb kn) (tf_ml kn) (tf_mr kn) :: tf_BW) B.pre
    have hown : s.vm.findClass (tf_my kn).cls = some m.cls := findClass_of_methodNamed B.named
    have hlocks := B.notSynchronized
    subst hsz
    rw [hcls] at hown
    rw [lg_entry_eq]
    have hsub : ∀ w ∈ tf_BW, w ∈ Jvm.Cond.code (tf_my kn) (tf_mb kn) (tf_ml kn) (tf_mr kn) :: tf_BW := fun w hw => List.mem_cons_of_mem _ hw
    have hA : ∀ d, d < nc → va_A (tf_ws cA ad nc h) s.heap.size (ad d) := fun d hd => tf_ws_A.mpr (Or.inl ⟨d, hd, rfl⟩)
    have hA2 : ∀ q, s.heap.size ≤ q → va_A (tf_ws cA ad nc h) s.heap.size q := fun q hq => Or.inr hq
    refine tf_LW_ok (A := va_A (tf_ws cA ad nc h) s.heap.size) (nc := nc) (nL := tf_ml kn) (own := tf_own (tf_mo kn)) (Ts := Jvm.Cond.code (tf_my kn) (tf_mb kn) (tf_ml kn) (tf_mr kn) :: tf_BW) hx hb hown hts hK hj hA ?_ ?_ ?_ ?_ ?_ ?_ ?_ ?_ hBck hLW s.heap [] _ hP va_S.rf (tf_rel_en hrc.1)
    · intro j ci q hf
      obtain ⟨C, T, N, ty, h1, h2, h3, h4, h5, h6, h7⟩ := tf_F_ok hmo j ci q hf
      exact ⟨C, T, N, ty, h1, h2, h3, h4, hsub _ h5, fun w hw => hsub _ (h6 w hw), h7⟩
    · intro j v hi
      exact hts _ (hsub _ (tf_I_ok hmo hi))
    · intro j v hi
      exact hts _ (hsub _ (tf_J_ok hmo hi))
    · intro pc i j j2 k2 na vd L st h2 K hjb hij hdc hM hlen hsum hCk hk
      simp only [tf_M, Option.map_eq_some_iff] at hM
      obtain ⟨⟨a, b, v, pl⟩, hlk, he⟩ := hM
      simp only [Prod.mk.injEq] at he
      obtain ⟨rfl, rfl, rfl⟩ := he
      have hck := List.all_eq_true.mp (tf_rng tf_ckM_all hmo) _ (tf_lookup hlk)
      unfold tf_ckM at hck
      by_cases ha : a < 1000
      · simp only [if_pos ha, Bool.and_eq_true, decide_eq_true_eq] at hck
        obtain ⟨⟨hNM, hvd⟩, hck⟩ := hck
        obtain ⟨_, _, _, hml2, hdd2, hini2⟩ := tf_m_ok hNM
        by_cases hst : tf_mc a = 99
        · rw [if_pos hst] at hck
          simp only [Bool.and_eq_true, Bool.or_eq_true, decide_eq_true_eq] at hck
          obtain ⟨⟨hj2, hna⟩, hlink⟩ := hck
          rcases hij with ⟨-, e2⟩ | ⟨rfl, e2⟩
          · omega
          · subst e2
            subst hna
            have hlk2 : Jvm.Cond.methodLink (tf_own (tf_mo kn)) j (tf_my a) ∈ tf_BW ∨ ∃ host, va_Nw (.methodLinkNest (tf_own (tf_mo kn)) j (tf_my a) host) s := by
              rcases hlink with ((⟨_, ho, hjj, hy⟩ | ⟨_, ho, hjj, hy⟩) | ⟨_, ho, hjj, hy⟩) | hl
              · refine Or.inr ⟨RX8, ?_⟩
                rw [ho, hy, show j = 73 by omega]
                exact hSX.1.1
              · refine Or.inr ⟨RX8, ?_⟩
                rw [ho, hy, show j = 106 by omega]
                exact hSX.1.2.1
              · refine Or.inr ⟨RX8, ?_⟩
                rw [ho, hy, show j = 40 by omega]
                exact hSX.1.2.2
              · rw [Nat.add_sub_cancel] at hl
                exact Or.inl (tf_isw_in hl)
            exact tf_callS_ok (d := d) (yk := tf_my a) (bk := tf_mb a) (Lk := tf_ml a) (nk := tf_mn a) (retk := tf_mr a) (Ck := tf_Cd nc d a) hx hb hml hown hts hsub hK hA hA2 hSX tf_BW_good (ih a hNM (by rw [hst]; decide)) (tf_code_in hNM) ((tf_n_ok hNM).1 hst) hini2 hlk2 hdd2 ⟨Nat.le_refl _, by show 8 + (tf_ml a + 11) + 32 * d ≤ 32 * (d + 1); omega⟩ hvd ⟨Nat.zero_le _, Nat.zero_le _⟩ hdc hlen hsum hCk hk
        · rw [if_neg hst] at hck
          simp only [Bool.and_eq_true, decide_eq_true_eq] at hck
          obtain ⟨⟨hj2, hna⟩, hl⟩ := hck
          rcases hij with ⟨rfl, rfl⟩ | ⟨-, e2⟩
          · subst hna
            obtain ⟨hin, hse, h98'⟩ := (tf_n_ok hNM).2 hst
            rcases h98' with h98' | ⟨T, N, hcl⟩
            · have := (tf_Cd_rc ha hCk).2
              rw [h98'] at this
              rcases this with this | this
              · exact absurd this (by decide)
              · exfalso
                split at this
                · rename_i b0 _ _
                  exact tf_no98 b0 this.1
                · exact this
            · exact tf_callV_ok (d := d) (yk := tf_my a) (bk := tf_mb a) (Lk := tf_ml a) (nk := tf_mn a) (ci := tf_mc a) (retk := tf_mr a) (Ck := tf_Cd nc d a) hx hb hml hown hts hsub hK hA hA2 hSX tf_BW_good (ih a hNM (fun q => by
                rw [q] at hcl
                cases hcl)) (fun As h Q hq => tf_Cd_rc ha hq) hst hcl (tf_code_in hNM) (tf_isw_in hl) hin hse hini2 hdd2 ⟨Nat.le_refl _, by show 8 + (tf_ml a + 11) + 32 * d ≤ 32 * (d + 1); omega⟩ hvd ⟨Nat.zero_le _, Nat.zero_le _⟩ hdc hlen hsum hCk hk
          · omega
      · simp only [if_neg ha, Bool.and_eq_true, Bool.or_eq_true, decide_eq_true_eq] at hck
        obtain ⟨hj2, hck⟩ := hck
        rw [tf_Cd_ext ha] at hCk
        rcases hij with ⟨-, e2⟩ | ⟨rfl, e2⟩
        · omega
        · subst e2
          rw [Nat.add_sub_cancel] at hck
          refine tf_ext_ok (kn := a) (na := b) (vd := v) (d := d) hx hb hml hown hts hsub hK hj hA ⟨Nat.succ_le_succ (Nat.zero_le _), by show 32 ≤ 32 * (d + 1); omega⟩ ⟨Nat.zero_le _, Nat.zero_le _⟩ ?_ hdc hsum hCk hk
          rcases hck with ((⟨⟨⟨h1, h2⟩, h3⟩, h4⟩ | ⟨⟨⟨h1, h2⟩, h3⟩, h4⟩) | ⟨⟨⟨h1, h2⟩, h3⟩, h4⟩) | ⟨⟨⟨h1, h2⟩, h3⟩, h4⟩
          · exact Or.inl ⟨h1, h2, h3, tf_isw_in h4⟩
          · exact Or.inr (Or.inl ⟨h1, h2, h3, tf_isw_in h4⟩)
          · exact Or.inr (Or.inr (Or.inl ⟨h1, h2, h3, tf_isw_in h4⟩))
          · exact Or.inr (Or.inr (Or.inr ⟨h1, h2, h3, tf_isw_in h4⟩))
    · intro pc n i f L st h2 k X hE hdc hf hk hX
      unfold tf_Eg at hE
      cases h222 : (Nat.ble 222 kn && Nat.ble kn 241) with
      | false =>
        rw [h222] at hE
        cases hE
      | true =>
        rw [h222] at hE
        replace hE : ((tv_hl kn).lookup pc).map (fun q => tv_f nc d pc q.1 q.2) = some f := hE
        rw [Option.map_eq_some_iff] at hE
        obtain ⟨q, hlk, rfl⟩ := hE
        have hck := List.all_eq_true.mp (tf_rng tv_ck_all (show kn < 250 by rw [Bool.and_eq_true, Nat.ble_eq, Nat.ble_eq] at h222; omega)) _ (tf_lookup hlk)
        simp only [Bool.and_eq_true, decide_eq_true_eq] at hck
        obtain ⟨⟨⟨h1, h2⟩, h3⟩, h4⟩ := hck
        have hnc : nc = 298 := hf.1
        subst hnc
        have e1 := hdc.symm.trans h1
        have e2 : n = (tv_i q.1 q.2).2 := congrArg Prod.snd (Except.ok.inj e1)
        subst e2
        have hown2 := hown
        rw [h3] at hown2
        exact tv_ok (nL := tf_ml kn) (Ts := Jvm.Cond.code (tf_my kn) (tf_mb kn) (tf_ml kn) (tf_mr kn) :: tf_BW) hx hb hml hown2 hts hsub hK hj hA hSX ⟨Nat.le_refl _, Nat.le_refl _⟩ ⟨Nat.zero_le _, Nat.zero_le _⟩ h4 h2 h1 hf hk hX
    · intro v h2 pc L hdc hrb H locs ls hP2 hS hL
      obtain ⟨hrb, hQ⟩ := hrb
      cases hrt : tf_mr kn with
      | none => rw [hrt] at hrb; exact hrb.elim
      | some t =>
        rw [hrt] at hr hrb
        cases t with
        | int => exact W.iret hx hb hr (fun t ht hW => ⟨⟨.int v, h2, rfl, hQ, by rw [ht]; exact hP2⟩, hS.F ht⟩) hS.2.2 hdc
        | boolean => exact W.zret hx hb hr (tf_nar_b hrb) (fun t ht hW => ⟨⟨.int v, h2, rfl, hQ, by rw [ht]; exact hP2⟩, hS.F ht⟩) hS.2.2 hdc
        | _ => exact hrb.elim
    · intro h2 pc L hdc hrb H locs ls hP2 hS hL
      obtain ⟨hrb, hQ⟩ := hrb
      cases hrt : tf_mr kn with
      | none =>
        rw [hrt] at hr
        exact W.vret hx hb hr (fun t ht hW => ⟨⟨tf_z, h2, rfl, hQ, by rw [ht]; exact hP2⟩, hS.F ht⟩) hS.2.2 hdc
      | some t =>
        rw [hrt] at hrb
        cases t <;> cases hrb
    · intro v h2 pc L hdc hv hrb H locs ls hP2 hS hL
      obtain ⟨hrb, hQ⟩ := hrb
      cases hrt : tf_mr kn with
      | none => rw [hrt] at hrb; cases hrb
      | some t =>
        rw [hrt] at hr hrb
        cases t with
        | object n =>
          refine W.aret hx hb hr (Or.inl ⟨_, rfl⟩) ?_ (fun t ht hW => ⟨⟨v, h2, rfl, hQ, by rw [ht]; exact hP2⟩, hS.F ht⟩) hS.2.2 hdc
          rcases hv with rfl | ⟨a, rfl⟩
          · exact Or.inl rfl
          · exact Or.inr ⟨_, rfl⟩
        | _ => cases hrb
end TFM
