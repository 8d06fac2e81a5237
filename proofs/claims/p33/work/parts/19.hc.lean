/-! ===== the calls of any method's walk, by the light machine ===== -/
section TFH
variable {p : Program} {l : Launch} {e : Env} {R : Room} {s : State} {m : MethodId} {args : Array Value} {below : List Frame} {meth : Method} {c : Code} {QW : State → Prop}
variable {cc : ByteArray} {D : va_G} {cA : Nat → ClassId} {ad : Nat → Nat} {A : Nat → Prop} {nc nL cells slots : Nat} {Ts : List Jvm.Cond}
set_option maxHeartbeats 4000000 in
set_option maxRecDepth 100000 in
theorem tf_hC {o d : Nat} (ho : o < 11) (hx : p.tables.exec = Jvm.exec) (hb : c.code = cc) (hml : c.maxLocals = nL) (hown : s.vm.findClass (tf_own o) = some m.cls) (hts : ∀ w ∈ Ts, w.before args s = true) (hsub : ∀ w ∈ tf_BW, w ∈ Ts) (hK : va_K D vwCl (tf_ty cA) s) (hj : tf_inj ad nc) (hA : ∀ d, d < nc → A (ad d)) (hA2 : ∀ q, s.heap.size ≤ q → A q) (hSX : tf_SX nc ad A s s.heap) (hR : d + 1 ≤ R.frames ∧ 32 * (d + 1) ≤ R.locals) (hcs : cells ≤ R.cells ∧ slots ≤ R.slots) :
    ∀ (pc : Nat) (i : Instr) (j j2 kn na : Nat) (vd : Bool) (L st : List Value) (h : LH) (K : tf_Q), j < 100000 → ((i = .invokevirtual j ∧ j2 = j) ∨ (i = .invokestatic j ∧ j2 = j + 100000)) → decode cc pc = .ok (i, 3) → tf_M o j2 = some (kn, na, vd) → na ≤ st.length → ((st.drop na).map Value.category).sum ≤ 8 → tf_Cd nc d kn (st.take na).reverse h K → (∀ r h, K r h → tf_At (fun H locs g => W p l e R s m args below meth c H locs cells slots QW g) m s.heap D cA ad A nc nL (pc + 3) L (if vd = true then st.drop na else r :: st.drop na) h) → tf_At (fun H locs g => W p l e R s m args below meth c H locs cells slots QW g) m s.heap D cA ad A nc nL pc L st h := by
  intro pc i j j2 k2 na vd L st h2 K hjb hij hdc hM hlen hsum hCk hk
  simp only [tf_M, Option.map_eq_some_iff] at hM
  obtain ⟨⟨a, b, v, pl⟩, hlk, he⟩ := hM
  simp only [Prod.mk.injEq] at he
  obtain ⟨rfl, rfl, rfl⟩ := he
  have hck := List.all_eq_true.mp (tf_rng tf_ckM_all ho) _ (tf_lookup hlk)
  unfold tf_ckM at hck
  by_cases ha : a < 1000
  · simp only [if_pos ha, Bool.and_eq_true, decide_eq_true_eq] at hck
    obtain ⟨⟨hNM, hvd⟩, hck⟩ := hck
    obtain ⟨_, _, _, hml2, hdd2, hini2⟩ := tf_m_ok hNM
    by_cases hst : tf_mc a = 99
    · rw [if_pos hst] at hck
      simp only [Bool.and_eq_true, Bool.or_eq_true, decide_eq_true_eq] at hck
      obtain ⟨⟨hj2, hna⟩, hlink⟩ := hck
      rcases hij with ⟨-, e2⟩ | ⟨rfl, e2⟩
      · omega
      · subst e2
        subst hna
        have hlk2 : Jvm.Cond.methodLink (tf_own o) j (tf_my a) ∈ tf_BW ∨ ∃ host, va_Nw (.methodLinkNest (tf_own o) j (tf_my a) host) s := by
          rcases hlink with ((⟨_, ho, hjj, hy⟩ | ⟨_, ho, hjj, hy⟩) | ⟨_, ho, hjj, hy⟩) | hl
          · refine Or.inr ⟨RX8, ?_⟩
            rw [ho, hy, show j = 73 by omega]
            exact hSX.1.1
          · refine Or.inr ⟨RX8, ?_⟩
            rw [ho, hy, show j = 106 by omega]
            exact hSX.1.2.1
          · refine Or.inr ⟨RX8, ?_⟩
            rw [ho, hy, show j = 40 by omega]
            exact hSX.1.2.2
          · rw [Nat.add_sub_cancel] at hl
            exact Or.inl (tf_isw_in hl)
        exact tf_callS_ok (d := d) (yk := tf_my a) (bk := tf_mb a) (Lk := tf_ml a) (nk := tf_mn a) (retk := tf_mr a) (Ck := tf_Cd nc d a) hx hb hml hown hts hsub hK hA hA2 hSX tf_BW_good (tf_sound hj d a hNM (by rw [hst]; decide)) (tf_code_in hNM) ((tf_n_ok hNM).1 hst) hini2 hlk2 hdd2 ⟨hR.1, by omega⟩ hvd hcs hdc hlen hsum hCk hk
    · rw [if_neg hst] at hck
      simp only [Bool.and_eq_true, decide_eq_true_eq] at hck
      obtain ⟨⟨hj2, hna⟩, hl⟩ := hck
      rcases hij with ⟨rfl, rfl⟩ | ⟨-, e2⟩
      · subst hna
        obtain ⟨hin, hse, h98'⟩ := (tf_n_ok hNM).2 hst
        rcases h98' with h98' | ⟨T, N, hcl⟩
        · have := (tf_Cd_rc ha hCk).2
          rw [h98'] at this
          rcases this with this | this
          · exact absurd this (by decide)
          · exfalso
            split at this
            · rename_i b0 _ _
              exact tf_no98 b0 this.1
            · exact this
        · exact tf_callV_ok (d := d) (yk := tf_my a) (bk := tf_mb a) (Lk := tf_ml a) (nk := tf_mn a) (ci := tf_mc a) (retk := tf_mr a) (Ck := tf_Cd nc d a) hx hb hml hown hts hsub hK hA hA2 hSX tf_BW_good (tf_sound hj d a hNM (fun q => by
            rw [q] at hcl
            cases hcl)) (fun As h Q hq => tf_Cd_rc ha hq) hst hcl (tf_code_in hNM) (tf_isw_in hl) hin hse hini2 hdd2 ⟨hR.1, by omega⟩ hvd hcs hdc hlen hsum hCk hk
      · omega
  · simp only [if_neg ha, Bool.and_eq_true, Bool.or_eq_true, decide_eq_true_eq] at hck
    obtain ⟨hj2, hck⟩ := hck
    rw [tf_Cd_ext ha] at hCk
    rcases hij with ⟨-, e2⟩ | ⟨rfl, e2⟩
    · omega
    · subst e2
      rw [Nat.add_sub_cancel] at hck
      refine tf_ext_ok (kn := a) (na := b) (vd := v) (d := d) hx hb hml hown hts hsub hK hj hA ⟨by omega, by omega⟩ hcs ?_ hdc hsum hCk hk
      rcases hck with ((⟨⟨⟨h1, h2⟩, h3⟩, h4⟩ | ⟨⟨⟨h1, h2⟩, h3⟩, h4⟩) | ⟨⟨⟨h1, h2⟩, h3⟩, h4⟩) | ⟨⟨⟨h1, h2⟩, h3⟩, h4⟩
      · exact Or.inl ⟨h1, h2, h3, tf_isw_in h4⟩
      · exact Or.inr (Or.inl ⟨h1, h2, h3, tf_isw_in h4⟩)
      · exact Or.inr (Or.inr (Or.inl ⟨h1, h2, h3, tf_isw_in h4⟩))
      · exact Or.inr (Or.inr (Or.inr ⟨h1, h2, h3, tf_isw_in h4⟩))
end TFH
