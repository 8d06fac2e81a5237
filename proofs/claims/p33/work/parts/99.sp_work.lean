/-! ===== work keeps both sides alike ===== -/
section SPW
variable {h g k : LH} {t t2 M : Nat}
/-- nothing was kept, the grid is told anew -/
theorem NZ.nk (Z : NZ h t) (X : XA h M) (ht : t ≤ t2) (kc : ∀ e, e < 241 → k.1 e = (ac_sv h).1 e) (N0 : NX k 0 k t2) (e3 : k.1 273 = h.1 273) (e1 : ∀ ix, 173 ≤ ix → ix < 692 → k.1 271 ix = h.1 271 ix) (e5 : k.1 270 5 = h.1 270 5) (e4 : k.1 274 = h.1 274) : NZ k t2 := by
  obtain ⟨N, U, I⟩ := Z
  obtain ⟨tt, u, h1, h2, h3, h4, h5, h6⟩ := id U
  have hcl : (h.1 240 8).toNatClampNeg = tt := by rw [h3, nI_clamp (by omega)]
  have C := nt_cp_ok (h := h) (b := 15 * (tt + 2)) (c := 0) (tf_K15 (r := tt + 2) (by omega)) (by decide +kernel) (by omega)
  have sv : ac_sv h = nt_cp h (15 * (tt + 2)) 0 := by unfold ac_sv; rw [hcl]
  rw [← sv] at C
  have kk : ∀ e, e < 241 → ¬ (15 * (tt + 2) ≤ e ∧ e < 15 * (tt + 2) + 15) → k.1 e = h.1 e := fun e z1 z2 => by rw [kc e z1, C.1 e z2]
  exact ⟨N0, (U.no h3 h1 (by rw [kk 240 (by omega) (by omega)]) (by rw [kk 240 (by omega) (by omega)]) (fun e z1 z2 z3 => kk e (by omega) z3) e5 e4).up ht, (I.same (fun e z1 z2 => kk e (by omega) (by omega)) e3 e1).up ht⟩
theorem zz_11 (I : IZ h t) (ht : t ≤ 511) : lk_eq h 192 [.ref 240] 69 [.ref 270] (fun g => NZ g (t + 1)) := by
  have IX0 := I.2
  obtain ⟨l, hl, el⟩ := (IX0.1.1.1.2 0 (by omega)).2
  have el : h.1 251 1 = nI l := el
  have em : h.1 271 170 = nI l := IX0.1.2.2.1.symm.trans el
  obtain ⟨u, hu, eu⟩ := I.un
  refine (tf_Sp.cj ((cx_work IX0.1.1.1 (by omega) hl el).cj (cz_work IX0.1.1.1 (by omega) hl el)) (ix_11 IX0 ht)).mp (fun v g p => ?_)
  obtain ⟨⟨⟨⟨-, -, F, -, -, -⟩, -⟩, p2, p3⟩, -, -⟩ := p
  have ec : ∀ i, i < l → h.1 252 i = (fun i => g.1 272 i &&& 255) i := fun i hi => by
    show _ = g.1 272 i &&& 255
    rw [F.1 272 (by decide)]
    exact IX0.2.1 i (by omega)
  have R : RI g (8000 * t) := IX0.1.1.2.hi (fun c h1 _ => F.1 c h1)
  have emg : g.1 271 170 = nI l := by rw [F.1 271 (by decide)]; exact em
  have eug : g.1 270 5 = nI u := by rw [F.1 270 (by decide)]; exact eu
  have ew := cg_wrk ec
  have ea := cg_all0 ec (o := 1)
  by_cases z : (px_wrk (h.1 252) l).1 = 0
  · obtain ⟨gt, n, k, m, g1, XT, hm, H, ⟨c0, Rc⟩, rfl, eg⟩ := p3 z
    obtain ⟨-, -, os0⟩ := wrk_0 hl z
    have c80 := px_all_80 (c := h.1 252) (l := l) (o := 1) 80 (px_p (h.1 252) l 0)
    obtain ⟨X1, F1, e15⟩ := sv_ok XT
    have s15 : ∀ e, e < 15 → (ac_sv gt).1 e = h.1 e := fun e he => (e15 e he).trans (g1 e (by omega) (by omega))
    have H0 : NT h 0 n k m := H.same (fun e _ h2 => (s15 e (by omega)).symm)
    obtain ⟨a1, a2, a3⟩ := I.1.1.nt H0 (by omega) (by omega)
    have n7 := a2.1.1.2.1
    have k14 := a2.1.1.2.2
    have rw1 : RW h g := RW.of (F.1 271 (by decide))
    have G : GI g n k (8000 * t) := a2.cong rw1
    have N : NR (ac_sv gt) 0 g n k m := (a3.eq n7 k14 (fun o ho => s15 (0 + o) (by omega))).rw rw1 n7 k14
    have rz := (rq_work R (by omega)).cj (rz_work R (by omega) hl emg rfl G N hu eug)
    rw [← ea, ← ew] at rz
    have os9 : ∀ j, 0 ≤ j → j < 0 + (px_all (h.1 252) l 1 80 (px_p (h.1 252) l 0)).1.length → lnV (px_all (h.1 252) l 1 80 (px_p (h.1 252) l 0)).1 j = 9 → ∃ NN, NN ≤ 60 ∧ lnA (px_all (h.1 252) l 1 80 (px_p (h.1 252) l 0)).1 j 0 = nI NN := fun j _ hj z9 => by
      obtain ⟨a, b⟩ := ln_at (ls := (px_all (h.1 252) l 1 80 (px_p (h.1 252) l 0)).1) (i := j) (by omega)
      obtain ⟨NN, n1, n2, n3⟩ := (px_os_0 _ _ os0).2 j _ a z9
      exact ⟨NN, n2, n3⟩
    obtain ⟨⟨o1, o2, ⟨c2, o3⟩, o4, o5⟩, o6, o7⟩ := odf_ok (n := n) (k := k) (px_all (h.1 252) l 1 80 (px_p (h.1 252) l 0)).1.length 0 (ac_sv gt) m c0 H Rc os9
    have o0 := odf_0 (n := n) (k := k) (V := lnV (px_all (h.1 252) l 1 80 (px_p (h.1 252) l 0)).1) (A := lnA (px_all (h.1 252) l 1 80 (px_p (h.1 252) l 0)).1) (px_all (h.1 252) l 1 80 (px_p (h.1 252) l 0)).1.length (ac_sv gt) m
    generalize odf n k (lnV (px_all (h.1 252) l 1 80 (px_p (h.1 252) l 0)).1) (lnA (px_all (h.1 252) l 1 80 (px_p (h.1 252) l 0)).1) (px_all (h.1 252) l 1 80 (px_p (h.1 252) l 0)).1.length 0 (ac_sv gt) m = P at *
    have Zt : NZ gt (t + 1) := I.1.fr (fun e h1 h2 => g1 e (by omega) (by omega)) (fun ix _ _ => by rw [g1 271 (by decide) (by decide)]) (by rw [g1 270 (by decide) (by decide)]) (g1 274 (by decide) (by decide)) (g1 273 (by decide) (by decide))
    have gh : ∀ e, 270 ≤ e → g.1 e = gt.1 e := fun e he => (F.1 e he).trans (g1 e (by omega) (by omega)).symm
    refine ⟨_, rfl, rz.mp (fun w k2 q => ?_)⟩
    obtain ⟨⟨-, -, Cm, -, qi, q3, -⟩, -, q5⟩ := q
    obtain ⟨rfl, G2, N2, y0, y1⟩ := q5 z
    refine ⟨rfl, ?_⟩
    have qi2 : ∀ ix, 173 ≤ ix → ix < 692 → k2.1 271 ix = gt.1 271 ix := fun ix h1 h2 => by rw [qi ix h1 h2, gh 271 (by decide)]
    have q32 : k2.1 273 = gt.1 273 := by rw [q3, gh 273 (by decide)]
    rcases Nat.eq_zero_or_pos P.2.2 with pz | pz
    · obtain ⟨p1, pm⟩ := o0 pz
      obtain ⟨y5, y4⟩ := y0 pz
      have eg2 : g = ac_sv gt := by
        rw [eg, p1, pz]
        exact ac_ca_0
      refine Zt.nk XT (Nat.le_refl _) (fun e he => by rw [Cm e (by omega), eg2]) ⟨n, k, m, by omega, H.same (fun e _ h2 => by rw [Cm e (by omega), eg2]), G2.mono (by omega), ?_⟩ q32 qi2 (by rw [y5, gh 270 (by decide)]) (by rw [y4, gh 274 (by decide)])
      rw [p1, pm] at N2
      exact N2.eq n7 k14 (fun o ho => by rw [Cm (0 + o) (by omega), eg2])
    · have bT : bI (decide (0 < P.2.2)) = 1 := by rw [decide_eq_true pz]; rfl
      rw [bT] at eg
      obtain ⟨ca1, -⟩ := ac_ca_1 (h := P.1) 1
      have k15 : ∀ e, e < 15 → k2.1 e = P.1.1 e := fun e he => by rw [Cm e (by omega), eg, ca1 e (by omega)]
      obtain ⟨k5, k1, kk2⟩ := y1 pz
      refine Zt.done XT (Nat.le_refl _) (g2 := P.1) o4 (fun e he => by rw [Cm e he, eg]) ⟨n, k, P.2.1, by omega, o1.same (fun e _ h2 => k15 e (by omega)), G2.mono (by omega), N2.eq n7 k14 (fun o ho => k15 (0 + o) (by omega))⟩ q32 qi2 (fun u2 hu2 eu2 => ?_)
      have uu : u2 = u := (nI_eq (by omega) (by omega)).mp (eu2.symm.trans ((gh 270 (by decide) ▸ rfl : gt.1 270 5 = g.1 270 5).trans eug))
      subst uu
      refine ⟨k5, fun j hj => ?_, fun i hi j hj => ?_⟩
      · rw [k1 j hj, gh 271 (by decide)]
      · rw [kk2 i hi j hj, gh 274 (by decide)]
  · obtain ⟨rfl, fe⟩ := p2 z
    obtain ⟨n, k, m, h1, H, G, N⟩ := I.1.1
    have rw1 : RW h g := RW.of (F.1 271 (by decide))
    have rz := (rq_work R (by omega)).cj (rz_work R (by omega) hl emg rfl (G.cong rw1) (N.rw rw1 G.1.1.2.1 G.1.1.2.2) hu eug)
    rw [← ea, ← ew] at rz
    refine ⟨_, rfl, rz.mp (fun w k2 q => ?_)⟩
    obtain ⟨⟨-, -, Cm, -, qi, q3, -⟩, q4, -⟩ := q
    obtain ⟨rfl, y1, y5, y4⟩ := q4 z
    refine ⟨rfl, I.1.fr (fun e h1 h2 => by rw [Cm e (by omega), fe e (by omega) (by omega)]) (fun ix h1 h2 => ?_) (by rw [y5, F.1 270 (by decide)]) (by rw [y4, F.1 274 (by decide)]) (by rw [q3, F.1 273 (by decide)])⟩
    rcases Nat.lt_or_ge ix 170 with y | y
    · rw [y1 ix y, F.1 271 (by decide)]
    · rw [qi ix (by omega) h1, F.1 271 (by decide)]
theorem ze_11 (I : IZ h t) (ht : t ≤ 511) : lk_eq h 192 [.ref 240] 69 [.ref 270] (fun g => IZ g (t + 1)) := (zz_11 I ht).cj (ix_11 I.2 ht)
theorem iz_1 (I : IZ h t) (ht : t ≤ 511) : lk_sp h 182 [.ref 240] 24 [.ref 270] (fun g => IZ g (t + 1)) := zz_1 I ht
end SPW
