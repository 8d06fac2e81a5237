/-! ===== lay keeps both sides alike ===== -/
section SAL
variable {h g : LH} {t : Nat}
theorem nb_lay {s s2 : px_S} {r : LH} {m : Nat} (E : SEq s s2) (J : SI s) (N : NO g 0 m s.n) (F : FR g s) (u : ∀ p, p < m → g.1 1 p = s.su p) (T : TKs s2 r m) : NB g 0 r m s.n := by
  obtain ⟨e1, e2, e3, e4, e5, e6⟩ := E
  obtain ⟨B, t2, t3, t4, t5⟩ := T
  have m7 := B.1.1.2.1
  have k14 : s.n ≤ 14 := by have := B.1.1.2.2; omega
  obtain ⟨f1, f2, f3, -⟩ := F
  have rr : ∀ a w, a < 14 → w < 7 → rm r a w = s.tl (7 * a + w) := fun a w ha hw => by rw [t5 a w ha hw, e6 _ (by omega)]
  refine ⟨⟨N.2.2.1, f1, by rw [t2, ← e4]; exact f2⟩, fun p hp => by rw [t4 p (by omega), ← e5 p (by omega)]; exact u p hp, fun a ha => ?_⟩
  obtain ⟨⟨a0, a1, a2, a3⟩, a4, a7⟩ := f3 a ha
  unfold AE B0
  rw [rr a 0 (by omega) (by omega), rr a 1 (by omega) (by omega), rr a 2 (by omega) (by omega), rr a 3 (by omega) (by omega), rr a 4 (by omega) (by omega), rr a 6 (by omega) (by omega), (J a).1]
  refine ⟨⟨⟨a0, a1⟩, a2, a3, a4⟩, ?_⟩
  have a7 : g.1 (0 + 7) a = if s.tl (7 * a + 6) = 1 then 3 else 0 := a7
  rw [a7]
  rcases (J a).2 with z | z
  · rw [z]
    exact Or.inl ⟨rfl, by decide⟩
  · rw [z]
    exact Or.inr ⟨rfl, rfl⟩
theorem zz_1 (I : IZ h t) (ht : t ≤ 511) : lk_sp h 182 [.ref 240] 24 [.ref 270] (fun g => IZ g (t + 1)) := by
  have IX0 := I.2
  obtain ⟨l, hl, el⟩ := (IX0.1.1.1.2 0 (by omega)).2
  have el : h.1 251 1 = nI l := el
  have em : h.1 271 170 = nI l := IX0.1.2.2.1.symm.trans el
  have Z0 : S0 ((-1, fun _ => -1, 2, 0, 0, fun _ => 0, fun _ => 0) : px_S) := ⟨rfl, fun _ _ => rfl, rfl, rfl, rfl, fun _ _ => rfl, fun _ _ => rfl⟩
  have J0 : SI ((-1, fun _ => -1, 2, 0, 0, fun _ => 0, fun _ => 0) : px_S) := fun a => ⟨rfl, Or.inl rfl⟩
  generalize ((-1, fun _ => -1, 2, 0, 0, fun _ => 0, fun _ => 0) : px_S) = s0 at Z0 J0
  refine (tf_Sp.cj (ix_1 IX0) ((cx_lay IX0.1.1.1 hl el).cj (cz_lay IX0.1.1.1 hl el Z0))).mp (fun v g p => ?_)
  obtain ⟨⟨pv, p1⟩, ⟨⟨-, -, F, -, -, -⟩, -⟩, p2, p3⟩ := p
  have ec : ∀ i, i < l → h.1 252 i = (fun i => g.1 272 i &&& 255) i := fun i hi => by
    show _ = g.1 272 i &&& 255
    rw [F.1 272 (by decide)]
    exact IX0.2.1 i (by omega)
  have R : RI g (8000 * t) := IX0.1.1.2.hi (fun c h1 _ => F.1 c h1)
  refine ⟨pv, (tf_Sp.cj p1 ((rq_lay R).cj (ry_lay R hl (by rw [F.1 271 (by decide)]; exact em) rfl))).mp (fun w k q => ⟨q.1.1, ?_, q.1.2⟩)⟩
  obtain ⟨⟨-, IXk⟩, ⟨-, -, Cm, -, qi, q3, -⟩, s, Z, y1, y2⟩ := q
  rw [← px_lay_eq hl Z, ← cg_lay ec] at y1 y2
  rw [← cg_all0 ec] at y2
  obtain ⟨N, U, MI⟩ := id I.1
  have k3 : k.1 273 = h.1 273 := by rw [q3, F.1 273 (by decide)]
  have ki : ∀ ix, 173 ≤ ix → ix < 692 → k.1 271 ix = h.1 271 ix := fun ix h1 h2 => by rw [qi ix h1 h2, F.1 271 (by decide)]
  by_cases z : (px_lay (h.1 252) l).1 = 0
  · obtain ⟨-, g3, m, m2, m7, ep, NO3, FR3, su3, hb, c15, c9, cf, c8⟩ := p3 z
    obtain ⟨k5, m', r, m2', m7', ep', T, kr⟩ := y2 z
    generalize (px_all (h.1 252) l 0 80 (px_p (h.1 252) l 0)).1 = ls at *
    have E := sS_se ls _ _ (Z0.se Z)
    have J := sS_si ls _ J0
    generalize px_sS ls s0 = S at *
    generalize px_sS ls s = S2 at *
    have emm : m' = m := (nI_eq (by omega) (by omega)).mp (ep'.symm.trans (E.2.1.symm.trans ep))
    subst emm
    have B := T.1
    have en := E.2.2.1
    rw [← en] at B kr
    have n14 := B.1.1.2.2
    have NB3 := nb_lay E J NO3 FR3 su3 T
    obtain ⟨N1, N2, N3, N4, N5⟩ := nr_beg (b := 0) (by omega) B NB3 0
    obtain ⟨-, Fb⟩ := bgn_ok (M := 0) (w := 0) B
    have fb : ∀ i, i < 44 → k.1 271 i = r.1 271 i := fun i hi => by rw [kr i, Fb.2.2 i (Or.inl (by omega))]
    obtain ⟨t3, t4, t5, t6, t7⟩ := T.2.2.1
    have kc : ∀ e, e < 15 → k.1 e = (nt_tcl (nt_beg g3 0 m' S.n 0) 11).1 e := fun e he => by rw [Cm e (by omega), c15 e he]
    have tc : ∀ e, e ≠ 11 → (nt_tcl (nt_beg g3 0 m' S.n 0) 11).1 e = (nt_beg g3 0 m' S.n 0).1 e := fun e he => by unfold nt_tcl; rw [w1_ne he, w1_ne he, w1_ne he, w1_ne he]
    have k0 : ∀ e, e < 15 → e ≠ 11 → k.1 e = (nt_beg g3 0 m' S.n 0).1 e := fun e h1 h2 => by rw [kc e h1, tc e h2]
    have k11 : k.1 11 0 = 0 ∧ k.1 11 1 = 0 ∧ k.1 11 2 = 0 ∧ k.1 11 3 = -1 := by
      rw [kc 11 (by omega)]
      unfold nt_tcl
      exact ⟨by rw [w1_at (by decide), w1_at (by decide), w1_at (by decide), w1_eq], by rw [w1_at (by decide), w1_at (by decide), w1_eq], by rw [w1_at (by decide), w1_eq], w1_eq⟩
    have RWk : RW (bgn r m' S.n 0) k := fun i _ => kr i
    have NR0 : NR k 0 k m' S.n 0 := by
      refine ⟨N1.mv m7 n14 (by rw [k0 0 (by omega) (by omega)]) (by rw [k0 0 (by omega) (by omega)]) (by rw [k0 0 (by omega) (by omega), kr 2]; exact N1.1.2.2) (fun o h1 h2 => k0 _ (by omega) (by omega)) (fun i h1 h2 => kr i), (N2.cg RWk).cl m7 (fun p _ => by rw [k0 _ (by omega) (by omega)]) (fun p _ => by rw [k0 _ (by omega) (by omega)]) (fun p _ => by rw [k0 _ (by omega) (by omega)]), ⟨⟨k11.1, by rw [fb 3 (by omega), t3]; rfl⟩, ⟨by rw [fb 4 (by omega), t4]; exact k11.2.1, by rw [fb 5 (by omega), t5]; exact k11.2.2.1, by rw [fb 6 (by omega), t6]; exact k11.2.2.2⟩, by rw [fb 7 (by omega), t7]; rfl, fun j _ hj => absurd hj (by omega)⟩⟩
    obtain ⟨n1, k1, mm, hmm, H⟩ := IXk.1.1.1.1.net
    have e1 : n1 = m' := (nI_eq (by have := H.1.2.1; omega) (by omega)).mp (H.1.2.2.1.symm.trans NR0.1.1.1)
    have e2 : k1 = S.n := (nI_eq (by have := H.1.2.1; omega) (by omega)).mp (H.1.2.2.2.1.symm.trans NR0.1.1.2.1)
    have m31 : mm < 2147483648 := by omega
    have e3 : mm = 0 := (nI_eq (by omega) (by omega)).mp (H.2.1.symm.trans NR0.2.2.1.1)
    subst e1 e2 e3
    obtain ⟨n3, k3', G⟩ := IXk.1.1.2.1
    have e4 : n3 = n1 := (nI_eq (by have := G.1.1; omega) (by omega)).mp (G.1.2.1.symm.trans ((fb 0 (by omega)).trans B.1.2.1))
    have e5 : k3' = S.n := (nI_eq (by have := G.1.1; omega) (by omega)).mp (G.1.2.2.1.symm.trans ((fb 1 (by omega)).trans B.1.2.2.1))
    subst e4 e5
    obtain ⟨tt, u, h1, h2, h3, h4, h5, h6⟩ := id U
    refine ⟨⟨_, _, 0, by omega, H, G, NR0⟩, ⟨tt, 0, h1, by omega, by rw [Cm 240 (by omega), c8, h3], by rw [Cm 240 (by omega), c9]; rfl, k5, fun i hi => absurd hi (by omega)⟩, (MI.same (fun e z1 z2 => by rw [Cm e (by omega), cf e (by omega) (by omega)]) k3 ki).up (by omega)⟩
  · obtain ⟨-, c⟩ := p2 z
    obtain ⟨y3, y5, y4⟩ := y1 z
    refine I.1.fr (fun e h1 h2 => by rw [Cm e (by omega), c e h1]) (fun ix h1 h2 => ?_) (by rw [y5, F.1 270 (by decide)]) (by rw [y4, F.1 274 (by decide)]) k3
    rcases Nat.lt_or_ge ix 170 with y | y
    · rw [y3 ix y, F.1 271 (by decide)]
    · exact ki ix (by omega) h1
end SAL
