/-! ===== thread on both sides ===== -/
section TET
variable {h g r : LH} {t M d n k m b : Nat}
theorem ch_eq (T : LT g n k) (C : CT h b g n) {q : Nat} (hq : q ≤ n) : ∀ (f p : Nat), p + f ≤ n → nt_ch h b (cI n q) f p = chf g (nI q) f p
  | 0, _, _ => rfl
  | f + 1, p, hp => by
    have n7 := T.1.1.2.1
    rw [nt_ch, chf, (C p (by omega)).1, ch_eq T C hq f (p + 1) (by omega)]
    have i1 := cI_inj n7 (T.up (show p < n by omega)).1 hq
    have i2 := uf_of T (show p < n by omega) hq
    by_cases z : uf g p = q
    · rw [if_pos (i1.mpr z), if_pos (i2.mpr z)]
    · rw [if_neg (fun y => z (i1.mp y)), if_neg (fun y => z (i2.mp y))]
theorem thr_no {c : Nat} (hc : c < 100) : ∀ (f : Nat) (a : Int32), nt_thr h b n f (nI c) a = nI c
  | 0, _ => rfl
  | f + 1, a => by rw [nt_thr, if_neg (nI_neg1 hc)]
theorem ptr_eq (G : GI r n k M) (e0 : h.1 b 0 = nI n) (z : Int32) : nt_hasPt h b z = rf_isPt r z := by
  have r0 := G.1.2.1
  have n7 := G.1.1
  unfold nt_hasPt rf_isPt
  rw [e0, r0]
  by_cases z0 : z < 0
  · unfold rf_in
    simp [z0]
  · obtain ⟨j, hj, e⟩ := nI_of z0
    subst e
    by_cases jn : j < n
    · rw [(rin_lt hj (by omega)).mpr jn]
      have : ¬ nI n ≤ nI j := nI_ge jn (by omega)
      simp [z0, this]
    · rw [Bool.eq_false_iff.mpr (fun w => jn ((rin_lt hj (by omega)).mp w))]
      have : nI n ≤ nI j := nI_le (by omega) hj
      simp [this]
theorem th_up2 (T : LT g n k) (C : CT h b g n) {res : Int32} {a s : Nat} {x1 : Int32} {V : Nat → Bool} (ha : a < n) (J : TJ g n a V) (hV : cv V n < n) {Q : tf_Q} (q : ∀ (c : Nat) (x2 x4 : Int32), c < n → TJ g n c (cadd V c) → x4 = nI c → res = nI c → lx_X9_thread 298 (tf_Cd 298 (d + 1)) Q 81 [.ref 270, .int x1, .int x2, .int (nI s), .int x4] [] g) : ∀ (f i : Nat), i + f = df g a → (∀ i2, i2 < i → ∀ o, o < n → uf g o = tw g i2 a → (i2 = 0 ∨ tw g (i2 - 1) a < o) → False) → nt_thr h b n (n - i) (chf g (nI (tw g i a)) (n - (if i = 0 then 0 else tw g (i - 1) a + 1)) (if i = 0 then 0 else tw g (i - 1) a + 1)) (cI n (tw g i a)) = res → lx_X9_thread 298 (tf_Cd 298 (d + 1)) Q 52 [.ref 270, .int x1, .int (nI (tw g i a)), .int (nI s), .int (chf g (nI (tw g i a)) (n - (if i = 0 then 0 else tw g (i - 1) a + 1)) (if i = 0 then 0 else tw g (i - 1) a + 1))] [] g := by
  intro f
  induction f with
  | zero =>
    intro i hi no hr
    have hn := T.1.1
    have ti := T.tu i a (by omega) (by omega)
    have hbn : (if i = 0 then 0 else tw g (i - 1) a + 1) ≤ n := by
      split
      · omega
      · have := on_lt T (i1 := i - 1) (show a ≤ n by omega) (show df g a ≤ df g a by omega) (by omega)
        omega
    rcases chf_or (g := g) (nI (tw g i a)) (n - (if i = 0 then 0 else tw g (i - 1) a + 1)) (if i = 0 then 0 else tw g (i - 1) a + 1) with ⟨e1, e2⟩ | ⟨c, h1, h2, h3, h4, h5⟩
    · exfalso
      apply Nat.lt_irrefl n
      have : cv V n = n := cv_all n (fun o ho => by
        rcases J o ho with z | ⟨i2, j2, w1, w2, w3, w4⟩
        · exact z
        · exfalso
          have ht : tw g j2 o < n := on_lt T (by omega) (Nat.le_refl _) w2
          rcases Nat.lt_or_ge i2 i with y | y
          · exact no i2 y _ ht w3 w4
          · have e : i2 = i := by omega
            subst e
            refine e2 (tw g j2 o) ?_ (by omega) ((uf_of T ht ti.1).mpr w3)
            split
            · omega
            · rename_i z0
              have := w4.resolve_left z0
              omega)
      omega
    · have hcn : c < n := by omega
      rw [h3] at hr ⊢
      rw [thr_no (by omega)] at hr
      refine go_X9_thread_52 (by decide) ⟨fun z => absurd z (nI_neg1 (by omega)), fun _ => q c _ _ hcn (J.next T ha (by omega) hcn ((uf_of T hcn ti.1).mp h4) no (fun o ho w1 w2 => ?_)) rfl hr.symm⟩
      rcases Nat.lt_or_ge o c with y | y
      · refine absurd ((uf_of T ho ti.1).mpr w1) (h5 o ?_ y)
        split
        · omega
        · rename_i z0
          have := w2.resolve_left z0
          omega
      · exact y
  | succ f ih =>
    intro i hi no hr
    have hn := T.1.1
    have ti := T.tu i a (by omega) (by omega)
    have hl : tw g i a < n := T.lt ti.1 (by omega)
    obtain ⟨a1, a2, a3, -⟩ := T.at hl
    have hbn : (if i = 0 then 0 else tw g (i - 1) a + 1) ≤ n := by
      split
      · omega
      · have := on_lt T (i1 := i - 1) (show a ≤ n by omega) (show df g a ≤ df g a by omega) (by omega)
        omega
    rcases chf_or (g := g) (nI (tw g i a)) (n - (if i = 0 then 0 else tw g (i - 1) a + 1)) (if i = 0 then 0 else tw g (i - 1) a + 1) with ⟨e1, e2⟩ | ⟨c, h1, h2, h3, h4, h5⟩
    · have hb8 := (C (tw g i a) hl).1
      have hF : n - i = (n - (i + 1)) + 1 := by
        have := T.dn (show a ≤ n by omega)
        omega
      have hr2 : nt_thr h b n (n - (i + 1)) (chf g (nI (uf g (tw g i a))) (n - (tw g i a + 1)) (tw g i a + 1)) (cI n (uf g (tw g i a))) = res := by
        rw [e1, hF, nt_thr, if_pos rfl, cI_lt hl, if_neg (nI_neg1 (by omega)), if_neg (fun z => by
          have := (nI_eq (a := tw g i a) (b := 7) (by omega) (by omega)).mp z
          omega), nI_clamp (by omega), hb8, ch_eq T C a2 _ _ (by omega)] at hr
        exact hr
      rw [e1]
      have v8 : vp_in (nI (tw g i a)) 8 := vi_of (by omega) (by omega)
      have ct : (nI (tw g i a)).toNatClampNeg = tw g i a := nI_clamp (by omega)
      refine go_X9_thread_52 (by decide) ⟨fun _ => ⟨v8, ?_⟩, fun z => absurd rfl z⟩
      rw [ct, a1]
      refine sx_rch (d := d) T.1 (nI (uf g (tw g i a))) (tw g i a + 1) (by rw [nI_1]) (by omega) _ (go_X9_thread_69 (by decide) ⟨v8, ?_⟩)
      rw [ct, a1]
      have := ih (i + 1) (by omega) (fun i2 h1 o ho w1 w2 => by
        rcases Nat.lt_or_ge i2 i with y | y
        · exact no i2 y o ho w1 w2
        · have e : i2 = i := by omega
          subst e
          refine e2 o ?_ (by omega) ((uf_of T ho ti.1).mpr w1)
          split
          · omega
          · rename_i z0
            have := w2.resolve_left z0
            omega)
      rw [if_neg (by omega), show i + 1 - 1 = i by omega, tw_succ] at this
      exact this hr2
    · have hcn : c < n := by omega
      rw [h3] at hr ⊢
      rw [thr_no (by omega)] at hr
      refine go_X9_thread_52 (by decide) ⟨fun z => absurd z (nI_neg1 (by omega)), fun _ => q c _ _ hcn (J.next T ha (by omega) hcn ((uf_of T hcn ti.1).mp h4) no (fun o ho w1 w2 => ?_)) rfl hr.symm⟩
      rcases Nat.lt_or_ge o c with y | y
      · refine absurd ((uf_of T ho ti.1).mpr w1) (h5 o ?_ y)
        split
        · omega
        · rename_i z0
          have := w2.resolve_left z0
          omega
      · exact y
theorem th_L2 (T : LT g n k) (C : CT h 0 g n) {kk : Nat} (hk : kk < n) {Q : tf_Q} : ∀ (f s a : Nat) (V : Nat → Bool) (x4 : Value), s + f = kk → a < n → TJ g n a V → cv V n ≤ s + 1 → Q (.int (qv_thr h n f (nI a))) g → lx_X9_thread 298 (tf_Cd 298 (d + 1)) Q 39 [.ref 270, .int (nI kk), .int (nI a), .int (nI s), x4] [] g
  | 0, s, a, V, x4, hs, ha, J, hV, q => by
    have hn := T.1.1
    refine go_X9_thread_39 (by decide) ⟨fun _ => go_X9_thread_90 (by decide) q, fun z => absurd (nI_le (by omega) (by omega)) z⟩
  | f + 1, s, a, V, x4, hs, ha, J, hV, q => by
    have hn := T.1.1
    have ce := ch_eq T C (show a ≤ n by omega) n 0 (by omega)
    rw [cI_lt ha] at ce
    rw [qv_thr, ce] at q
    refine go_X9_thread_39 (by decide) ⟨fun z => absurd z (nI_ge (by omega) (by omega)), fun _ => sx_rch (d := d) T.1 (nI a) 0 rfl (by omega) _ (go_X9_thread_50 (by decide) ?_)⟩
    refine th_up2 (V := V) T C ha J (by omega) (fun c x2 x4 hc J2 e er => go_X9_thread_81 (by decide) ?_) (df g a) 0 (by omega) (fun i2 h => absurd h (by omega)) (by rw [cI_lt (show tw g 0 a < n from ha)])
    have er2 : nt_thr h 0 n n (chf g (nI a) n 0) (nI a) = nI c := er
    rw [er2] at q
    rw [e, nI_1]
    have := (cv_add (V := V) (p := c) n).1
    exact th_L2 T C hk f (s + 1) c (cadd V c) _ (by omega) hc J2 (by omega) q
theorem xv_thread (G0 : GI h n k M) (N : NR h 0 h n k m) (x : Int32) : XV 77 [.int x] h (qv_thread h n x) := by
  intro Q q
  have q2 : ∀ (v : Int32) (g : LH), v = qv_thread h n x → Q (.int v) g := fun v g e => q _ g (by rw [e])
  clear q
  have G : GI (w1 h 270 0 0) n k M := G0.w (by decide)
  have pt := ptr_eq (h := h) (b := 0) G N.1.1.1 x
  obtain ⟨-, -, C, -⟩ := (N.w0 (v := 0) (i := 0) G0).lay G
  unfold qv_thread at q2
  rw [pt] at q2
  refine en_X9_thread (by decide) (go_X9_thread_0 (by decide) ?_)
  show tf_Cd 298 10 _ [.int x, .int 0, .int ((w1 h 270 0 0).1 271 0 - 1)] (w1 h 270 0 0) _
  generalize w1 h 270 0 0 = h1 at *
  have hn := G.1.1
  unfold rf_isPt at q2
  have e0 : h1.1 271 0 - 1 = nI (n - 1) := by
    rw [G.1.2.1, show n = n - 1 + 1 by omega]
    exact nI_pred _
  rw [e0] at q2 ⊢
  refine sx_in (d := 9) _ _ _ _ (go_X9_thread_18 (by decide) ⟨fun c => q2 _ _ (by rw [bI_0] at c; rw [c]; rfl), fun c => go_X9_thread_23 (by decide) ?_⟩)
  rw [bI_0, Bool.not_eq_false] at c
  rw [if_pos c] at q2
  obtain ⟨kk, -, hkk, ek⟩ := rf_in_t (l := 0) (u := n - 1) (by omega) c (by omega)
  subst ek
  have FL := lt_fl (h := h1) (n := n) (k := k)
  have T := G.lt
  refine sx_lt (d := 7) G.1 _ (go_X9_thread_27 (by decide) ?_)
  rw [nI_clamp (show kk < 2 ^ 31 by omega)] at q2
  generalize lt h1 n k = g at *
  have ce := ch_eq T C (Nat.le_refl n) n 0 (by omega)
  rw [(cI_7 hn.2.1 (Nat.le_refl n)).mpr rfl] at ce
  rw [ce] at q2
  refine sx_root (d := 9) _ (go_X9_thread_32 (by decide) (sx_rch (d := 9) T.1 _ 0 rfl (by omega) _ (go_X9_thread_36 (by decide) ?_)))
  rw [T.1.2.1]
  have top : ∀ o, o < n → ∃ c, c < n ∧ df g o - 1 < df g o ∧ tw g (df g o - 1) o = c ∧ uf g c = n := by
    intro o ho
    have dpos := (T.at ho).2.2.1
    have t1 := T.tu (df g o - 1) o (by omega) (by omega)
    have hl : tw g (df g o - 1) o < n := T.lt t1.1 (by omega)
    refine ⟨_, hl, by omega, rfl, ?_⟩
    have t2 := T.tu (df g o) o (by omega) (Nat.le_refl _)
    rw [← tw_succ, show df g o - 1 + 1 = df g o by omega]
    rcases Nat.lt_or_ge (tw g (df g o) o) n with y | y
    · have := (T.at y).2.2.1
      omega
    · omega
  rcases chf_or (g := g) (nI n) (n - 0) 0 with ⟨e1, e2⟩ | ⟨c, h1', h2, h3, h4, h5⟩
  · exfalso
    obtain ⟨c, hc, -, -, hu⟩ := top 0 (by omega)
    exact e2 c (by omega) (by omega) ((uf_of T hc (Nat.le_refl _)).mpr hu)
  · have hcn : c < n := by omega
    have uc := (uf_of T hcn (Nat.le_refl _)).mp h4
    have h3b : chf g (nI n) n 0 = nI c := h3
    rw [h3b] at q2
    rw [h3]
    refine th_L2 (d := 9) T C (kk := kk) (by omega) kk 0 c (cadd (fun _ => false) c) _ (by omega) hcn (fun o ho => ?_) ?_ (q2 _ _ rfl)
    · obtain ⟨c2, hc2, hd, et, hu⟩ := top o ho
      have hle : c ≤ c2 := by
        rcases Nat.lt_or_ge c2 c with y | y
        · exact absurd ((uf_of T hc2 (Nat.le_refl _)).mpr hu) (h5 c2 (by omega) y)
        · exact y
      have dc := (T.at hcn).2.2.1
      rcases Nat.lt_or_ge c c2 with y | y
      · refine Or.inr ⟨1, df g o - 1, by omega, hd, ?_, Or.inr ?_⟩
        · rw [et, hu, ← uc]
          rfl
        · rw [et]
          exact y
      · have e : c2 = c := by omega
        rcases Nat.eq_zero_or_pos (df g o - 1) with w | w
        · rw [w] at et
          have : o = c := et.trans e
          exact Or.inl (by simp [cadd, this])
        · refine Or.inr ⟨0, df g o - 2, by omega, by omega, ?_, Or.inl rfl⟩
          rw [← tw_succ, show df g o - 2 + 1 = df g o - 1 by omega, et, e]
          rfl
    · have := (cv_add (V := fun _ => false) (p := c) n).1
      have z : cv (fun _ => false) n = 0 := by
        have : ∀ m, cv (fun _ => false) m = 0 := by
          intro m
          induction m with
          | zero => rfl
          | succ m ih =>
            unfold cv
            rw [ih]
            rfl
        exact this n
      omega
theorem ze_16 (I : IZ h t) (x : Int32) : lk_eq h 195 [.ref 240, .int x] 77 [.ref 270, .int x] (fun g => IZ g (t + 1)) := by
  obtain ⟨n, k, m, hm, H, G, N⟩ := I.1.1
  exact ze_q (iz_16 I x) (pq_thread H.1 x) (xv_thread G N x)
end TET
