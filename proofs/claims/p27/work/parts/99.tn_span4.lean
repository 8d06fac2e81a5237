/-! ===== span: all costs tried out, and the answer ===== -/
section TNS
variable {h g g1 h1 r T T2 : LH} {t M d n k m x : Nat}
def spv (x2 : Int32) (j : Nat) : Int32 := if x2 = 0 then -(nI j - 99) else nI j - 99
theorem spv_c (x2 : Int32) {j : Nat} (hj : j ≤ 198) : ∃ c, c ≤ 198 ∧ spv x2 j + 99 = nI c ∧ c = (if x2 = 0 then 198 - j else j) := by
  unfold spv
  by_cases z : x2 = 0
  · rw [if_pos z, if_pos z]
    exact ⟨_, by omega, c99n hj, rfl⟩
  · rw [if_neg z, if_neg z]
    exact ⟨_, hj, c99, rfl⟩
theorem c_v {y : Int32} {c : Nat} (hc : c ≤ 198) (e : y + 99 = nI c) : y.toInt = (c : Int) - 99 := by
  have ex : y = nI c - 99 := by rw [← e]; exact (Int32.add_sub_cancel y 99).symm
  have : (nI c - 99).toInt = (c : Int) - (99 : Nat) := pk_sub_toInt (a := c) (b := 99) (by omega) (by decide)
  rw [ex, this]
  rfl
/-- what a cost makes of all offers -/
theorem best_iff (G : GI h1 n k M) (N : NR h 0 h1 n k m) (G2 : GI g1 n k M) {y : Int32} {cy : Nat} (hy : cy ≤ 198) (ey : y + 99 = nI cy) (R : RXk h1 g1 x y) (hx : x < k) (B0 : ∀ a, a < k → rf_off (lt h1 n k) a = false) : rf_many (lt g1 n k) k 0 0 = 0 ↔ (nt_low h 0 n (nI x) k 0 (-99)).toInt ≤ (cy : Int) - 99 ∧ (cy : Int) - 99 ≤ (nt_high h 0 n (nI x) k 0 99).toInt := by
  have k14 := G.1.1.2.2
  have ev := c_v hy ey
  have e1 : (-99 : Int32).toInt = -99 := rfl
  have e2 : (99 : Int32).toInt = 99 := rfl
  rw [many_0 k14, low_iff, high_iff, e1, e2]
  have A := fun a (ha : a < k) => arc_iff G N G2 hy ey R hx ha (B0 a ha)
  constructor
  · intro z
    refine ⟨⟨by omega, fun c _ hc s1 s2 => ?_⟩, by omega, fun c _ hc s1 s2 => ?_⟩
    · have := ((A c (by omega)).mp (z c (by omega))).1 s1 s2
      omega
    · have := ((A c (by omega)).mp (z c (by omega))).2 s1 s2
      omega
  · intro z a ha
    refine (A a ha).mpr ⟨fun s1 s2 => ?_, fun s1 s2 => ?_⟩
    · have := z.1.2 a (Nat.zero_le _) (by omega) s1 s2
      omega
    · have := z.2.2 a (Nat.zero_le _) (by omega) s1 s2
      omega
theorem xv_spL {x2 was V : Int32} (hx : x < k) (hk : k ≤ 14) {cw jV : Nat} (hcw : cw ≤ 198) (ew : was + 99 = nI cw) (hjV : jV ≤ 198) (eV : V = spv x2 jV) (HB : ∀ (g1 : LH) (j : Nat), GI g1 n k M → j ≤ 198 → RXk h1 g1 x (spv x2 j) → (j = jV → rf_many (lt g1 n k) k 0 0 = 0) ∧ (jV < j → rf_many (lt g1 n k) k 0 0 ≠ 0)) {Q : tf_Q} (q : ∀ g : LH, Q (.int V) g) : ∀ (f j : Nat) (g : LH) (x4 : Int32) (x6 : Value), j + f = 199 → GI g n k M → (∀ ix, ix < 170 → ix ≠ 72 + 7 * x + 3 → g.1 271 ix = h1.1 271 ix) → (jV < j → x4 = V) → lx_X9_span 298 (tf_Cd 298 (d + 5)) Q 40 [.ref 270, .int (nI x), .int x2, .int was, .int x4, .int (nI j - 99), x6] [] g
  | 0, j, g, x4, x6, hj, G, R, e4 => by
    have e : j = 199 := by omega
    subst e
    have := e4 (by omega)
    subst this
    exact go_X9_span_40 (by decide) ⟨fun _ => go_X9_span_91 (by decide) (sx_puts (d := d + 4) x 3 _ rfl rfl (by omega) (by omega) _ (go_X9_span_98 (by decide) (q _))), fun z => absurd (by decide) z⟩
  | f + 1, j, g, x4, x6, hj, G, R, e4 => by
    have e59 : ∀ (y : Int32), y = spv x2 j → lx_X9_span 298 (tf_Cd 298 (d + 5)) Q 59 [.ref 270, .int (nI x), .int x2, .int was, .int x4, .int (nI j - 99), x6] [.int y] g := by
      intro y ey
      obtain ⟨c, hc, ec, -⟩ := spv_c x2 (show j ≤ 198 by omega)
      rw [← ey] at ec
      refine go_X9_span_59 (by decide) (sx_puts (d := d + 4) x 3 _ rfl rfl (by omega) (by omega) _ (go_X9_span_69 (by decide) ?_))
      have G1 := G.cost (a := x) hc ec
      have R1 : RXk h1 (rp g x 3 y) x y := ⟨fun ix h1 h2 => by rw [rp_ne h2]; exact R ix h1 h2, rp_at⟩
      generalize rp g x 3 y = g1 at *
      have FL := lt_fl (h := g1) (n := n) (k := k)
      have e83 : ∀ y2 : Int32, (jV < j + 1 → y2 = V) → lx_X9_span 298 (tf_Cd 298 (d + 5)) Q 83 [.ref 270, .int (nI x), .int x2, .int was, .int x4, .int (nI j - 99), .int y] [.int y2] (lt g1 n k) := fun y2 e2 => go_X9_span_83 (by decide) (by rw [m99]; exact xv_spL hx hk hcw ew hjV eV HB q f (j + 1) _ _ _ (by omega) (G1.fl FL) (fun ix h1 h2 => by rw [FL.r]; exact R1.1 ix h1 h2) e2)
      obtain ⟨b1, b2⟩ := HB g1 j G1 (by omega) (by rw [← ey]; exact R1)
      refine sx_best (d := d) G1 _ (go_X9_span_73 (by decide) ⟨fun z => go_X9_span_81 (by decide) (e83 _ (fun w => ?_)), fun z => e83 _ (fun w => ?_)⟩)
      · rw [bI_0] at z
        have nz : rf_many (lt g1 n k) k 0 0 ≠ 0 := of_decide_eq_false z
        refine e4 ?_
        rcases Nat.lt_or_ge jV j with u | u
        · exact u
        · exact absurd (b1 (by omega)) nz
      · rw [bI_0, Bool.not_eq_false] at z
        have nz : rf_many (lt g1 n k) k 0 0 = 0 := of_decide_eq_true z
        rcases Nat.lt_or_ge jV j with u | u
        · exact absurd nz (b2 u)
        · rw [ey, eV, show j = jV by omega]
    refine go_X9_span_40 (by decide) ⟨fun z => absurd z (m99_lt (by omega)), fun _ => ⟨fun z => go_X9_span_56 (by decide) (e59 _ ?_), fun z => e59 _ ?_⟩⟩
    · unfold spv
      rw [if_pos z]
    · unfold spv
      rw [if_neg z]
theorem xv_span (G0 : GI h n k M) (N : NR h 0 h n k m) (x y : Int32) : XV 94 [.int x, .int y] h (qv_span h n k x y) := by
  intro Q q
  have q2 : ∀ (v : Int32) (g : LH), v = qv_span h n k x y → Q (.int v) g := fun v g e => q _ g (by rw [e])
  clear q
  have G : GI (w1 h 270 0 0) n k M := G0.w (by decide)
  have N1 : NR h 0 (w1 h 270 0 0) n k m := N.w0 G0
  have har : rf_isArc (w1 h 270 0 0) x = nt_hasArc h 0 x := by
    rw [har_eq G0 N x]
    unfold rf_isArc
    rw [w1_ne (by decide)]
  have cm := cnt_eq (N1.off G) k 0 0 (by omega)
  refine en_X9_span (by decide) (go_X9_span_0 (by decide) ?_)
  show tf_Cd 298 10 _ _ (w1 h 270 0 0) _
  generalize w1 h 270 0 0 = h1 at *
  unfold qv_span at q2
  refine sx_risArc (d := 8) x _ (go_X9_span_10 (by decide) ⟨fun c => go_X9_span_20 (by decide) (q2 _ _ ?_), fun c => ?_⟩)
  · rw [bI_0, har] at c
    rw [c]
    rfl
  rw [bI_0, Bool.not_eq_false] at c
  obtain ⟨a, ha, ea⟩ := rf_arc_t G.1 c
  rw [har] at c
  rw [if_pos c] at q2
  subst ea
  have hn := G.1.1
  have FL := lt_fl (h := h1) (n := n) (k := k)
  obtain ⟨s, hs, es, e0⟩ := many_c (T := lt h1 n k) k 0 0
  have es : rf_many (lt h1 n k) k 0 0 = nI s := by
    rw [show (0 : Int32) = nI 0 from rfl, es, Nat.zero_add]
  have c0 : nt_cnt h 0 k 0 0 ≤ 0 ↔ rf_many (lt h1 n k) k 0 0 = 0 := by
    rw [cm, es]
    constructor
    · intro z
      rcases Nat.eq_zero_or_pos s with w | w
      · rw [w]; rfl
      · have := nI_lt (a := 0) w (by omega)
        exact absurd z (Int32.not_le.mpr this)
    · intro z
      rw [z]
      decide
  refine sx_best (d := 5) G _ (go_X9_span_17 (by decide) ⟨fun z => go_X9_span_20 (by decide) (q2 _ _ ?_), fun z => go_X9_span_24 (by decide) ?_⟩)
  · rw [bI_0] at z
    rw [if_neg (fun w => of_decide_eq_false z (c0.mp w))]
  rw [bI_0, Bool.not_eq_false] at z
  have z0 := of_decide_eq_true z
  rw [if_pos (c0.mpr z0)] at q2
  have B0 := (many_0 hn.2.2).mp z0
  have G2 := G.fl FL
  obtain ⟨cw, hcw, ew⟩ := G2.2.2.2.2.1.2.2.1 a ha
  obtain ⟨cw0, hcw0, ew0⟩ := G.2.2.2.2.1.2.2.1 a ha
  have own := (best_iff G N1 G hcw0 ew0 ⟨fun _ _ _ => rfl, rfl⟩ ha B0).mp z0
  have lo := ((low_iff (h := h) (n := n) (xx := nI a) k 0 (-99)).mp (Int.le_refl _)).1
  have hi := ((high_iff (h := h) (n := n) (xx := nI a) k 0 99).mp (Int.le_refl _)).1
  rw [show (-99 : Int32).toInt = -99 from rfl] at lo
  rw [show (99 : Int32).toInt = 99 from rfl] at hi
  have bi := fun (g1 : LH) (y : Int32) (cy : Nat) (G2 : GI g1 n k M) (hy : cy ≤ 198) (ey : y + 99 = nI cy) (R : RXk h1 g1 a y) => best_iff G N1 G2 hy ey R ha B0
  generalize elo : nt_low h 0 n (nI a) k 0 (-99) = L at *
  generalize ehi : nt_high h 0 n (nI a) k 0 99 = U at *
  have R0 : ∀ ix, ix < 170 → ix ≠ 72 + 7 * a + 3 → (lt h1 n k).1 271 ix = h1.1 271 ix := fun ix _ _ => by rw [FL.r]
  have vc : ∀ (Z : Int32) (c : Nat), c ≤ 198 → Z.toInt = (c : Int) - 99 → Z = nI c - 99 := fun Z c hc e => by
    apply Int32.toInt_inj.mp
    rw [e, c_v (y := nI c - 99) hc c99]
  have main : ∀ (V : Int32) (jV : Nat), jV ≤ 198 → V = spv y jV → (∀ (g1 : LH) (j : Nat), GI g1 n k M → j ≤ 198 → RXk h1 g1 a (spv y j) → (j = jV → rf_many (lt g1 n k) k 0 0 = 0) ∧ (jV < j → rf_many (lt g1 n k) k 0 0 ≠ 0)) → (∀ g, Q (.int V) g) → tf_Cd 298 10 3 [.ref 270, .int (nI a), .int 3] (lt h1 n k) (fun r g => lx_X9_span 298 (tf_Cd 298 10) Q 30 [.ref 270, .int (nI a), .int y, tf_z, tf_z, tf_z, tf_z] [r] g) := fun V jV hjV eV HB qV => sx_of (d := 9) a 3 rfl rfl (by omega) (by omega) _ (go_X9_span_30 (by decide) (xv_spL (d := 5) ha hn.2.2 hcw ew hjV eV HB qV 199 0 _ _ _ (by omega) G2 R0 (fun w => by omega)))
  by_cases y0 : y = 0
  · rw [if_pos y0] at q2
    refine main L (198 - (L.toInt + 99).toNat) (by omega) ?_ (fun g1 j Gg hj R => ?_) (fun g => q2 _ g rfl)
    · unfold spv
      rw [if_pos y0]
      have := c99n (j := 198 - (L.toInt + 99).toNat) (by omega)
      have e := c_v (y := -(nI (198 - (L.toInt + 99).toNat) - 99)) (by omega) this
      apply Int32.toInt_inj.mp
      rw [e]
      omega
    · obtain ⟨c, hc, ec, e⟩ := spv_c y hj
      rw [if_pos y0] at e
      have b := bi g1 _ c Gg hc ec R
      refine ⟨fun w => b.mpr ⟨by omega, by omega⟩, fun w w2 => ?_⟩
      have := b.mp w2
      omega
  · rw [if_neg y0] at q2
    refine main U (U.toInt + 99).toNat (by omega) ?_ (fun g1 j Gg hj R => ?_) (fun g => q2 _ g rfl)
    · unfold spv
      rw [if_neg y0]
      exact vc _ _ (by omega) (by omega)
    · obtain ⟨c, hc, ec, e⟩ := spv_c y hj
      rw [if_neg y0] at e
      have b := bi g1 _ c Gg hc ec R
      refine ⟨fun w => b.mpr ⟨by omega, by omega⟩, fun w w2 => ?_⟩
      have := b.mp w2
      omega
theorem ze_25 (I : IZ h t) (x y : Int32) : lk_eq h 204 [.ref 240, .int x, .int y] 94 [.ref 270, .int x, .int y] (fun g => IZ g (t + 1)) := by
  obtain ⟨n, k, m, hm, H, G, N⟩ := I.1.1
  exact ze_q (iz_25 I x y) (pq_span H.1 x y) (xv_span G N x y)
end TNS
