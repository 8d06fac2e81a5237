/-! ===== the class's grid: its tree, its sums ===== -/
theorem vi_7 {x : Int32} (h : vp_in x 8) (h7 : ¬ x = 7) : vp_in x 7 := by
  obtain ⟨j, hj, e⟩ := vi_nI h
  subst e
  have : j ≠ 7 := fun q => h7 (by rw [q]; rfl)
  exact vi_of (by omega) (by omega)
/-- what lies above each point is a point or the root -/
def nt_upok (h : LH) (b : Nat) : Prop := ∀ p, p < 7 → vp_in (h.1 (b + 8) p) 8
theorem nt_upok.at {h : LH} {b : Nat} (hu : nt_upok h b) {x : Int32} (hx : vp_in x 8) (h7 : ¬ x = 7) : vp_in (h.1 (b + 8) x.toNatClampNeg) 8 := by
  obtain ⟨j, hj, e⟩ := vi_nI (vi_7 hx h7)
  subst e
  rw [nI_clamp (by omega)]
  exact hu j hj
section NT2
variable {h : LH} {b d : Nat}
def nt_room (h : LH) (b : Nat) (e al : Int32) : Int32 := if al = 0 then h.1 (b + 6) e.toNatClampNeg else if 14 ≤ e then 1000000 else h.1 (b + 4) e.toNatClampNeg - h.1 (b + 6) e.toNatClampNeg
theorem sx_room (K : tf_K b = 0) {e : Int32} (he : vp_in e 21) (al : Int32) : tf_Rt (d + 1) 136 [.ref b, .int e, .int al] h (.int (nt_room h b e al)) h := by
  intro Q q
  refine en_X1_room (by decide) K (go_X1_room_0 (by decide) K ⟨fun c => ⟨he, ?_⟩, fun c => go_X1_room_11 (by decide) K ⟨fun c2 => go_X1_room_33 (by decide) K (go_X1_room_35 (by decide) K ?_), fun c2 => ⟨he, he, go_X1_room_35 (by decide) K ?_⟩⟩⟩)
  · simpa only [nt_room, c, if_true] using q
  · simpa only [nt_room, c, c2, if_true, if_false] using q
  · simpa only [nt_room, c, c2, if_true, if_false] using q
/-- whether s lies on the way up, so many steps looked at -/
def nt_onw (h : LH) (b : Nat) (s : Int32) : Nat → Int32 → Bool
  | 0, a => decide (a = s)
  | f + 1, a => if a = 7 then decide (a = s) else if a = s then true else nt_onw h b s f (h.1 (b + 8) a.toNatClampNeg)
theorem sx_onwL (K : tf_K b = 0) {n : Nat} (hn : h.1 b 0 = nI n) (hn7 : n ≤ 7) (hu : nt_upok h b) {s x1 : Int32} {Q : tf_Q} : ∀ (f i : Nat) (a : Int32), i + f = n → vp_in a 8 → Q (.int (bI (nt_onw h b s f a))) h → lx_X1_hasOnWay 298 (tf_Cd 298 d) Q 5 [.ref b, .int x1, .int s, .int a, .int (nI i)] [] h := by
  have k40 : ∀ (i : Nat) (a : Int32), Q (.int (bI (decide (a = s)))) h → lx_X1_hasOnWay 298 (tf_Cd 298 d) Q 40 [.ref b, .int x1, .int s, .int a, .int (nI i)] [] h := by
    intro i a q
    refine go_X1_hasOnWay_40 (by decide) K ⟨fun c => go_X1_hasOnWay_50 (by decide) K ⟨rfl, ?_⟩, fun c => go_X1_hasOnWay_49 (by decide) K (go_X1_hasOnWay_50 (by decide) K ⟨rfl, ?_⟩)⟩
    · simpa [c, bI] using q
    · simpa [c, bI] using q
  intro f
  induction f with
  | zero =>
    intro i a hi ha q
    refine go_X1_hasOnWay_5 (by decide) K ⟨fun _ => k40 i a q, fun c => absurd ?_ c⟩
    rw [hn]
    exact nI_le (by omega) (by omega)
  | succ f ih =>
    intro i a hi ha q
    refine go_X1_hasOnWay_5 (by decide) K ⟨fun c => ?_, fun _ => ⟨fun c => k40 i a ?_, fun c => ⟨fun c2 => ?_, fun c2 => go_X1_hasOnWay_27 (by decide) K ⟨vi_7 ha c, ?_⟩⟩⟩⟩
    · rw [hn] at c
      exact absurd c (nI_ge (by omega) (by omega))
    · simpa only [nt_onw, c, if_true] using q
    · have e : nt_onw h b s (f + 1) a = true := by rw [nt_onw, if_neg c, if_pos c2]
      rw [e] at q
      exact q
    · rw [nI_1]
      refine ih (i + 1) _ (by omega) (hu.at ha c) ?_
      simpa only [nt_onw, c, c2, if_false] using q
theorem sx_onw (K : tf_K b = 0) {n : Nat} (hn : h.1 b 0 = nI n) (hn7 : n ≤ 7) (hu : nt_upok h b) {a : Int32} (ha : vp_in a 8) (s : Int32) : tf_Rt (d + 1) 137 [.ref b, .int a, .int s] h (.int (bI (nt_onw h b s n a))) h :=
  fun _ q => en_X1_hasOnWay (by decide) K (go_X1_hasOnWay_0 (by decide) K (sx_onwL K hn hn7 hu n 0 a (by omega) ha q))
/-- how deep, so many steps looked at -/
def nt_dep (h : LH) (b : Nat) : Nat → Int32 → Nat
  | 0, _ => 0
  | f + 1, a => if a = 7 then 0 else nt_dep h b f (h.1 (b + 8) a.toNatClampNeg) + 1
theorem nt_dep_le (h : LH) (b : Nat) : ∀ (f : Nat) (a : Int32), nt_dep h b f a ≤ f
  | 0, _ => Nat.le_refl _
  | f + 1, a => by
    unfold nt_dep
    split
    · omega
    · have := nt_dep_le h b f (h.1 (b + 8) a.toNatClampNeg)
      omega
theorem sx_depL (K : tf_K b = 0) {n : Nat} (hn : h.1 b 0 = nI n) (hn7 : n ≤ 7) (hu : nt_upok h b) {x1 : Int32} {Q : tf_Q} : ∀ (f i : Nat) (a : Int32), i + f = n → vp_in a 8 → Q (.int (nI (i + nt_dep h b f a))) h → lx_X1_depth 298 (tf_Cd 298 d) Q 4 [.ref b, .int x1, .int (nI i), .int a] [] h
  | 0, i, a, hi, ha, q => by
    refine go_X1_depth_4 (by decide) K ⟨fun _ => go_X1_depth_31 (by decide) K q, fun c => absurd ?_ c⟩
    rw [hn]
    exact nI_le (by omega) (by omega)
  | f + 1, i, a, hi, ha, q => by
    refine go_X1_depth_4 (by decide) K ⟨fun c => ?_, fun _ => ⟨fun c => go_X1_depth_31 (by decide) K ?_, fun c => ⟨vi_7 ha c, ?_⟩⟩⟩
    · rw [hn] at c
      exact absurd c (nI_ge (by omega) (by omega))
    · simpa only [nt_dep, c, if_true, Nat.add_zero] using q
    · rw [nI_1]
      refine sx_depL K hn hn7 hu f (i + 1) _ (by omega) (hu.at ha c) ?_
      rw [nt_dep, if_neg c, ← Nat.add_assoc, Nat.add_right_comm] at q
      exact q
theorem sx_dep (K : tf_K b = 0) {n : Nat} (hn : h.1 b 0 = nI n) (hn7 : n ≤ 7) (hu : nt_upok h b) {a : Int32} (ha : vp_in a 8) : tf_Rt (d + 1) 138 [.ref b, .int a] h (.int (nI (nt_dep h b n a))) h :=
  fun _ q => en_X1_depth (by decide) K (go_X1_depth_0 (by decide) K (sx_depL K hn hn7 hu n 0 a (by omega) ha (by rw [Nat.zero_add]; exact q)))
def nt_cbl (h : LH) (b n : Nat) (p : Int32) : Nat → Nat → Int32 → Int32
  | 0, _, s => s
  | f + 1, o, s => nt_cbl h b n p f (o + 1) (if nt_onw h b p n (nI o) = true then s + 1 else s)
theorem sx_cblL (K : tf_K b = 0) {n : Nat} (hn : h.1 b 0 = nI n) (hn7 : n ≤ 7) (hu : nt_upok h b) {p : Int32} {Q : tf_Q} : ∀ (f o : Nat) (s : Int32), o + f = n → Q (.int (nt_cbl h b n p f o s)) h → lx_X1_countBelow 298 (tf_Cd 298 (d + 1)) Q 4 [.ref b, .int p, .int s, .int (nI o)] [] h
  | 0, o, s, ho, q => by
    refine go_X1_countBelow_4 (by decide) K ⟨fun _ => go_X1_countBelow_30 (by decide) K q, fun c => absurd ?_ c⟩
    rw [hn]
    exact nI_le (by omega) (by omega)
  | f + 1, o, s, ho, q => by
    refine go_X1_countBelow_4 (by decide) K ⟨fun c => ?_, fun _ => sx_onw K hn hn7 hu (vi_of (by omega) (by omega)) p _ (go_X1_countBelow_18 (by decide) K ⟨fun c => go_X1_countBelow_24 (by decide) K ?_, fun c => go_X1_countBelow_24 (by decide) K ?_⟩)⟩
    · rw [hn] at c
      exact absurd c (nI_ge (by omega) (by omega))
    · rw [bI_0] at c
      rw [nI_1]
      refine sx_cblL K hn hn7 hu f (o + 1) _ (by omega) ?_
      rw [nt_cbl, c] at q
      exact q
    · rw [bI_0, Bool.not_eq_false] at c
      rw [nI_1]
      refine sx_cblL K hn hn7 hu f (o + 1) _ (by omega) ?_
      rw [nt_cbl, c] at q
      exact q
theorem sx_cbl (K : tf_K b = 0) {n : Nat} (hn : h.1 b 0 = nI n) (hn7 : n ≤ 7) (hu : nt_upok h b) (p : Int32) : tf_Rt (d + 2) 139 [.ref b, .int p] h (.int (nt_cbl h b n p n 0 0)) h :=
  fun _ q => en_X1_countBelow (by decide) K (go_X1_countBelow_0 (by decide) K (sx_cblL K hn hn7 hu n 0 0 (by omega) q))
def nt_loan (h : LH) (b : Nat) (p : Int32) : Int32 := if h.1 (b + 2) (14 + p : Int32).toNatClampNeg = p then h.1 (b + 6) (14 + p : Int32).toNatClampNeg else -(h.1 (b + 6) (14 + p : Int32).toNatClampNeg)
theorem sx_loan (K : tf_K b = 0) {p : Int32} (hp : vp_in (14 + p) 21) : tf_Rt (d + 1) 140 [.ref b, .int p] h (.int (nt_loan h b p)) h := by
  intro Q q
  refine en_X1_loanFlow (by decide) K (go_X1_loanFlow_0 (by decide) K ⟨hp, fun c => ⟨hp, go_X1_loanFlow_31 (by decide) K ?_⟩, fun c => go_X1_loanFlow_24 (by decide) K ⟨hp, go_X1_loanFlow_31 (by decide) K ?_⟩⟩)
  · simpa only [nt_loan, c, if_true] using q
  · simpa only [nt_loan, c, if_false] using q
/-- the next point under x, from p on -/
def nt_ch (h : LH) (b : Nat) (x : Int32) : Nat → Nat → Int32
  | 0, _ => -1
  | f + 1, p => if h.1 (b + 8) p = x then nI p else nt_ch h b x f (p + 1)
theorem nt_ch_in (h : LH) (b : Nat) (x : Int32) : ∀ (f p : Nat), nt_ch h b x f p = -1 ∨ ∃ j, p ≤ j ∧ j < p + f ∧ nt_ch h b x f p = nI j
  | 0, _ => Or.inl rfl
  | f + 1, p => by
    unfold nt_ch
    split
    · exact Or.inr ⟨p, by omega, by omega, rfl⟩
    · rcases nt_ch_in h b x f (p + 1) with e | ⟨j, h1, h2, e⟩
      · exact Or.inl e
      · exact Or.inr ⟨j, by omega, by omega, e⟩
theorem sx_chL (K : tf_K b = 0) {n : Nat} (hn : h.1 b 0 = nI n) (hn7 : n ≤ 7) {x x2 : Int32} {Q : tf_Q} : ∀ (f p : Nat), (p + f = n ∨ (f = 0 ∧ n ≤ p)) → p ≤ 100 → Q (.int (nt_ch h b x f p)) h → lx_X1_childBehind 298 (tf_Cd 298 d) Q 4 [.ref b, .int x, .int x2, .int (nI p)] [] h
  | 0, p, hp, hp1, q => by
    refine go_X1_childBehind_4 (by decide) K ⟨fun _ => go_X1_childBehind_30 (by decide) K q, fun c => absurd ?_ c⟩
    rw [hn]
    exact nI_le (by omega) (by omega)
  | f + 1, p, hp, hp1, q => by
    have hcl : (nI p).toNatClampNeg = p := nI_clamp (by omega)
    refine go_X1_childBehind_4 (by decide) K ⟨fun c => ?_, fun _ => ⟨vi_of (by omega) (by omega), fun c => ?_, fun c => go_X1_childBehind_24 (by decide) K ?_⟩⟩
    · rw [hn] at c
      exact absurd c (nI_ge (by omega) (by omega))
    · rw [hcl] at c
      simpa only [nt_ch, c, if_true] using q
    · rw [hcl] at c
      rw [nI_1]
      refine sx_chL K hn hn7 f (p + 1) (by omega) (by omega) ?_
      simpa only [nt_ch, c, if_false] using q
theorem sx_ch (K : tf_K b = 0) {n : Nat} (hn : h.1 b 0 = nI n) (hn7 : n ≤ 7) (x : Int32) {y : Int32} {j : Nat} (hy : y + 1 = nI j) (hj : j ≤ 100) : tf_Rt (d + 1) 141 [.ref b, .int x, .int y] h (.int (nt_ch h b x (n - j) j)) h := by
  intro Q q
  refine en_X1_childBehind (by decide) K (go_X1_childBehind_0 (by decide) K ?_)
  rw [hy]
  exact sx_chL K hn hn7 (n - j) j (by omega) hj q
/-- behind a point in the thread: up till there is a next one -/
def nt_thr (h : LH) (b n : Nat) : Nat → Int32 → Int32 → Int32
  | 0, r, _ => r
  | f + 1, r, a => if r = -1 then (if a = -1 then r else if a = 7 then r else nt_thr h b n f (nt_ch h b (h.1 (b + 8) a.toNatClampNeg) (n - (a.toNatClampNeg + 1)) (a.toNatClampNeg + 1)) (h.1 (b + 8) a.toNatClampNeg)) else r
theorem sx_thrL (K : tf_K b = 0) {n : Nat} (hn : h.1 b 0 = nI n) (hn7 : n ≤ 7) (hu : nt_upok h b) {x1 : Int32} {Q : tf_Q} : ∀ (f i : Nat) (r a : Int32), i + f = n → (a = -1 ∨ vp_in a 8) → Q (.int (nt_thr h b n f r a)) h → lx_X1_threadBehind 298 (tf_Cd 298 (d + 1)) Q 12 [.ref b, .int x1, .int r, .int a, .int (nI i)] [] h
  | 0, i, r, a, hi, ha, q => by
    refine go_X1_threadBehind_12 (by decide) K ⟨fun _ => go_X1_threadBehind_62 (by decide) K q, fun c => absurd ?_ c⟩
    rw [hn]
    exact nI_le (by omega) (by omega)
  | f + 1, i, r, a, hi, ha, q => by
    refine go_X1_threadBehind_12 (by decide) K ⟨fun c => ?_, fun _ => ⟨fun c => ⟨fun c2 => go_X1_threadBehind_62 (by decide) K ?_, fun c2 => ⟨fun c3 => go_X1_threadBehind_62 (by decide) K ?_, fun c3 => ?_⟩⟩, fun c => go_X1_threadBehind_62 (by decide) K ?_⟩⟩
    · rw [hn] at c
      exact absurd c (nI_ge (by omega) (by omega))
    · rw [nt_thr, if_pos c, if_pos c2] at q
      exact q
    · rw [nt_thr, if_pos c, if_neg c2, if_pos c3] at q
      exact q
    · have ha8 : vp_in a 8 := ha.resolve_left c2
      obtain ⟨j, hj, e⟩ := vi_nI (vi_7 ha8 c3)
      have hcl : a.toNatClampNeg = j := by rw [e]; exact nI_clamp (by omega)
      refine ⟨vi_7 ha8 c3, sx_ch K hn hn7 _ (y := a) (j := j + 1) (by rw [e, nI_1]) (by omega) _ (go_X1_threadBehind_48 (by decide) K ⟨vi_7 ha8 c3, ?_⟩)⟩
      rw [nI_1]
      refine sx_thrL K hn hn7 hu f (i + 1) _ _ (by omega) (Or.inr (hu.at ha8 c3)) ?_
      rw [nt_thr, if_pos c, if_neg c2, if_neg c3, hcl] at q
      rw [hcl]
      exact q
    · rw [nt_thr, if_neg c] at q
      exact q
theorem sx_thr (K : tf_K b = 0) {n : Nat} (hn : h.1 b 0 = nI n) (hn7 : n ≤ 7) (hu : nt_upok h b) {a : Int32} (ha : a = -1 ∨ vp_in a 8) : tf_Rt (d + 2) 142 [.ref b, .int a] h (.int (nt_thr h b n n (nt_ch h b a n 0) a)) h :=
  fun _ q => en_X1_threadBehind (by decide) K (go_X1_threadBehind_0 (by decide) K (sx_ch K hn hn7 a (y := -1) (j := 0) (by decide) (by omega) _ (go_X1_threadBehind_6 (by decide) K (sx_thrL K hn hn7 hu n 0 _ a (by omega) ha q))))
def nt_unm (h : LH) (b : Nat) : Nat → Nat → Int32 → Int32
  | 0, _, s => s
  | f + 1, p, s => nt_unm h b f (p + 1) (s + h.1 (b + 6) (14 + p))
theorem nI_14 (p : Nat) : (14 : Int32) + nI p = nI (14 + p) := nI_add 14 p
theorem sx_unmL (K : tf_K b = 0) {n : Nat} (hn : h.1 b 0 = nI n) (hn7 : n ≤ 7) {Q : tf_Q} : ∀ (f p : Nat) (s : Int32), p + f = n → Q (.int (nt_unm h b f p s)) h → lx_X1_unmet 298 (tf_Cd 298 d) Q 4 [.ref b, .int s, .int (nI p)] [] h
  | 0, p, s, hp, q => by
    refine go_X1_unmet_4 (by decide) K ⟨fun _ => go_X1_unmet_30 (by decide) K q, fun c => absurd ?_ c⟩
    rw [hn]
    exact nI_le (by omega) (by omega)
  | f + 1, p, s, hp, q => by
    refine go_X1_unmet_4 (by decide) K ⟨fun c => ?_, fun _ => ⟨?_, ?_⟩⟩
    · rw [hn] at c
      exact absurd c (nI_ge (by omega) (by omega))
    · rw [nI_14]
      exact vi_of (by omega) (by omega)
    · rw [nI_14, nI_clamp (by omega), nI_1]
      exact sx_unmL K hn hn7 f (p + 1) _ (by omega) q
theorem sx_unm (K : tf_K b = 0) {n : Nat} (hn : h.1 b 0 = nI n) (hn7 : n ≤ 7) : tf_Rt (d + 1) 144 [.ref b] h (.int (nt_unm h b n 0 0)) h :=
  fun _ q => en_X1_unmet (by decide) K (go_X1_unmet_0 (by decide) K (sx_unmL K hn hn7 n 0 0 (by omega) q))
def nt_spn (h : LH) (b : Nat) : Nat → Nat → Int32 → Int32
  | 0, _, s => s
  | f + 1, a, s => nt_spn h b f (a + 1) (s + (h.1 (b + 6) a * h.1 (b + 5) a))
theorem sx_spnL (K : tf_K b = 0) {k : Nat} (hk : h.1 b 1 = nI k) (hk14 : k ≤ 14) {Q : tf_Q} : ∀ (f a : Nat) (s : Int32), a + f = k → Q (.int (nt_spn h b f a s)) h → lx_X1_spent 298 (tf_Cd 298 d) Q 4 [.ref b, .int s, .int (nI a)] [] h
  | 0, p, s, hp, q => by
    refine go_X1_spent_4 (by decide) K ⟨fun _ => go_X1_spent_34 (by decide) K q, fun c => absurd ?_ c⟩
    rw [hk]
    exact nI_le (by omega) (by omega)
  | f + 1, p, s, hp, q => by
    have hi : vp_in (nI p) 21 := vi_of (by omega) (by omega)
    refine go_X1_spent_4 (by decide) K ⟨fun c => ?_, fun _ => ⟨hi, hi, ?_⟩⟩
    · rw [hk] at c
      exact absurd c (nI_ge (by omega) (by omega))
    · rw [nI_clamp (by omega), nI_1]
      exact sx_spnL K hk hk14 f (p + 1) _ (by omega) q
theorem sx_spn (K : tf_K b = 0) {k : Nat} (hk : h.1 b 1 = nI k) (hk14 : k ≤ 14) : tf_Rt (d + 1) 145 [.ref b] h (.int (nt_spn h b k 0 0)) h :=
  fun _ q => en_X1_spent (by decide) K (go_X1_spent_0 (by decide) K (sx_spnL K hk hk14 k 0 0 (by omega) q))
/-- the least cost above x of those that flow -/
def nt_fca (h : LH) (b : Nat) (x : Int32) : Nat → Nat → Int32 → Int32
  | 0, _, s => s
  | f + 1, a, s => nt_fca h b x f (a + 1) (if h.1 (b + 6) a ≤ 0 then s else if h.1 (b + 5) a ≤ x then s else if s ≤ h.1 (b + 5) a then s else h.1 (b + 5) a)
theorem sx_fcaL (K : tf_K b = 0) {k : Nat} (hk : h.1 b 1 = nI k) (hk14 : k ≤ 14) {x : Int32} {Q : tf_Q} : ∀ (f a : Nat) (s : Int32), a + f = k → Q (.int (nt_fca h b x f a s)) h → lx_X1_flowingCostAbove 298 (tf_Cd 298 d) Q 5 [.ref b, .int x, .int s, .int (nI a)] [] h
  | 0, p, s, hp, q => by
    refine go_X1_flowingCostAbove_5 (by decide) K ⟨fun _ => go_X1_flowingCostAbove_55 (by decide) K q, fun c => absurd ?_ c⟩
    rw [hk]
    exact nI_le (by omega) (by omega)
  | f + 1, p, s, hp, q => by
    have hi : vp_in (nI p) 21 := vi_of (by omega) (by omega)
    have hcl : (nI p).toNatClampNeg = p := nI_clamp (by omega)
    have k49 : ∀ s2 : Int32, Q (.int (nt_fca h b x f (p + 1) s2)) h → lx_X1_flowingCostAbove 298 (tf_Cd 298 d) Q 49 [.ref b, .int x, .int s2, .int (nI p)] [] h := fun s2 q2 => go_X1_flowingCostAbove_49 (by decide) K (by rw [nI_1]; exact sx_fcaL K hk hk14 f (p + 1) s2 (by omega) q2)
    refine go_X1_flowingCostAbove_5 (by decide) K ⟨fun c => ?_, fun _ => ⟨hi, fun c => k49 _ ?_, fun c => ⟨hi, fun c2 => k49 _ ?_, fun c2 => ⟨hi, fun c3 => k49 _ ?_, fun c3 => ⟨hi, k49 _ ?_⟩⟩⟩⟩⟩
    · rw [hk] at c
      exact absurd c (nI_ge (by omega) (by omega))
    · rw [hcl] at c
      simpa only [nt_fca, c, if_true] using q
    · rw [hcl] at c c2
      simpa only [nt_fca, c, c2, if_true, if_false] using q
    · rw [hcl] at c c2 c3
      simpa only [nt_fca, c, c2, c3, if_true, if_false] using q
    · rw [hcl] at c c2 c3 ⊢
      simpa only [nt_fca, c, c2, c3, if_false] using q
theorem sx_fca (K : tf_K b = 0) {k : Nat} (hk : h.1 b 1 = nI k) (hk14 : k ≤ 14) (x : Int32) : tf_Rt (d + 1) 146 [.ref b, .int x] h (.int (nt_fca h b x k 0 100)) h :=
  fun _ q => en_X1_flowingCostAbove (by decide) K (go_X1_flowingCostAbove_0 (by decide) K (sx_fcaL K hk hk14 k 0 100 (by omega) q))
def nt_fat (h : LH) (b : Nat) (x : Int32) : Nat → Nat → Int32 → Int32
  | 0, _, s => s
  | f + 1, a, s => nt_fat h b x f (a + 1) (if h.1 (b + 5) a = x then s + h.1 (b + 6) a else s)
theorem sx_fatL (K : tf_K b = 0) {k : Nat} (hk : h.1 b 1 = nI k) (hk14 : k ≤ 14) {x : Int32} {Q : tf_Q} : ∀ (f a : Nat) (s : Int32), a + f = k → Q (.int (nt_fat h b x f a s)) h → lx_X1_flowAtCost 298 (tf_Cd 298 d) Q 4 [.ref b, .int x, .int s, .int (nI a)] [] h
  | 0, p, s, hp, q => by
    refine go_X1_flowAtCost_4 (by decide) K ⟨fun _ => go_X1_flowAtCost_37 (by decide) K q, fun c => absurd ?_ c⟩
    rw [hk]
    exact nI_le (by omega) (by omega)
  | f + 1, p, s, hp, q => by
    have hi : vp_in (nI p) 21 := vi_of (by omega) (by omega)
    have hcl : (nI p).toNatClampNeg = p := nI_clamp (by omega)
    refine go_X1_flowAtCost_4 (by decide) K ⟨fun c => ?_, fun _ => ⟨hi, fun c => ⟨hi, go_X1_flowAtCost_31 (by decide) K ?_⟩, fun c => go_X1_flowAtCost_31 (by decide) K ?_⟩⟩
    · rw [hk] at c
      exact absurd c (nI_ge (by omega) (by omega))
    · rw [hcl] at c ⊢
      rw [nI_1]
      refine sx_fatL K hk hk14 f (p + 1) _ (by omega) ?_
      simpa only [nt_fat, c, if_true] using q
    · rw [hcl] at c
      rw [nI_1]
      refine sx_fatL K hk hk14 f (p + 1) _ (by omega) ?_
      simpa only [nt_fat, c, if_false] using q
theorem sx_fat (K : tf_K b = 0) {k : Nat} (hk : h.1 b 1 = nI k) (hk14 : k ≤ 14) (x : Int32) : tf_Rt (d + 1) 147 [.ref b, .int x] h (.int (nt_fat h b x k 0 0)) h :=
  fun _ q => en_X1_flowAtCost (by decide) K (go_X1_flowAtCost_0 (by decide) K (sx_fatL K hk hk14 k 0 0 (by omega) q))
/-- an arc's flow, 0 if there is no such arc -/
def nt_fl (h : LH) (b a : Nat) : Int32 := if h.1 b 1 ≤ nI a then 0 else h.1 (b + 6) a
def nt_apt (h : LH) (b c : Nat) : Nat → Nat → Int32 → Int32
  | 0, _, s => s
  | f + 1, a, s => nt_apt h b c f (a + 1) (if nt_fl h b a = nt_fl h c a then s else s + 1)
theorem sx_aptL (K : tf_K b = 0) {c : Nat} (Kc : tf_K c = 0) {Q : tf_Q} : ∀ (f a : Nat) (s : Int32) (x4 x5 : Value), a + f = 14 → Q (.int (nt_apt h b c f a s)) h → lx_X1_countApart 298 (tf_Cd 298 d) Q 4 [.ref b, .ref c, .int s, .int (nI a), x4, x5] [] h
  | 0, p, s, x4, x5, hp, q => go_X1_countApart_4 (by decide) K Kc ⟨fun _ => go_X1_countApart_66 (by decide) K Kc q, fun z => absurd (nI_le (a := 14) (b := p) (by omega) (by omega)) z⟩
  | f + 1, p, s, x4, x5, hp, q => by
    have hi : vp_in (nI p) 21 := vi_of (by omega) (by omega)
    have hcl : (nI p).toNatClampNeg = p := nI_clamp (by omega)
    have k48 : ∀ (x5 : Value), lx_X1_countApart 298 (tf_Cd 298 d) Q 48 [.ref b, .ref c, .int s, .int (nI p), .int (nt_fl h b p), x5] [.int (nt_fl h c p)] h := by
      intro x5
      refine go_X1_countApart_48 (by decide) K Kc ⟨fun z => go_X1_countApart_60 (by decide) K Kc ?_, fun z => go_X1_countApart_60 (by decide) K Kc ?_⟩
      · rw [nI_1]
        refine sx_aptL K Kc f (p + 1) _ _ _ (by omega) ?_
        simpa only [nt_apt, z, if_true] using q
      · rw [nI_1]
        refine sx_aptL K Kc f (p + 1) _ _ _ (by omega) ?_
        simpa only [nt_apt, z, if_false] using q
    have k28 : ∀ (x4 x5 : Value), lx_X1_countApart 298 (tf_Cd 298 d) Q 28 [.ref b, .ref c, .int s, .int (nI p), x4, x5] [.int (nt_fl h b p)] h := by
      intro x4 x5
      have h48 := k48 x5
      refine go_X1_countApart_28 (by decide) K Kc ⟨fun z => go_X1_countApart_47 (by decide) K Kc ?_, fun z => ⟨hi, ?_⟩⟩
      · have e : nt_fl h c p = 0 := if_pos z
        rw [e] at h48
        exact h48
      · have e : nt_fl h c p = h.1 (c + 6) p := if_neg z
        rw [e] at h48
        rw [hcl]
        exact h48
    refine go_X1_countApart_4 (by decide) K Kc ⟨fun z => absurd z (nI_ge (a := p) (b := 14) (by omega) (by omega)), fun _ => ⟨fun z => go_X1_countApart_27 (by decide) K Kc ?_, fun z => ⟨hi, ?_⟩⟩⟩
    · have e : nt_fl h b p = 0 := if_pos z
      have := k28 x4 x5
      rw [e] at this
      exact this
    · have e : nt_fl h b p = h.1 (b + 6) p := if_neg z
      have := k28 x4 x5
      rw [e] at this
      rw [hcl]
      exact this
theorem sx_apt (K : tf_K b = 0) {c : Nat} (Kc : tf_K c = 0) : tf_Rt (d + 1) 148 [.ref b, .ref c] h (.int (nt_apt h b c 14 0 0)) h :=
  fun _ q => en_X1_countApart (by decide) K Kc (go_X1_countApart_0 (by decide) K Kc (sx_aptL K Kc 14 0 0 _ _ (by omega) q))
end NT2
