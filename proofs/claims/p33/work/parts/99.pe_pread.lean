/-! ===== a whole text, read by the class: told exactly ===== -/
abbrev px_L := Nat × Nat × List (Int32 × Nat)
def px_nx (c : Nat → Int32) (l p : Nat) : Nat := px_p c l (px_e c l p)
def px_num (c : Nat → Int32) (l p : Nat) : Int32 := px_nm c (px_e c l p - p) p 0
def px_ns (c : Nat → Int32) (l : Nat) : Nat → Nat → List (Int32 × Nat) × Nat × Bool
  | 0, p => ([], p, true)
  | k + 1, p => if px_t c l p = 2 then ((px_num c l p, p) :: (px_ns c l k (px_nx c l p)).1, (px_ns c l k (px_nx c l p)).2) else ([], p, false)
/-- a line, and the place of the token behind it; none: the place where it fails -/
def px_ln (c : Nat → Int32) (l : Nat) (o : Int32) (p : Nat) : Option px_L × Nat :=
  if px_t c l p = 1 then (match px_vb c o p (px_e c l p) 15 0 with
    | none => (none, p)
    | some v => if (px_ns c l (px_ar o v).toNatClampNeg (px_nx c l p)).2.2 = true ∧ px_t c l (px_ns c l (px_ar o v).toNatClampNeg (px_nx c l p)).2.1 = 3 then (some (v, p, (px_ns c l (px_ar o v).toNatClampNeg (px_nx c l p)).1), px_nx c l (px_ns c l (px_ar o v).toNatClampNeg (px_nx c l p)).2.1) else (none, (px_ns c l (px_ar o v).toNatClampNeg (px_nx c l p)).2.1))
  else (none, p)
def px_all (c : Nat → Int32) (l : Nat) (o : Int32) : Nat → Nat → List px_L × Option Nat
  | 0, p => if px_t c l p = 0 then ([], none) else ([], some p)
  | f + 1, p => if px_t c l p = 0 then ([], none) else (match (px_ln c l o p).1 with
    | none => ([], some (px_ln c l o p).2)
    | some L => (L :: (px_all c l o f (px_ln c l o p).2).1, (px_all c l o f (px_ln c l o p).2).2))
theorem px_ar4 : ∀ v, v < 15 → (tv_g.getD v 0 ≠ -1 → (tv_g.getD v 0).toNatClampNeg ≤ 4 ∧ tv_g.getD v 0 = nI (tv_g.getD v 0).toNatClampNeg) ∧ (tv_o.getD v 0 ≠ -1 → (tv_o.getD v 0).toNatClampNeg ≤ 4 ∧ tv_o.getD v 0 = nI (tv_o.getD v 0).toNatClampNeg) := by decide +kernel
theorem px_ar_le {o : Int32} {v : Nat} (hv : v < 15) (h : px_ar o v ≠ -1) : (px_ar o v).toNatClampNeg ≤ 4 ∧ px_ar o v = nI (px_ar o v).toNatClampNeg := by
  obtain ⟨a, b⟩ := px_ar4 v hv
  unfold px_ar at h ⊢
  split
  · rename_i z
    rw [if_pos z] at h
    exact a h
  · rename_i z
    rw [if_neg z] at h
    exact b h
section SX3
variable {h g : LH} {d : Nat} {c : Nat → Int32}
/-- the token at place p stands at hand -/
def PA (g : LH) (c : Nat → Int32) (l p : Nat) : Prop := p ≤ l ∧ PTk g (px_t c l p) p (px_e c l p)
theorem pa_ft {l p : Nat} (hl : l ≤ 400) (e1 : h.1 251 1 = nI l) (ec : h.1 252 = c) (P : PA h c l p) : tf_Sp (d + 2) 225 [.ref 259, .ref 251] h (fun _ g => FK h g ∧ PA g c l (px_nx c l p)) := by
  have e := (px_e_le (c := c) P.1).2
  refine (sx_ft (d := d) hl e1 e P.2.2.2).mp (fun v g q => ?_)
  rw [ec] at q
  exact ⟨q.2.1, (px_p_le e).2, q.2.2⟩
/-- line n is being read -/
def RLx (h g : LH) (n v p0 : Nat) (ds : List (Int32 × Nat)) : Prop := (FS h g ∧ g.1 259 0 = nI n ∧ g.1 259 1 = h.1 259 1 ∧ g.1 259 2 = h.1 259 2) ∧ ((∀ i, i < n → g.1 260 i = h.1 260 i ∧ g.1 261 i = h.1 261 i) ∧ (∀ ix, ix < n * 4 → g.1 262 ix = h.1 262 ix ∧ g.1 263 ix = h.1 263 ix)) ∧ g.1 260 n = nI v ∧ g.1 261 n = nI p0 ∧ ∀ m N, ds[m]? = some N → g.1 262 (n * 4 + m) = N.1 ∧ g.1 263 (n * 4 + m) = nI N.2
theorem RLx.fk {g2 : LH} {n v p0 : Nat} {ds : List (Int32 × Nat)} (R : RLx h g n v p0 ds) (F : FK g g2) : RLx h g2 n v p0 ds := by
  obtain ⟨⟨a1, a2, a3, a4⟩, ⟨b1, b2⟩, c1, c2, c3⟩ := R
  have e0 := F.1 260 (by decide)
  have e1 := F.1 261 (by decide)
  have e2 := F.1 262 (by decide)
  have e3 := F.1 263 (by decide)
  refine ⟨⟨a1.tr F.fs, (F.2.2 0 (by decide)).trans a2, (F.2.2 1 (by decide)).trans a3, (F.2.2 2 (by decide)).trans a4⟩, ⟨fun i hi => by rw [e0, e1]; exact b1 i hi, fun i hi => by rw [e2, e3]; exact b2 i hi⟩, by rw [e0]; exact c1, by rw [e1]; exact c2, fun m N hm => by rw [e2, e3]; exact c3 m N hm⟩
theorem RLx.add {n v p0 p : Nat} {ds : List (Int32 × Nat)} {x : Int32} (R : RLx h g n v p0 ds) : RLx h (w1 (w1 g 262 (n * 4 + ds.length) x) 263 (n * 4 + ds.length) (nI p)) n v p0 (ds ++ [(x, p)]) := by
  obtain ⟨⟨a1, a2, a3, a4⟩, ⟨b1, b2⟩, c1, c2, c3⟩ := R
  have L : ∀ e, e ≠ 262 → e ≠ 263 → (w1 (w1 g 262 (n * 4 + ds.length) x) 263 (n * 4 + ds.length) (nI p)).1 e = g.1 e := fun e h1 h2 => by rw [w1_ne h2, w1_ne h1]
  have l2 : ∀ ix, ix ≠ n * 4 + ds.length → (w1 (w1 g 262 (n * 4 + ds.length) x) 263 (n * 4 + ds.length) (nI p)).1 262 ix = g.1 262 ix ∧ (w1 (w1 g 262 (n * 4 + ds.length) x) 263 (n * 4 + ds.length) (nI p)).1 263 ix = g.1 263 ix := fun ix hx => ⟨by rw [w1_ne (by decide), w1_at hx], by rw [w1_at hx, w1_ne (by decide)]⟩
  refine ⟨⟨(a1.tr (FS.w (by decide))).tr (FS.w (by decide)), by rw [L 259 (by decide) (by decide)]; exact a2, by rw [L 259 (by decide) (by decide)]; exact a3, by rw [L 259 (by decide) (by decide)]; exact a4⟩, ⟨fun i hi => by rw [L 260 (by decide) (by decide), L 261 (by decide) (by decide)]; exact b1 i hi, fun ix hx => ?_⟩, by rw [L 260 (by decide) (by decide)]; exact c1, by rw [L 261 (by decide) (by decide)]; exact c2, fun m N hm => ?_⟩
  · obtain ⟨q1, q2⟩ := l2 ix (by omega)
    rw [q1, q2]
    exact b2 ix hx
  · by_cases hlt : m < ds.length
    · rw [List.getElem?_append_left hlt] at hm
      obtain ⟨q1, q2⟩ := l2 (n * 4 + m) (by omega)
      rw [q1, q2]
      exact c3 m N hm
    · rw [List.getElem?_append_right (by omega)] at hm
      have hm0 : m - ds.length = 0 := by
        rcases Nat.eq_zero_or_pos (m - ds.length) with z | z
        · exact z
        · obtain ⟨y, hy⟩ : ∃ y, m - ds.length = y + 1 := ⟨m - ds.length - 1, by omega⟩
          rw [hy] at hm
          simp at hm
      rw [hm0] at hm
      cases hm
      have em : m = ds.length := by omega
      rw [em]
      exact ⟨by rw [w1_ne (by decide), w1_eq], w1_eq⟩
theorem PA.same {l p : Nat} (P : PA h c l p) (e : ∀ j, 8 ≤ j → g.1 259 j = h.1 259 j) : PA g c l p := ⟨P.1, (e 8 (by decide)).trans P.2.1, (e 9 (by decide)).trans P.2.2.1, (e 10 (by decide)).trans P.2.2.2⟩
theorem pr_L {l n v p0 k0 : Nat} {x2 : Int32} (hl : l ≤ 400) (hn : n < 80) (hv : v < 15) (e1 : h.1 251 1 = nI l) (ec : h.1 252 = c) (har : px_ar x2 v = nI k0) (hk0 : k0 ≤ 4) {Q : tf_Q} : ∀ (k j p : Nat) (ds : List (Int32 × Nat)) (g : LH) (x5 : Value), j + k = k0 → ds.length = j → RLx h g n v p0 ds → PA g c l p → (∀ g2 x5, RLx h g2 n v p0 (ds ++ (px_ns c l k p).1) → PA g2 c l (px_ns c l k p).2.1 → (px_ns c l k p).2.2 = true → lx_X4_readLine (d + 5) (tf_Cd 298 (d + 5)) Q 130 [.ref 259, .ref 251, .int x2, .ref (400 + v), .int (nI k0), x5] [] g2) → (∀ g2, RLx h g2 n v p0 (ds ++ (px_ns c l k p).1) → PA g2 c l (px_ns c l k p).2.1 → (px_ns c l k p).2.2 = false → Q (.int 0) g2) → lx_X4_readLine (d + 5) (tf_Cd 298 (d + 5)) Q 65 [.ref 259, .ref 251, .int x2, .ref (400 + v), .int (nI j), x5] [] g := by
  have har2 : (if x2 = (0 : Int32) then tv_g.getD v 0 else tv_o.getD v 0) = nI k0 := har
  intro k
  induction k with
  | zero =>
    intro j p ds g x5 hj hd R P q1 q0
    refine go_X4_readLine_65 k251 ⟨hv, ?_⟩
    rw [har2]
    have ej : j = k0 := by omega
    subst ej
    have R2 : RLx h g n v p0 (ds ++ (px_ns c l 0 p).1) := by
      show RLx h g n v p0 (ds ++ [])
      rw [List.append_nil]
      exact R
    exact go_X4_readLine_72 k251 ⟨fun _ => q1 g x5 R2 P rfl, fun z => absurd (nI_le (Nat.le_refl _) (by omega)) z⟩
  | succ k ih =>
    intro j p ds g x5 hj hd R P q1 q0
    refine go_X4_readLine_65 k251 ⟨hv, ?_⟩
    rw [har2]
    refine go_X4_readLine_72 k251 ⟨fun z => absurd z (nI_ge (by omega) (by omega)), fun _ => ⟨fun c2 => ?_, fun c2 => ?_⟩⟩
    · have t2 : px_t c l p = 2 := P.2.1.symm.trans c2
      have en : px_ns c l (k + 1) p = ((px_num c l p, p) :: (px_ns c l k (px_nx c l p)).1, (px_ns c l k (px_nx c l p)).2) := by
        rw [px_ns, if_pos t2]
      rw [en] at q1 q0
      have eg1 : g.1 251 1 = nI l := by rw [R.1.1.1 251 (by decide)]; exact e1
      have egc : g.1 252 = c := (R.1.1.1 252 (by decide)).trans ec
      have pe := px_e_le (c := c) P.1
      refine go_X4_readLine_85 k251 (sx_nh (d := d + 4) pe.1 (by omega) P.2.2.1 P.2.2.2 _ ?_)
      have ix : (g.1 259 0) * 4 + nI j = nI (n * 4 + j) := by
        rw [R.1.2.1, show (4 : Int32) = nI 4 from rfl, nI_mul, nI_add]
      rw [ix]
      have vx : vp_in (nI (n * 4 + j)) 320 := vi_of (by omega) (by omega)
      refine go_X4_readLine_107 k251 (show tf_K 262 = 8 by decide) (show tf_N 262 = 320 by decide) (by decide) ⟨vx, vx, ?_⟩
      have ex : px_nm (g.1 252) (px_e c l p - p) p 0 = px_num c l p := by rw [egc]; rfl
      rw [ex, nI_clamp (by omega)]
      have R2 := R.add (p := p) (x := px_num c l p)
      rw [hd] at R2
      have e9 : (w1 g 262 (n * 4 + j) (px_num c l p)).1 259 9 = nI p := by rw [w1_ne (by decide)]; exact P.2.2.1
      show tf_Cd 298 _ _ _ (w1 (w1 g 262 (n * 4 + j) (px_num c l p)) 263 (n * 4 + j) ((w1 g 262 (n * 4 + j) (px_num c l p)).1 259 9)) _
      rw [e9]
      have P2 : PA (w1 (w1 g 262 (n * 4 + j) (px_num c l p)) 263 (n * 4 + j) (nI p)) c l p := P.same (fun i _ => by rw [w1_ne (by decide), w1_ne (by decide)])
      have f1 : (w1 (w1 g 262 (n * 4 + j) (px_num c l p)) 263 (n * 4 + j) (nI p)).1 251 1 = nI l := by rw [w1_ne (by decide), w1_ne (by decide)]; exact eg1
      have f2 : (w1 (w1 g 262 (n * 4 + j) (px_num c l p)) 263 (n * 4 + j) (nI p)).1 252 = c := by rw [w1_ne (by decide), w1_ne (by decide)]; exact egc
      generalize w1 (w1 g 262 (n * 4 + j) (px_num c l p)) 263 (n * 4 + j) (nI p) = g1 at R2 P2 f1 f2 ⊢
      refine pa_ft (d := d + 3) hl f1 f2 P2 _ (fun _ g2 q => go_X4_readLine_124 k251 ?_)
      rw [nI_1]
      refine ih (j + 1) (px_nx c l p) (ds ++ [(px_num c l p, p)]) g2 _ (by omega) (by rw [List.length_append, hd]; rfl) (R2.fk q.1) q.2 (fun g3 y R3 P3 o3 => q1 g3 y ?_ P3 o3) (fun g3 R3 P3 o3 => q0 g3 ?_ P3 o3)
      · rw [List.append_assoc] at R3
        exact R3
      · rw [List.append_assoc] at R3
        exact R3
    · have t2 : ¬ px_t c l p = 2 := fun z => c2 (P.2.1.trans z)
      have en : px_ns c l (k + 1) p = ([], p, false) := by
        rw [px_ns, if_neg t2]
      rw [en] at q0
      exact q0 g (by rw [List.append_nil]; exact R) P rfl
/-- line n holds what was read -/
def LnA (g : LH) (n : Nat) (L : px_L) : Prop := g.1 260 n = nI L.1 ∧ g.1 261 n = nI L.2.1 ∧ ∀ m N, L.2.2[m]? = some N → g.1 262 (n * 4 + m) = N.1 ∧ g.1 263 (n * 4 + m) = nI N.2
/-- the lines before n stand as they were -/
def KLn (h g : LH) (n : Nat) : Prop := (∀ i, i < n → g.1 260 i = h.1 260 i ∧ g.1 261 i = h.1 261 i) ∧ ∀ ix, ix < n * 4 → g.1 262 ix = h.1 262 ix ∧ g.1 263 ix = h.1 263 ix
theorem sx_rl {l n p : Nat} (hl : l ≤ 400) (hn : n < 80) (e1 : h.1 251 1 = nI l) (ec : h.1 252 = c) (e0 : h.1 259 0 = nI n) (P : PA h c l p) (x2 : Int32) : tf_Sp (d + 6) 223 [.ref 259, .ref 251, .int x2] h (fun v g => FS h g ∧ g.1 259 1 = h.1 259 1 ∧ g.1 259 2 = h.1 259 2 ∧ KLn h g n ∧ PA g c l (px_ln c l x2 p).2 ∧ ((px_ln c l x2 p).1 = none → v = .int 0 ∧ g.1 259 0 = nI n) ∧ ∀ L, (px_ln c l x2 p).1 = some L → v = .int 1 ∧ g.1 259 0 = nI (n + 1) ∧ LnA g n L ∧ L.1 < 15) := by
  intro Q q
  have K0 : KLn h h n := ⟨fun _ _ => ⟨rfl, rfl⟩, fun _ _ => ⟨rfl, rfl⟩⟩
  have q0 : px_ln c l x2 p = (none, p) → Q (.int 0) h := fun z => q _ _ ⟨FS.rf, rfl, rfl, K0, by rw [z]; exact P, fun _ => ⟨rfl, e0⟩, fun L hL => by rw [z] at hL; cases hL⟩
  have pe := px_e_le (c := c) P.1
  refine en_X4_readLine k251 (go_X4_readLine_0 k251 ⟨fun c1 => sx_vh (d := d) pe.1 (by omega) P.2.2.1 P.2.2.2 x2 _ ?_, fun c1 => go_X4_readLine_17 k251 (go_X4_readLine_18N (go_X4_readLine_32N (q0 ?_)))⟩)
  · have t1 : px_t c l p = 1 := P.2.1.symm.trans c1
    rw [ec]
    cases hvb : px_vb c x2 p (px_e c l p) 15 0 with
    | none =>
      refine go_X4_readLine_14N (go_X4_readLine_18N (go_X4_readLine_32N (q0 ?_)))
      rw [px_ln, if_pos t1, hvb]
    | some v =>
      obtain ⟨hv, ha, -⟩ := px_vb_lt 15 0 (by omega) hvb
      obtain ⟨k4, hk⟩ := px_ar_le hv ha
      have eln : px_ln c l x2 p = if (px_ns c l (px_ar x2 v).toNatClampNeg (px_nx c l p)).2.2 = true ∧ px_t c l (px_ns c l (px_ar x2 v).toNatClampNeg (px_nx c l p)).2.1 = 3 then (some (v, p, (px_ns c l (px_ar x2 v).toNatClampNeg (px_nx c l p)).1), px_nx c l (px_ns c l (px_ar x2 v).toNatClampNeg (px_nx c l p)).2.1) else (none, (px_ns c l (px_ar x2 v).toNatClampNeg (px_nx c l p)).2.1) := by
        rw [px_ln, if_pos t1, hvb]
      generalize (px_ar x2 v).toNatClampNeg = k0 at k4 hk eln
      show lx_X4_readLine _ _ _ 14 _ [.ref (400 + v)] _
      refine go_X4_readLine_14 k251 (go_X4_readLine_18R ⟨fun _ => ?_, fun z => absurd (by rw [e0]; exact nI_lt (b := 80) hn (by omega)) z⟩)
      have vc : vp_in (h.1 259 0) 80 := by rw [e0]; exact vi_of hn (by omega)
      have cc9 : (h.1 259 0).toNatClampNeg = n := by rw [e0]; exact nI_clamp (by omega)
      have a0 : (w1 h 260 (h.1 259 0).toNatClampNeg (nI v)).1 259 = h.1 259 := w1_ne (by decide)
      refine go_X4_readLine_34 k251 ⟨⟨vc, hv⟩, (show vp_in ((w1 h 260 (h.1 259 0).toNatClampNeg (nI v)).1 259 0) 80 by rw [a0]; exact vc), ?_⟩
      show tf_Cd 298 _ _ _ (w1 (w1 h 260 (h.1 259 0).toNatClampNeg (nI v)) 261 ((w1 h 260 (h.1 259 0).toNatClampNeg (nI v)).1 259 0).toNatClampNeg ((w1 h 260 (h.1 259 0).toNatClampNeg (nI v)).1 259 9)) _
      rw [a0, cc9, P.2.2.1]
      have R : RLx h (w1 (w1 h 260 n (nI v)) 261 n (nI p)) n v p [] := by
        refine ⟨⟨(FS.w (by decide)).tr (FS.w (by decide)), by rw [w1_ne (by decide), w1_ne (by decide)]; exact e0, by rw [w1_ne (by decide), w1_ne (by decide)], by rw [w1_ne (by decide), w1_ne (by decide)]⟩, ⟨fun i hi => ⟨by rw [w1_ne (by decide), w1_at (by omega)], by rw [w1_at (by omega), w1_ne (by decide)]⟩, fun ix _ => ⟨by rw [w1_ne (by decide), w1_ne (by decide)], by rw [w1_ne (by decide), w1_ne (by decide)]⟩⟩, by rw [w1_ne (by decide), w1_eq], w1_eq, fun m N hm => by cases hm⟩
      have P1 : PA (w1 (w1 h 260 n (nI v)) 261 n (nI p)) c l p := P.same (fun i _ => by rw [w1_ne (by decide), w1_ne (by decide)])
      have f1 : (w1 (w1 h 260 n (nI v)) 261 n (nI p)).1 251 1 = nI l := by rw [w1_ne (by decide), w1_ne (by decide)]; exact e1
      have f2 : (w1 (w1 h 260 n (nI v)) 261 n (nI p)).1 252 = c := by rw [w1_ne (by decide), w1_ne (by decide)]; exact ec
      generalize w1 (w1 h 260 n (nI v)) 261 n (nI p) = g1 at R P1 f1 f2 ⊢
      refine pa_ft (d := d + 3) hl f1 f2 P1 _ (fun _ g2 p2 => go_X4_readLine_62 k251 ?_)
      refine pr_L (k0 := k0) hl hn hv e1 ec hk k4 k0 0 (px_nx c l p) [] g2 _ (by omega) rfl (R.fk p2.1) p2.2 (fun g3 x5 R3 P3 o3 => ?_) (fun g3 R3 P3 o3 => ?_)
      · rw [List.nil_append] at R3
        refine go_X4_readLine_130 k251 ⟨fun c3 => go_X4_readLine_140 k251 ?_, fun c3 => ?_⟩
        · have t3 : px_t c l (px_ns c l k0 (px_nx c l p)).2.1 = 3 := P3.2.1.symm.trans c3
          rw [if_pos ⟨o3, t3⟩] at eln
          refine pa_ft (d := d + 3) hl (by rw [R3.1.1.1 251 (by decide)]; exact e1) ((R3.1.1.1 252 (by decide)).trans ec) P3 _ (fun _ g4 p4 => go_X4_readLine_145 k251 ?_)
          have R4 := R3.fk p4.1
          rw [R4.1.2.1, nI_1]
          show Q (.int 1) (w1 g4 259 0 (nI (n + 1)))
          have P5 : PA (w1 g4 259 0 (nI (n + 1))) c l (px_nx c l (px_ns c l k0 (px_nx c l p)).2.1) := p4.2.same (fun i hi => w1_at (by omega))
          obtain ⟨⟨z1, z2, z3, z4⟩, ⟨z5, z6⟩, z7, z8, z9⟩ := R4
          refine q _ _ ⟨z1.tr (FS.w (by decide)), by rw [w1_at (by decide)]; exact z3, by rw [w1_at (by decide)]; exact z4, ⟨fun i hi => by rw [w1_ne (by decide), w1_ne (by decide)]; exact z5 i hi, fun i hi => by rw [w1_ne (by decide), w1_ne (by decide)]; exact z6 i hi⟩, by rw [eln]; exact P5, fun z => (by rw [eln] at z; cases z), fun L hL => ?_⟩
          rw [eln] at hL
          cases hL
          exact ⟨rfl, w1_eq, ⟨by rw [w1_ne (by decide)]; exact z7, by rw [w1_ne (by decide)]; exact z8, fun m N hm => by rw [w1_ne (by decide), w1_ne (by decide)]; exact z9 m N hm⟩, hv⟩
        · rw [if_neg (fun z => c3 (P3.2.1.trans z.2))] at eln
          exact q _ _ ⟨R3.1.1, R3.1.2.2.1, R3.1.2.2.2, R3.2.1, by rw [eln]; exact P3, fun _ => ⟨rfl, R3.1.2.1⟩, fun L hL => by rw [eln] at hL; cases hL⟩
      · rw [List.nil_append] at R3
        rw [if_neg (fun z => by rw [o3] at z; exact absurd z.1 (by decide))] at eln
        exact q _ _ ⟨R3.1.1, R3.1.2.2.1, R3.1.2.2.2, R3.2.1, by rw [eln]; exact P3, fun _ => ⟨rfl, R3.1.2.1⟩, fun L hL => by rw [eln] at hL; cases hL⟩
  · rw [px_ln, if_neg (fun z => c1 (P.2.1.trans z))]
end SX3
