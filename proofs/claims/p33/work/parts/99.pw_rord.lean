/-! ===== the reference's line of orders: told exactly ===== -/
/-- what number j of order v may be -/
def px_olo (v j : Nat) : Int32 := if v = 9 then 1 else if v = 10 ∧ j = 2 then 1 else 0
def px_ohi (v j : Nat) : Int32 := if v = 9 then 60 else if v = 10 then (if j = 2 then 99 else 6) else if j = 0 then 13 else 99
def px_ov (v j : Nat) (x : Int32) : Int32 := px_rd x (px_olo v j) (px_ohi v j)
/-- what is bad behind the numbers of order v -/
def px_ob (v : Nat) : Nat → List (Int32 × Nat) → Int32 → Int32
  | _, [], s => s
  | j, N :: r, s => px_ob v (j + 1) r (px_bt N.1 (px_olo v j) (px_ohi v j) N.2 s)
section RX9
variable {h g : LH} {d : Nat} {c : Nat → Int32}
theorem or_n {o : Nat} {w : Int64} {x3 x4 x5 x6 : Int32} (h6 : x6 = 0 ∨ x6 = 1) (ho : o < 80) {h0 : LH} {Q : tf_Q} (q : ∀ g2 : LH, (∀ e, e ≠ 270 → e ≠ 280 → g2.1 e = h0.1 e) → (∀ i, i ≠ 23 → g2.1 270 i = h0.1 270 i) → g2.2 270 = h0.2 270 → g2.1 270 23 = nI (o + 1) → (∀ ix, ix < 4 * o → g2.1 280 ix = h0.1 280 ix) → (∀ j, j < 3 → g2.1 280 (4 * o + j) = h0.1 275 j) → Q (.int x6) g2) : ∀ (f j : Nat) (g : LH), j + f = 3 → (∀ e, e ≠ 280 → g.1 e = h0.1 e) → g.2 270 = h0.2 270 → h0.1 270 23 = nI o → (∀ ix, ix < 4 * o → g.1 280 ix = h0.1 280 ix) → (∀ i, i < j → g.1 280 (4 * o + i) = h0.1 275 i) → lx_X9_orderLine 298 (tf_Cd 298 d) Q 293 [.ref 270, .long w, tf_z, .int x3, .int x4, .int x5, .int x6, .int (nI j)] [] g := by
  have n6 : vp_nar .boolean x6 = x6 := by rcases h6 with rfl | rfl <;> rfl
  intro f
  induction f with
  | zero =>
    intro j g hf o1 o2 e23 z y
    refine go_X9_orderLine_293 (by decide) ⟨fun _ => go_X9_orderLine_326 (by decide) ⟨n6, ?_⟩, fun c => absurd (show nI 3 ≤ nI j from nI_le (by omega) (by omega)) c⟩
    rw [o1 270 (by decide), e23, nI_1]
    refine q (w1 g 270 23 (nI (o + 1))) (fun e h1 h2 => by rw [w1_ne h1]; exact o1 e h2) (fun i hi => by rw [w1_at hi, o1 270 (by decide)]) o2 w1_eq (fun ix hx => by rw [w1_ne (by decide)]; exact z ix hx) (fun i hi => by rw [w1_ne (by decide)]; exact y i (by omega))
  | succ f ih =>
    intro j g hf o1 o2 e23 z y
    refine go_X9_orderLine_293 (by decide) ⟨fun c => absurd (show nI 3 ≤ nI j from c) (nI_ge (by omega) (by omega)), fun _ => ?_⟩
    rw [o1 270 (by decide), e23, i4k, nI_1, nI_clamp (show 4 * o + j < 2 ^ 31 by omega), nI_clamp (show j < 2 ^ 31 by omega)]
    refine ⟨vi_of (by omega) (by omega), vi_of (by omega) (by omega), ih (j + 1) (w1 g 280 (4 * o + j) (g.1 275 j)) (by omega) (fun e he => by rw [w1_ne he]; exact o1 e he) o2 e23 (fun ix hx => by rw [w1_at (by omega)]; exact z ix hx) (fun i hi => ?_)⟩
    by_cases hij : i = j
    · rw [hij, w1_eq, o1 275 (by decide)]
    · rw [w1_at (by omega)]
      exact y i (by omega)
/-- orders are being read: these numbers of order v so far -/
def SO (h g : LH) (c : Nat → Int32) (L o b : Nat) (bad : Int32) (v : Nat) (l : List (Int32 × Nat)) : Prop := FLn h g ∧ RD g ∧ (fun i => g.1 272 i &&& 255) = c ∧ PB g c L b ∧ g.1 270 23 = nI o ∧ g.1 280 = h.1 280 ∧ g.1 270 13 = bad ∧ ∀ j N, l[j]? = some N → g.1 275 j = px_ov v j N.1
/-- a line of orders was read: it fails, or it is told -/
def LXo (h g : LH) (c : Nat → Int32) (L o v : Nat) (ns : List (Int32 × Nat) × Nat × Bool) (x : Value) (bad : Int32) : Prop := FLn h g ∧ RD g ∧ (ns.2.2 = false → x = .int 0 ∧ g.1 270 12 = nI ns.2.1) ∧ (ns.2.2 = true → x = .int 1 ∧ PB g c L ns.2.1 ∧ g.1 270 13 = px_ob v 0 ns.1 bad ∧ g.1 270 23 = nI (o + 1) ∧ (∀ ix, ix < 4 * o → g.1 280 ix = h.1 280 ix) ∧ ∀ j N, ns.1[j]? = some N → g.1 280 (4 * o + j) = px_ov v j N.1)
theorem px_olo_v {v j : Nat} : vp_in (px_olo v j) 100 := by
  unfold px_olo
  split
  · exact vi_of (j := 1) (by omega) (by omega)
  · split
    · exact vi_of (j := 1) (by omega) (by omega)
    · exact vi_of (j := 0) (by omega) (by omega)
theorem SO.takes {L o b v k : Nat} {bad lo hi : Int32} {l : List (Int32 × Nat)} (hL : L ≤ 400) (S : SO h g c L o b bad v l) (hk : l.length = k) (k3 : k < 3) (el : lo = px_olo v k) (eh : hi = px_ohi v k) : tf_Sp (d + 3) 13 [.ref 270, .int (nI k), .int lo, .int hi] g (fun x g2 => (px_t c L b ≠ 2 → x = .int 0 ∧ FLn h g2 ∧ RD g2 ∧ g2.1 270 23 = nI o ∧ g2.1 270 12 = nI b) ∧ (px_t c L b = 2 → x = .int 1 ∧ SO h g2 c L o (px_nx c L b) (px_bt (px_num c L b) (px_olo v k) (px_ohi v k) b bad) v (l ++ [(px_num c L b, b)]))) := by
  subst el
  subst eh
  obtain ⟨F, R, ec, P, e23, e280, eb, er⟩ := S
  refine (sx_takes (d := d) (k := k) hL ec P (by omega)).mp (fun x g2 p => ⟨fun t => ?_, fun t => ?_⟩)
  · obtain ⟨rfl, rfl⟩ := p.1 t
    exact ⟨rfl, F.tr (FLn.w (Or.inr ⟨rfl, by decide⟩)), R.same (w1_ne (by decide)), (w1_at (by decide)).trans e23, w1_eq⟩
  · obtain ⟨rfl, P2, F2, a2, z2⟩ := p.2 t
    have a2 : g2.1 275 k = px_ov v k (px_num c L b) := a2
    refine ⟨rfl, F.tr F2.ln, R.tq F2.2.2 a2 (px_rd100 (px_num99 t) px_olo_v), by rw [F2.1 272 (by decide) (by decide)]; exact ec, P2, (F2.2.1 23 (by decide) (by decide) (by decide) (by decide) (by decide)).trans e23, (F2.1 280 (by decide) (by decide)).trans e280, by rw [z2, eb]; rfl, fun j N hj => ?_⟩
    by_cases jk : j = k
    · subst jk
      rw [List.getElem?_append_right (by omega), hk, Nat.sub_self] at hj
      cases hj
      exact a2
    · rw [F2.2.2 j jk]
      refine er j N ?_
      rcases Nat.lt_or_ge j l.length with z | z
      · rw [List.getElem?_append_left z] at hj
        exact hj
      · rw [List.getElem?_append_right z] at hj
        obtain ⟨m, hm⟩ : ∃ m, j - l.length = m + 1 := ⟨j - l.length - 1, by omega⟩
        rw [hm] at hj
        cases hj
theorem or_278 {L o b v : Nat} {bad bad2 : Int32} {w : Int64} {x3 x4 x5 x6 : Int32} {l : List (Int32 × Nat)} (ho : o < 80) (S : SO h g c L o b bad2 v l) (h3 : l.length ≤ 3) (eb : bad2 = px_ob v 0 l bad) {Q : tf_Q} (q : ∀ x g2, LXo h g2 c L o v (l, b, true) x bad → Q x g2) : lx_X9_orderLine 298 (tf_Cd 298 (d + 3)) Q 278 [.ref 270, .long w, tf_z, .int x3, .int x4, .int x5, .int x6, tf_z] [.int 1] g := by
  obtain ⟨F, R, ec, P, e23, e280, eb2, er⟩ := S
  refine go_X9_orderLine_278 (by decide) ⟨by rw [e23]; exact vi_of (by omega) (by omega), ?_⟩
  refine or_n (h0 := g) (o := o) (Or.inr rfl) ho (fun g2 o1 o2 o3 a23 z y => q _ g2 ⟨F.tr ⟨fun e h1 h2 => o1 e h2 (by omega), o2 5 (by decide)⟩, R.same (o1 275 (by decide) (by decide)), fun y => (by cases y), fun _ => ⟨rfl, P.same (fun i hi => o2 i (by omega)) (by rw [o3]), ?_, a23, fun ix hx => ?_, fun j N hj => ?_⟩⟩) 3 0 (w2 g 279 (g.1 270 23).toNatClampNeg w) (by omega) (fun _ _ => rfl) ?_ e23 (fun _ _ => rfl) (fun i hi => absurd hi (by omega))
  · rw [o2 13 (by decide), eb2, eb]
  · rw [z ix hx, e280]
  · have jl : j < l.length := by
      rcases Nat.lt_or_ge j l.length with z | z
      · exact z
      · have : l[j]? = some N := hj
        rw [List.getElem?_eq_none z] at this
        cases this
    rw [y j (by omega)]
    exact er j N hj
  · show tf_upL g.2 279 (g.1 270 23).toNatClampNeg w 270 = g.2 270
    unfold tf_upL
    rw [if_neg (by decide)]
theorem or_278N {L o b v : Nat} {bad : Int32} {w : Int64} {x3 x4 x5 x6 : Int32} {l : List (Int32 × Nat)} (ho : o < 80) (F : FLn h g) (R : RD g) (e23 : g.1 270 23 = nI o) (e12 : g.1 270 12 = nI b) {Q : tf_Q} (q : ∀ x g2, LXo h g2 c L o v (l, b, false) x bad → Q x g2) : lx_X9_orderLine 298 (tf_Cd 298 (d + 3)) Q 278 [.ref 270, .long w, tf_z, .int x3, .int x4, .int x5, .int x6, tf_z] [.int 0] g := by
  refine go_X9_orderLine_278 (by decide) ⟨by rw [e23]; exact vi_of (by omega) (by omega), ?_⟩
  refine or_n (h0 := g) (o := o) (Or.inl rfl) ho (fun g2 o1 o2 o3 a23 z y => q _ g2 ⟨F.tr ⟨fun e h1 h2 => o1 e h2 (by omega), o2 5 (by decide)⟩, R.same (o1 275 (by decide) (by decide)), fun _ => ⟨rfl, (o2 12 (by decide)).trans e12⟩, fun y => by cases y⟩) 3 0 (w2 g 279 (g.1 270 23).toNatClampNeg w) (by omega) (fun _ _ => rfl) ?_ e23 (fun _ _ => rfl) (fun i hi => absurd hi (by omega))
  show tf_upL g.2 279 (g.1 270 23).toNatClampNeg w 270 = g.2 270
  unfold tf_upL
  rw [if_neg (by decide)]
/-- the third number -/
theorem or_247 {L o b v : Nat} {bad bad2 : Int32} {x3 x4 x5 x6 : Int32} {l : List (Int32 × Nat)} (hL : L ≤ 400) (hv : v < 15) (ho : o < 80) (S : SO h g c L o b bad2 v l) (h3 : l.length ≤ 2) (hs : v = 10 → l.length = 2) (eb : ∀ r, px_ob v l.length r bad2 = px_ob v 0 (l ++ r) bad) {Q : tf_Q} (q : ∀ x g2, LXo h g2 c L o v (l ++ (px_ns c L (if v = 10 then 1 else 0) b).1, (px_ns c L (if v = 10 then 1 else 0) b).2) x bad → Q x g2) : lx_X9_orderLine 298 (tf_Cd 298 (d + 3)) Q 247 [.ref 270, .long (px_W.getD v 0), tf_z, .int x3, .int x4, .int x5, .int x6, tf_z] [.int 1] g := by
  have s10 : ∀ v, v < 15 → (lg_cmp (px_W.getD v 0) 495672977012 = 0 ↔ v = 10) := by decide
  refine go_X9_orderLine_247 (by decide) ⟨fun z => absurd z (by decide), fun _ => ⟨fun z => ?_, fun z => ?_⟩⟩
  · have v10 := (s10 v hv).mp z
    rw [if_pos v10] at q
    refine S.takes (d := d) (k := 2) hL (hs v10) (by omega) (by subst v10; rfl) (by subst v10; rfl) _ (fun x g2 p => ?_)
    by_cases t : px_t c L b = 2
    · obtain ⟨rfl, S2⟩ := p.2 t
      rw [px_nsS t, px_ns] at q
      refine go_X9_orderLine_270 (by decide) ⟨fun z => absurd z (by decide), fun _ => go_X9_orderLine_273 (by decide) (or_278 ho S2 (by rw [List.length_append]; have : [(px_num c L b, b)].length = 1 := rfl; omega) ?_ q)⟩
      rw [← eb, hs v10, px_ob, px_ob]
    · obtain ⟨rfl, F2, R2, e23, e12⟩ := p.1 t
      rw [px_nsF t] at q
      exact go_X9_orderLine_270 (by decide) ⟨fun _ => go_X9_orderLine_277 (by decide) (or_278N ho F2 R2 e23 e12 q), fun z => absurd rfl z⟩
  · have v10 : ¬ v = 10 := fun y => z ((s10 v hv).mpr y)
    rw [if_neg v10, px_ns, List.append_nil] at q
    refine go_X9_orderLine_273 (by decide) (or_278 ho S (by omega) ?_ q)
    have := eb []
    rw [List.append_nil, px_ob] at this
    exact this
theorem or_247N {L o b v : Nat} {bad : Int32} {w : Int64} {x3 x4 x5 x6 : Int32} {l : List (Int32 × Nat)} (ho : o < 80) (F : FLn h g) (R : RD g) (e23 : g.1 270 23 = nI o) (e12 : g.1 270 12 = nI b) {Q : tf_Q} (q : ∀ x g2, LXo h g2 c L o v (l, b, false) x bad → Q x g2) : lx_X9_orderLine 298 (tf_Cd 298 (d + 3)) Q 247 [.ref 270, .long w, tf_z, .int x3, .int x4, .int x5, .int x6, tf_z] [.int 0] g := go_X9_orderLine_247 (by decide) ⟨fun _ => go_X9_orderLine_277 (by decide) (or_278N ho F R e23 e12 q), fun z => absurd rfl z⟩
/-- the second number -/
theorem or_193 {L o b v : Nat} {bad bad2 : Int32} {x3 x4 x5 : Int32} {l : List (Int32 × Nat)} (hL : L ≤ 400) (hv : v < 15) (ho : o < 80) (S : SO h g c L o b bad2 v l) (h3 : l.length ≤ 1) (hs : x3 = 0 ∧ x4 = 0 → l.length = 1) (eb : ∀ r, px_ob v l.length r bad2 = px_ob v 0 (l ++ r) bad) (h9 : v = 9 → x4 ≠ 0) (h10 : v = 10 → x3 = 0 ∧ x4 = 0) {Q : tf_Q} (q : ∀ x g2, LXo h g2 c L o v (l ++ (px_ns c L (if x3 = 0 ∧ x4 = 0 then (if v = 10 then 2 else 1) else 0) b).1, (px_ns c L (if x3 = 0 ∧ x4 = 0 then (if v = 10 then 2 else 1) else 0) b).2) x bad → Q x g2) : lx_X9_orderLine 298 (tf_Cd 298 (d + 3)) Q 193 [.ref 270, .long (px_W.getD v 0), tf_z, .int x3, .int x4, .int x5, tf_z, tf_z] [.int 1] g := by
  have s10 : ∀ v, v < 15 → (lg_cmp (px_W.getD v 0) 495672977012 = 0 ↔ v = 10) := by decide
  have skip : ¬ (x3 = 0 ∧ x4 = 0) → lx_X9_orderLine 298 (tf_Cd 298 (d + 3)) Q 242 [.ref 270, .long (px_W.getD v 0), tf_z, .int x3, .int x4, .int x5, .int 1, tf_z] [] g := by
    intro n
    rw [if_neg n] at q
    have v10 : ¬ v = 10 := fun y => n (h10 y)
    refine go_X9_orderLine_242 (by decide) (or_247 (bad := bad) hL hv ho S (by omega) (fun y => absurd y v10) eb ?_)
    rw [if_neg v10]
    exact q
  refine go_X9_orderLine_193 (by decide) ⟨fun z => absurd z (by decide), fun _ => ⟨fun z3 => ⟨fun z4 => ⟨fun z => ?_, fun z => go_X9_orderLine_231 (by decide) ?_⟩, fun z4 => skip (fun y => z4 y.2)⟩, fun z3 => skip (fun y => z3 y.1)⟩⟩
  · have v10 := (s10 v hv).mp z
    rw [if_pos ⟨z3, z4⟩, if_pos v10] at q
    have l1 := hs ⟨z3, z4⟩
    refine S.takes (d := d) (k := 1) hL l1 (by omega) (by subst v10; rfl) (by subst v10; rfl) _ (fun x g2 p => ?_)
    by_cases t : px_t c L b = 2
    · obtain ⟨rfl, S2⟩ := p.2 t
      rw [px_nsS t] at q
      have l2 : (l ++ [(px_num c L b, b)]).length = 2 := by rw [List.length_append, l1]; rfl
      refine go_X9_orderLine_225 (by decide) ⟨fun z => absurd z (by decide), fun _ => go_X9_orderLine_242 (by decide) (or_247 (bad := bad) hL hv ho S2 (by omega) (fun _ => l2) (fun r => ?_) ?_)⟩
      · rw [List.append_assoc]
        have := eb ([(px_num c L b, b)] ++ r)
        rw [l1] at this
        rw [l2, ← this]
        rfl
      · rw [if_pos v10, List.append_assoc]
        exact q
    · obtain ⟨rfl, F2, R2, e23, e12⟩ := p.1 t
      rw [px_nsF t] at q
      exact go_X9_orderLine_225 (by decide) ⟨fun _ => go_X9_orderLine_246 (by decide) (or_247N ho F2 R2 e23 e12 q), fun z => absurd rfl z⟩
  · have v10 : ¬ v = 10 := fun y => z ((s10 v hv).mpr y)
    have v9 : ¬ v = 9 := fun y => h9 y z4
    rw [if_pos ⟨z3, z4⟩, if_neg v10] at q
    have l1 := hs ⟨z3, z4⟩
    refine S.takes (d := d) (k := 1) hL l1 (by omega) (by unfold px_olo; rw [if_neg v9, if_neg (fun y => v10 y.1)]) (by unfold px_ohi; rw [if_neg v9, if_neg v10, if_neg (by decide)]) _ (fun x g2 p => ?_)
    by_cases t : px_t c L b = 2
    · obtain ⟨rfl, S2⟩ := p.2 t
      rw [px_nsS t] at q
      have l2 : (l ++ [(px_num c L b, b)]).length = 2 := by rw [List.length_append, l1]; rfl
      refine go_X9_orderLine_239 (by decide) ⟨fun z => absurd z (by decide), fun _ => go_X9_orderLine_242 (by decide) (or_247 (bad := bad) hL hv ho S2 (by omega) (fun _ => l2) (fun r => ?_) ?_)⟩
      · rw [List.append_assoc]
        have := eb ([(px_num c L b, b)] ++ r)
        rw [l1] at this
        rw [l2, ← this]
        rfl
      · rw [if_neg v10, List.append_assoc]
        exact q
    · obtain ⟨rfl, F2, R2, e23, e12⟩ := p.1 t
      rw [px_nsF t] at q
      exact go_X9_orderLine_239 (by decide) ⟨fun _ => go_X9_orderLine_246 (by decide) (or_247N ho F2 R2 e23 e12 q), fun z => absurd rfl z⟩
theorem or_193N {L o b v : Nat} {bad : Int32} {w : Int64} {x3 x4 x5 : Int32} {l : List (Int32 × Nat)} (ho : o < 80) (F : FLn h g) (R : RD g) (e23 : g.1 270 23 = nI o) (e12 : g.1 270 12 = nI b) {Q : tf_Q} (q : ∀ x g2, LXo h g2 c L o v (l, b, false) x bad → Q x g2) : lx_X9_orderLine 298 (tf_Cd 298 (d + 3)) Q 193 [.ref 270, .long w, tf_z, .int x3, .int x4, .int x5, tf_z, tf_z] [.int 0] g := go_X9_orderLine_193 (by decide) ⟨fun _ => go_X9_orderLine_246 (by decide) (or_247N ho F R e23 e12 q), fun z => absurd rfl z⟩
end RX9
