/-! ===== the class looks a grid's text over: told exactly ===== -/
def px_pw (f : Nat → Int32) (i : Nat) (v : Int32) : Nat → Int32 := fun j => if j = i then v else f j
def px_su : List px_L → (Nat → Int32) → Nat → Int32
  | [], f => f
  | L :: r, f => px_su r (if L.1 = 3 then px_pw f (px_no L 0).1.toNatClampNeg (px_no L 1).1 else if L.1 = 4 then px_pw f (px_no L 0).1.toNatClampNeg (-(px_no L 1).1) else f)
def px_sum (f : Nat → Int32) : Nat → Nat → Int32 → Int32
  | 0, _, x => x
  | n + 1, i, x => px_sum f n (i + 1) (x + f i)
/-- what is at fault in a grid's text of these lines, that ends at e -/
def px_cg (ls : List px_L) (e : Int32) (s : Int32 × Int32) : Int32 × Int32 :=
  let s1 := px_gs ls 0 s
  let s2 := if s1.1 = 0 then px_ps (px_pt ls 2 - 1) ls s1 else s1
  if s2.1 = 0 then (if px_sum (px_su ls (fun _ => 0)) 7 0 0 = 0 then s2 else bm s2 4 e) else s2
section SX6
variable {h g : LH} {d : Nat}
def LSg (h : LH) (i : Nat) (ls : List px_L) : Prop := ∀ m L, ls[m]? = some L → LgA h (i + m) L
theorem LSg.hd {i : Nat} {L : px_L} {r : List px_L} (S : LSg h i (L :: r)) : LgA h i L := S 0 L rfl
theorem LSg.tl {i : Nat} {L : px_L} {r : List px_L} (S : LSg h i (L :: r)) : LSg h (i + 1) r := fun m L2 hm => by
  have := S (m + 1) L2 hm
  rw [show i + 1 + m = i + (m + 1) by omega]
  exact this
theorem LSg.fl {i : Nat} {ls : List px_L} (S : LSg h i ls) (F : FL h g) : LSg g i ls := fun m L hm => (S m L hm).fl F
theorem LgA.vin {n : Nat} {L : px_L} (A : LgA h n L) : vp_in (h.1 260 n) 15 := by rw [A.1.1]; exact vi_of A.2.1 (by omega)
theorem spt_L {Q : tf_Q} : ∀ (ls : List px_L) (i : Nat) (x : Int32), LSg h i ls → h.1 259 0 = nI (i + ls.length) → i + ls.length ≤ 80 → Q (.int (px_pt ls x)) h → lx_X4_pointsTold (d + 1) (tf_Cd 298 (d + 1)) Q 4 [.ref 259, .int x, .int (nI i)] [] h
  | [], i, x, S, e0, hc, q => go_X4_pointsTold_4 ⟨fun _ => go_X4_pointsTold_37 q, fun c1 => absurd (by rw [e0]; exact nI_le (by simp) (by omega)) c1⟩
  | L :: r, i, x, S, e0, hc, q => by
    have A := S.hd
    simp only [List.length_cons] at e0 hc
    have e : (nI i).toNatClampNeg = i := nI_clamp (by omega)
    have nx : ∀ y : Int32, y = (if L.1 = 0 then (px_no L 0).1 else x) → lx_X4_pointsTold (d + 1) (tf_Cd 298 (d + 1)) Q 31 [.ref 259, .int y, .int (nI i)] [] h := by
      intro y hy
      refine go_X4_pointsTold_31 ?_
      rw [nI_1]
      exact spt_L r (i + 1) y S.tl (by rw [e0]; congr 1; omega) (by omega) (by rw [hy]; exact q)
    refine go_X4_pointsTold_4 ⟨fun c1 => absurd (by rw [e0] at c1; exact c1) (nI_ge (by omega) (by omega)), fun _ => ⟨⟨vi_of (by omega) (by omega), by rw [e]; exact A.vin⟩, ?_⟩⟩
    rw [e]
    have ev : (h.1 260 i).toNatClampNeg = L.1 := A.1.vb A.2.1
    rw [ev]
    refine ⟨fun c0 => sx_nb (d := d) (i := 0) (by omega) (by decide) rfl _ (go_X4_pointsTold_30 (nx _ ?_)), fun c0 => nx _ (by rw [if_neg c0])⟩
    rw [if_pos c0]
    refine (A.1.no ?_).1
    rw [A.2.2]
    have := (px_gar L.1 A.2.1).1 c0
    omega
theorem sx_ptd {ls : List px_L} (S : LSg h 0 ls) (e0 : h.1 259 0 = nI ls.length) (hc : ls.length ≤ 80) : tf_Rt (d + 2) 236 [.ref 259] h (.int (px_pt ls 2)) h := fun Q q => en_X4_pointsTold (go_X4_pointsTold_0 (spt_L ls 0 2 S (by rw [e0]; congr 1; omega) (by omega) q))
theorem LgA.arcE {n : Nat} {L : px_L} (A : LgA h n L) : ia h n = px_ia L := by
  unfold ia px_ia
  rw [A.1.vb A.2.1]
theorem sps_L {x1 : Int32} {Q : tf_Q} : ∀ (ls : List px_L) (i : Nat) (g : LH), LSg g i ls → (∀ j, j < i + ls.length → vp_in (g.1 260 j) 15) → g.1 259 0 = nI (i + ls.length) → i + ls.length ≤ 80 → (∀ g2, FL g g2 → fp g2 = px_ps x1 ls (fp g) → Q tf_z g2) → lx_X4_checkPointsThere (d + 2) (tf_Cd 298 (d + 2)) Q 9 [.ref 259, .int x1, .int (nI i)] [] g
  | [], i, g, S, V, e0, hc, q => go_X4_checkPointsThere_9 ⟨fun _ => go_X4_checkPointsThere_85 (q g FL.rf rfl), fun c1 => absurd (by rw [e0]; exact nI_le (by simp) (by omega)) c1⟩
  | L :: r, i, g, S, V, e0, hc, q => by
    have A := S.hd
    simp only [List.length_cons] at e0 hc V
    have e : (nI i).toNatClampNeg = i := nI_clamp (by omega)
    have gar := px_gar L.1 A.2.1
    have al := A.2.2
    have nx : ∀ g2, FL g g2 → fp g2 = (if px_ia L = true then px_wt L 1 0 x1 3 (px_wt L 0 0 x1 3 (fp g)) else if L.1 = 3 ∨ L.1 = 4 then px_wt L 0 0 x1 3 (fp g) else fp g) → lx_X4_checkPointsThere (d + 2) (tf_Cd 298 (d + 2)) Q 79 [.ref 259, .int x1, .int (nI i)] [] g2 := by
      intro g2 F2 z2
      refine go_X4_checkPointsThere_79 ?_
      rw [nI_1]
      exact sps_L r (i + 1) g2 (S.tl.fl F2) (fun j hj => by rw [F2.1 260 (by decide)]; exact V j (by omega)) (by rw [F2.2.2 0 (by decide) (by decide), e0]; congr 1; omega) (by omega) (fun g3 F3 z3 => q g3 (F2.tr F3) (by rw [z3, z2]; rfl))
    have ev : (g.1 260 i).toNatClampNeg = L.1 := A.1.vb A.2.1
    refine go_X4_checkPointsThere_9 ⟨fun c1 => absurd (by rw [e0] at c1; exact c1) (nI_ge (by omega) (by omega)), fun _ => sx_ia (d := d + 1) (c := i + (r.length + 1)) V (by omega) hc _ ?_⟩
    rw [A.arcE]
    refine go_X4_checkPointsThere_22 ⟨fun c0 => go_X4_checkPointsThere_46 ?_, fun c0 => ?_⟩
    · rw [bI_0] at c0
      have vl : vp_in (nI i) 80 := vi_of (by omega) (by omega)
      have k70 : (L.1 = 3 ∨ L.1 = 4) → lx_X4_checkPointsThere (d + 2) (tf_Cd 298 (d + 2)) Q 70 [.ref 259, .int x1, .int (nI i)] [] g := by
        intro hv
        have := gar.2.2.1 hv
        refine go_X4_checkPointsThere_70 (sx_want (d := d) (i := 0) (by omega) A.1 (by omega) (by decide) rfl _ (fun _ g2 p => nx g2 p.1 ?_))
        rw [p.2, c0, if_neg (by decide), if_pos hv]
      rw [e, ev]
      refine ⟨⟨vl, A.vin⟩, fun c3 => k70 (Or.inl c3), fun c3 => ⟨⟨vl, A.vin⟩, fun c4 => k70 (Or.inr c4), fun c4 => nx g FL.rf ?_⟩⟩
      rw [c0, if_neg (by decide), if_neg (fun z => z.elim c3 c4)]
    · rw [bI_0, Bool.not_eq_false] at c0
      have hv : L.1 = 1 ∨ L.1 = 2 := by
        unfold px_ia at c0
        simpa using c0
      have := gar.2.1 hv
      refine sx_want (d := d) (i := 0) (by omega) A.1 (by omega) (by decide) rfl _ (fun _ g2 p => go_X4_checkPointsThere_34 ?_)
      refine sx_want (d := d) (i := 1) (by omega) (A.1.fl p.1) (by omega) (by decide) rfl _ (fun _ g3 p3 => go_X4_checkPointsThere_43 (nx g3 (p.1.tr p3.1) ?_))
      rw [p3.2, p.2, if_pos c0]
theorem LSg.vb {ls : List px_L} (S : LSg h 0 ls) : ∀ j, j < 0 + ls.length → vp_in (h.1 260 j) 15 := fun j hj => by
  have := (S j ls[j] (List.getElem?_eq_getElem (by omega))).vin
  rw [Nat.zero_add] at this
  exact this
theorem sx_cpt {ls : List px_L} (S : LSg h 0 ls) (e0 : h.1 259 0 = nI ls.length) (hc : ls.length ≤ 80) : tf_Sp (d + 3) 234 [.ref 259] h (fun _ g => FL h g ∧ fp g = px_ps (px_pt ls 2 - 1) ls (fp h)) := fun Q q => en_X4_checkPointsThere (go_X4_checkPointsThere_0 (sx_ptd (d := d) S e0 hc _ (go_X4_checkPointsThere_4 (sps_L ls 0 h S S.vb (by rw [e0]; congr 1; omega) (by omega) (fun g2 F z => q _ g2 ⟨F, z⟩)))))
theorem scg_L {x1 : Int32} {Q : tf_Q} : ∀ (ls : List px_L) (i t : Nat) (g : LH), LSg g i ls → (∀ j, j < i + ls.length → vp_in (g.1 260 j) 15) → g.1 259 0 = nI (i + ls.length) → i + ls.length ≤ 80 → t ≤ i → (∀ g2 x2 x3, FL g g2 → fp g2 = px_gs ls t (fp g) → lx_X4_checkGrid (d + 3) (tf_Cd 298 (d + 3)) Q 40 [.ref 259, .int x1, .int x2, .int x3] [] g2) → lx_X4_checkGrid (d + 3) (tf_Cd 298 (d + 3)) Q 4 [.ref 259, .int x1, .int (nI t), .int (nI i)] [] g
  | [], i, t, g, S, V, e0, hc, ht, q => go_X4_checkGrid_4 ⟨fun _ => q g _ _ FL.rf rfl, fun c1 => absurd (by rw [e0]; exact nI_le (by simp) (by omega)) c1⟩
  | L :: r, i, t, g, S, V, e0, hc, ht, q => by
    have A := S.hd
    simp only [List.length_cons] at e0 hc V
    refine go_X4_checkGrid_4 ⟨fun c1 => absurd (by rw [e0] at c1; exact c1) (nI_ge (by omega) (by omega)), fun _ => sx_gl (d := d) A (by omega) (by omega) _ (fun _ g2 p => go_X4_checkGrid_18 ?_)⟩
    have V2 : VB g2 (i + (r.length + 1)) := fun j hj => by rw [p.1.1 260 (by decide)]; exact V j hj
    refine sx_ia (d := d + 2) V2 (by omega) hc _ ?_
    rw [(A.fl p.1).arcE]
    have nx : ∀ y : Int32, nI t + y = nI (if px_ia L = true then t + 1 else t) → lx_X4_checkGrid (d + 3) (tf_Cd 298 (d + 3)) Q 32 [.ref 259, .int x1, .int (nI t), .int (nI i)] [.int y, .int (nI t)] g2 := by
      intro y hy
      refine go_X4_checkGrid_32 ?_
      rw [hy, nI_1]
      refine scg_L r (i + 1) _ g2 (S.tl.fl p.1) (fun j hj => V2 j (by omega)) (by rw [p.1.2.2 0 (by decide) (by decide), e0]; congr 1; omega) (by omega) (by split <;> omega) (fun g3 x2 x3 F3 z3 => q g3 x2 x3 (p.1.tr F3) (by rw [z3, p.2]; rfl))
    refine go_X4_checkGrid_24 ⟨fun c0 => go_X4_checkGrid_31 (nx 0 ?_), fun c0 => nx 1 ?_⟩
    · rw [bI_0] at c0
      rw [c0, if_neg (by decide)]
      exact nI_add t 0
    · rw [bI_0, Bool.not_eq_false] at c0
      rw [if_pos c0]
      exact nI_add t 1
end SX6
