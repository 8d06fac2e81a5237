/-! ===== lay and work of the class: what is at fault, told exactly ===== -/
/-- a line of a grid's text that passes, all of it -/
def px_okA (L : px_L) : Prop := (L.1 = 0 → ∃ m, 2 ≤ m ∧ m ≤ 7 ∧ (px_no L 0).1 = nI m) ∧ (L.1 = 1 ∨ L.1 = 2 → vp_in (px_no L 0).1 7 ∧ vp_in (px_no L 1).1 7) ∧ (L.1 = 3 ∨ L.1 = 4 → vp_in (px_no L 0).1 7) ∧ (L.1 = 5 → vp_in (px_no L 0).1 21)
theorem px_gl_A {L : px_L} {t : Nat} {s : Int32 × Int32} (ht : t ≤ 14) (z : (px_gl L t s).1 = 0) : px_okA L ∧ (px_ia L = true → t + 1 ≤ 14) := by
  unfold px_gl at z
  unfold px_ia
  split at z
  · rename_i c
    obtain ⟨-, b, d⟩ := px_wt_0 (by decide) z
    exact ⟨⟨fun _ => wt_in (lo := 2) (hi := 7) b d (by decide) (by decide), fun y => by omega, fun y => by omega, fun y => by omega⟩, fun y => by simp [c] at y⟩
  · split at z
    · rename_i c0 c
      have zz : (px_wt L 1 0 6 2 (px_wt L 0 0 6 2 (if t = 14 then bm s 2 (nI L.2.1) else s))).1 = 0 := by
        split at z
        · exact absurd z (bm_0 (by decide))
        · exact z
      obtain ⟨z1, b1, d1⟩ := px_wt_0 (by decide) zz
      obtain ⟨z2, b0, d0⟩ := px_wt_0 (by decide) z1
      refine ⟨⟨fun y => absurd y c0, fun _ => ⟨wt_7 b0 d0, wt_7 b1 d1⟩, fun y => by omega, fun y => by omega⟩, fun _ => ?_⟩
      by_cases t14 : t = 14
      · rw [if_pos t14] at z2
        exact absurd z2 (bm_0 (by decide))
      · omega
    · rename_i c0 c1
      have nia : ¬ (decide (L.1 = 1) || decide (L.1 = 2)) = true := fun y => c1 (by simpa using y)
      split at z
      · rename_i c
        obtain ⟨-, b, d⟩ := px_wt_0 (by decide) z
        exact ⟨⟨fun y => absurd y c0, fun y => absurd y c1, fun _ => wt_7 b d, fun y => by omega⟩, fun y => absurd y nia⟩
      · rename_i c3
        split at z
        · obtain ⟨-, b, d⟩ := px_wt_0 (by decide) z
          refine ⟨⟨fun y => absurd y c0, fun y => absurd y c1, fun y => absurd y c3, fun _ => ?_⟩, fun y => absurd y nia⟩
          cases t with
          | zero =>
            exfalso
            have b2 : (px_no L 0).1.toInt ≤ -1 := by
              rw [Int32.le_iff_toInt_le] at d
              exact d
            have a2 : ¬ (px_no L 0).1.toInt < 0 := by
              rw [Int32.lt_iff_toInt_lt] at b
              exact b
            omega
          | succ t =>
            rw [nI_pred] at d
            obtain ⟨m, -, m2, m3⟩ := wt_in (lo := 0) (hi := t) b d (by omega) (by decide)
            rw [m3]
            exact vi_of (by omega) (by omega)
        · rename_i c5
          exact ⟨⟨fun y => absurd y c0, fun y => absurd y c1, fun y => absurd y c3, fun y => absurd y c5⟩, fun y => absurd y nia⟩
theorem px_gs_A : ∀ (ls : List px_L) (t : Nat) (s : Int32 × Int32), t ≤ 14 → (px_gs ls t s).1 = 0 → ∀ (m : Nat) (L : px_L), ls[m]? = some L → px_okA L
  | [], t, s, ht, z, m, L, hm => by cases hm
  | L :: r, t, s, ht, z, m, L2, hm => by
    have a := (px_gs_0 r _ _ z).1
    obtain ⟨c, d⟩ := px_gl_A ht a
    cases m with
    | zero =>
      cases hm
      exact c
    | succ m =>
      refine px_gs_A r _ _ ?_ z m L2 hm
      split
      · rename_i y
        exact d y
      · exact ht
theorem px_cg_0 {ls : List px_L} {e : Int32} {s : Int32 × Int32} (z : (px_cg ls e s).1 = 0) : (px_gs ls 0 s).1 = 0 := by
  unfold px_cg at z
  simp only [] at z
  by_cases c : (px_gs ls 0 s).1 = 0
  · exact c
  · rw [if_neg c, if_neg c] at z
    exact z
/-- what lay finds at fault in the text c, l long -/
def px_lay (c : Nat → Int32) (l : Nat) : Int32 × Int32 := match (px_all c l 0 80 (px_p c l 0)).2 with
  | some w => (1, nI w)
  | none => px_cg (px_all c l 0 80 (px_p c l 0)).1 (nI l) (0, -1)
def px_wrk (c : Nat → Int32) (l : Nat) : Int32 × Int32 := match (px_all c l 1 80 (px_p c l 0)).2 with
  | some w => (1, nI w)
  | none => px_os (px_all c l 1 80 (px_p c l 0)).1 (0, -1)
section SX9
variable {h g : LH} {d M : Nat}
theorem LSt.sg {c : Nat → Int32} {l f p : Nat} (S : LSt g (px_all c l 0 f p).1) : LSg g 0 (px_all c l 0 f p).1 := fun m L hm => by
  obtain ⟨a, b, -⟩ := S.2 m L hm
  rw [Nat.zero_add]
  exact ⟨a, b, (px_all_ar f p m L hm).2.1⟩
theorem LSt.so {c : Nat → Int32} {l f p : Nat} (S : LSt g (px_all c l 1 f p).1) : LSo g 0 (px_all c l 1 f p).1 := fun m L hm => by
  obtain ⟨a, b, -⟩ := S.2 m L hm
  rw [Nat.zero_add]
  exact ⟨a, b, (px_all_ar f p m L hm).2.1⟩
theorem LSt.vb {ls : List px_L} (S : LSt g ls) : VB g ls.length := fun i hi => by
  obtain ⟨a, b, -⟩ := S.2 i ls[i] (List.getElem?_eq_getElem hi)
  rw [a.1]
  exact vi_of b (by omega)
theorem LSg.agr {ls : List px_L} (S : LSg g 0 ls) (K : ∀ (m : Nat) (L : px_L), ls[m]? = some L → px_okA L) : AGr g ls.length := fun line hl => by
  have e := List.getElem?_eq_getElem hl
  have A := S line _ e
  rw [Nat.zero_add] at A
  obtain ⟨k0, k1, k3, k5⟩ := K line _ e
  obtain ⟨r0, r1, r3, r5⟩ := px_gar _ A.2.1
  have al := A.2.2
  rw [A.1.vb A.2.1]
  refine ⟨fun y => ?_, fun y => ?_, fun y => ?_, fun y => ?_⟩
  · have := r0 y
    rw [(A.1.no (i := 0) (by omega)).1]
    exact k0 y
  · have := r1 y
    rw [(A.1.no (i := 0) (by omega)).1, (A.1.no (i := 1) (by omega)).1]
    exact k1 y
  · have := r3 y
    rw [(A.1.no (i := 0) (by omega)).1]
    exact k3 y
  · have := r5 y
    rw [(A.1.no (i := 0) (by omega)).1]
    exact k5 y
theorem px_os_0 : ∀ (ls : List px_L) (s : Int32 × Int32), (px_os ls s).1 = 0 → s.1 = 0 ∧ ∀ (m : Nat) (L : px_L), ls[m]? = some L → L.1 = 9 → ∃ n, 1 ≤ n ∧ n ≤ 60 ∧ (px_no L 0).1 = nI n
  | [], s, z => ⟨z, fun m L hm => by cases hm⟩
  | L :: r, s, z => by
    obtain ⟨a, b⟩ := px_os_0 r _ z
    have c : s.1 = 0 ∧ (L.1 = 9 → ∃ n, 1 ≤ n ∧ n ≤ 60 ∧ (px_no L 0).1 = nI n) := by
      unfold px_ol at a
      split at a
      · obtain ⟨x, y, w⟩ := px_wt_0 (by decide) a
        exact ⟨x, fun _ => wt_in (lo := 1) (hi := 60) y w (by decide) (by decide)⟩
      · rename_i n9
        split at a
        · exact ⟨(px_wt_0 (by decide) (px_wt_0 (by decide) (px_wt_0 (by decide) a).1).1).1, fun y => absurd y n9⟩
        · split at a
          · exact ⟨(px_wt_0 (by decide) a).1, fun y => absurd y n9⟩
          · exact ⟨a, fun y => absurd y n9⟩
    refine ⟨c.1, fun m L2 hm => ?_⟩
    cases m with
    | zero =>
      cases hm
      exact c.2
    | succ m => exact b m L2 hm
theorem LSo.ogr {ls : List px_L} (S : LSo g 0 ls) (K : ∀ (m : Nat) (L : px_L), ls[m]? = some L → L.1 = 9 → ∃ n, 1 ≤ n ∧ n ≤ 60 ∧ (px_no L 0).1 = nI n) : OGr g ls.length := fun line hl y => by
  have e := List.getElem?_eq_getElem hl
  have A := S line _ e
  rw [Nat.zero_add] at A
  rw [A.1.vb A.2.1] at y
  have := (px_oar _ A.2.1).1 y
  have al := A.2.2
  rw [(A.1.no (i := 0) (by omega)).1]
  exact K line _ e y
theorem WR.fp {w : Option Nat} (W : WR g w) : (g.1 259 1, g.1 259 2) = (match w with | some p => (1, nI p) | none => (0, -1)) := by
  cases w with
  | none => rw [W.1, W.2]
  | some p => rw [W.1, W.2]
theorem FG.lnA {n : Nat} {L : px_L} (F : FG h g) (A : LnA h n L) : LnA g n L := A.same (fun c h1 h2 => F.1 c (by omega) (by omega))
theorem FG.lsg {i : Nat} {ls : List px_L} (F : FG h g) (S : LSg h i ls) : LSg g i ls := fun m L hm => ⟨F.lnA (S m L hm).1, (S m L hm).2⟩
end SX9
