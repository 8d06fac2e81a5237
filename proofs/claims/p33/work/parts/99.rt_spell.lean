/-! ===== spell on both sides: grids ===== -/
section RTS
variable {h g : LH} {t : Nat}
theorem zz_0 (I : IZ h t) (x : Int64) : lk_sp h 181 [.ref 240, .long x] 8 [.ref 270, .long x] (fun g => NZ g (t + 1)) := by
  have Z := I.1
  obtain ⟨⟨⟨X, R⟩, e1, e2, e3⟩, t1, ⟨t2, t2'⟩, t3⟩ := I.2
  obtain ⟨l, hl, el⟩ := (X.2 0 (by omega)).2
  have el : h.1 251 1 = nI l := el
  have r1 := sy_X (x := x) hl el
  have em : h.1 271 (170 : Int32).toNatClampNeg = nI l := e2.symm.trans el
  by_cases c : l + sy_n x ≤ 400
  · rw [if_pos c] at r1
    obtain ⟨-, Fg⟩ := sy_puts_ci (x := x) (sy_n x) 0 h l X el c
    have Kg : ∀ e, e ≠ 251 ∧ e ≠ 252 → (sy_puts x 0 (sy_n x) h).1 e = h.1 e := fun e he => sy_puts_out he _ _ _
    generalize sy_puts x 0 (sy_n x) h = g at r1 Fg Kg
    have emg : g.1 271 (170 : Int32).toNatClampNeg = nI l := by rw [Fg.1 271 (by decide)]; exact em
    have r2 := sy_M (x := x) hl emg
    rw [if_pos c] at r2
    have o0 : ∀ e, e ≠ 270 → (w1 g 270 0 0).1 e = g.1 e := fun e he => w1_ne he
    have o5 : (w1 g 270 0 0).1 270 5 = g.1 270 5 := w1_at (by decide)
    have em0 : (w1 g 270 0 0).1 271 (170 : Int32).toNatClampNeg = nI l := by rw [o0 271 (by decide)]; exact emg
    obtain ⟨-, fr, fx⟩ := sy_mputs_fr (x := x) (sy_n x) 0 (w1 g 270 0 0) l em0
    have r2 : tf_Rt 11 8 [.ref 270, .long x] g (.int (sy_ans x l)) (sy_mputs x 0 (sy_n x) (w1 g 270 0 0)) := r2
    generalize sy_mputs x 0 (sy_n x) (w1 g 270 0 0) = k at r2 fr fx
    refine r1.sp ⟨⟨_, rfl⟩, r2.sp ⟨⟨_, rfl⟩, Z.fr (fun e h1 _ => ?_) (fun ix h1 h2 => ?_) ?_ ?_ ?_⟩⟩
    · rw [fr e (by omega) (by omega), o0 e (by omega), Kg e (by omega)]
    · rw [fx ix (by omega), o0 271 (by decide), Fg.1 271 (by decide)]
    · rw [fr 270 (by decide) (by decide), o5, Fg.1 270 (by decide)]
    · rw [fr 274 (by decide) (by decide), o0 274 (by decide), Fg.1 274 (by decide)]
    · rw [fr 273 (by decide) (by decide), o0 273 (by decide), Fg.1 273 (by decide)]
  · rw [if_neg c] at r1
    have r2 := sy_M (x := x) hl em
    rw [if_neg c] at r2
    have r2 : tf_Rt 11 8 [.ref 270, .long x] h (.int (sy_ans x l)) (w1 h 270 0 0) := r2
    exact r1.sp ⟨⟨_, rfl⟩, r2.sp ⟨⟨_, rfl⟩, Z.nn (fun e h1 _ => w1_ne h1) (w1_at (by decide))⟩⟩
end RTS
