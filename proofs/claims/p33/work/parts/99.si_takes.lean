/-! ===== a number is taken: the words of orders stay ===== -/
section SIT
variable {h : LH} {d : Nat}
theorem sr_takes {L b r k : Nat} {x lo hi : Int32} (T : TX h L b r) (hk : k < 4) (hx : x = nI k) : tf_Sp (d + 3) 13 [.ref 270, .int x, .int lo, .int hi] h (fun _ g => g.2 279 = h.2 279) := by
  intro Q q
  subst hx
  have ck : (nI k).toNatClampNeg = k := nI_clamp (by omega)
  have vk : vp_in (nI k) 4 := vi_of hk (by omega)
  refine en_X9_takes (by decide) (go_X9_takes_0 (by decide) ⟨fun _ => go_X9_takes_13 (by decide) ⟨vk, ?_⟩, fun _ => sx_fails (d := d + 1) _ (go_X9_takes_12 (by decide) ⟨rfl, q _ _ rfl⟩)⟩)
  rw [ck]
  have T1 : TX (w1 h 275 k (h.1 270 10)) L b r := T.o (by decide)
  have b1 : (w1 h 275 k (h.1 270 10)).1 270 10 = h.1 270 10 := by rw [w1_ne (by decide)]
  have l1 : (w1 h 275 k (h.1 270 10)).2 279 = h.2 279 := rfl
  show tf_Cd 298 (d + 2) _ [.int ((w1 h 275 k (h.1 270 10)).1 270 10), _, _] (w1 h 275 k (h.1 270 10)) _
  rw [b1]
  generalize w1 h 275 k (h.1 270 10) = g1 at T1 l1
  refine sx_in (d := d + 1) _ _ _ _ (go_X9_takes_32 (by decide) ⟨fun z => ?_, fun z => ?_⟩)
  · have t4 : g1.1 270 8 = nI b := T1.2.2.2.1
    have b4 : b ≤ 400 := by have := T1.1; have := T1.2.2.2.2.1; have := T1.2.2.2.2.2.1; omega
    refine sp_bad (d := d + 1) (by rw [t4]; exact nI_m1 (by omega)) _ (fun _ g2 p => go_X9_takes_43 (by decide) ⟨vk, ?_⟩)
    obtain ⟨v, hv, rfl⟩ := p
    rw [ck]
    have T3 : TX (w1 (w1 g1 270 13 v) 275 k lo) L b r := (T1.w (by omega)).o (by decide)
    exact go_X9_takes_50 (by decide) (T3.tol (d := d) _ (fun _ g3 p3 => go_X9_takes_54 (by decide) (q _ g3 (p3.1.2.trans l1))))
  · exact go_X9_takes_50 (by decide) (T1.tol (d := d) _ (fun _ g3 p3 => go_X9_takes_54 (by decide) (q _ g3 (p3.1.2.trans l1))))
end SIT
