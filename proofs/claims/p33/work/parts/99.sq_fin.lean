/-! ===== what holds between rounds: the same at a heap that reads the same ===== -/
section SQF
variable {h g : LH} {t : Nat}
theorem NZ.ext (Z : NZ h t) (e : g.1 = h.1) : NZ g t := by
  obtain ⟨N, U, I⟩ := Z
  obtain ⟨tt, u, h1, h2, h3, h4, h5, h6⟩ := id U
  exact ⟨(N.cl (fun o ho => by rw [e])).rw (fun i hi => by rw [e]), U.no h3 h1 (by rw [e]) (by rw [e]) (fun q _ _ _ => by rw [e]) (by rw [e]) (by rw [e]), I.same (fun q _ _ => by rw [e]) (by rw [e]) (fun ix _ _ => by rw [e])⟩
theorem IZ.ext (I : IZ h t) (e : g.1 = h.1) : IZ g t := ⟨I.1.ext e, I.2.ext e⟩
theorem IZ.up {t2 : Nat} (I : IZ h t) (ht : t ≤ t2) : IZ h t2 := ⟨I.1.up ht, I.2.up ht⟩
end SQF
