/-! ===== what lies below a point, and which edges lead out of it ===== -/
section VFS
variable {T T2 : LH} {n k : Nat}
/-- an edge has its two ends -/
theorem EG.two (n7 : n ≤ 7) (k14 : k ≤ 14) (A : ∀ a, a < k → rm T a 0 ≠ rm T a 1) {u v s w : Nat} {id : Int32} (hu : u < n) (hs : s < n) (E : EG T n k u v id) (F : EG T n k s w id) : (s = u ∧ w = v) ∨ (s = v ∧ w = u) := by
  rcases E with ⟨e1, e2, -⟩ | ⟨e1, a, ha, e2, -, e4⟩
  · rcases F with ⟨f1, f2, -⟩ | ⟨f1, b, hb, f2, -, -⟩
    · have : 100 + u = 100 + s := (nI_eq (by omega) (by omega)).mp (e2.symm.trans f2)
      exact Or.inl ⟨by omega, by omega⟩
    · have := (nI_eq (by omega) (by omega)).mp (e2.symm.trans f2)
      omega
  · rcases F with ⟨f1, f2, -⟩ | ⟨f1, b, hb, f2, -, f4⟩
    · have := (nI_eq (by omega) (by omega)).mp (e2.symm.trans f2)
      omega
    · have : a = b := (nI_eq (by omega) (by omega)).mp (e2.symm.trans f2)
      subst this
      rcases e4 with ⟨m1, m2⟩ | ⟨m1, m2⟩ <;> rcases f4 with ⟨m3, m4⟩ | ⟨m3, m4⟩
      · exact Or.inl ⟨(nI_eq (by omega) (by omega)).mp (m3.symm.trans m1), (nI_eq (by omega) (by omega)).mp (m4.symm.trans m2)⟩
      · exact Or.inr ⟨(nI_eq (by omega) (by omega)).mp (m3.symm.trans m2), (nI_eq (by omega) (by omega)).mp (m4.symm.trans m1)⟩
      · exact Or.inr ⟨(nI_eq (by omega) (by omega)).mp (m3.symm.trans m2), (nI_eq (by omega) (by omega)).mp (m4.symm.trans m1)⟩
      · exact Or.inl ⟨(nI_eq (by omega) (by omega)).mp (m3.symm.trans m1), (nI_eq (by omega) (by omega)).mp (m4.symm.trans m2)⟩
/-- an edge of the tree other than p's own doesn't lead out of what lies below p -/
theorem ob_edge (L : LT T n k) (S : TS T n k) (A : ∀ a, a < k → rm T a 0 ≠ rm T a 1) {u v p : Nat} {id : Int32} (hu : u < n) (E : EG T n k u v id) (ne : T.1 282 p ≠ id) : ob T p u = ob T p v := by
  have n7 := L.1.1.2.1
  have k14 := L.1.1.2.2
  obtain ⟨s, hs, es⟩ := S u v id hu E
  have F := (L.at hs).2.2.2.2.2
  rw [es] at F
  have sp : ¬ s = p := fun z => ne (by rw [← z]; exact es)
  have o := ob_s L (w := p) hs
  rw [decide_eq_false sp, Bool.false_or] at o
  rcases EG.two n7 k14 A hu hs E F with ⟨h1, h2⟩ | ⟨h1, h2⟩
  · rw [← h1, ← h2]
    exact o
  · rw [← h1, ← h2]
    exact o.symm
theorem ob_self (L : LT T n k) {p : Nat} (hp : p < n) : ob T p p = true := by
  rw [ob_s L hp, decide_eq_true rfl]
  rfl
theorem ob_root (L : LT T n k) {p : Nat} (hp : p < n) : ob T p n = false := by
  rw [ob_n L]
  exact decide_eq_false (by omega)
/-- along a walk whose edges don't lead out -/
theorem ob_walk {D : Nat → Bool} {ν : Nat → Nat} {e : Nat} : ∀ (f i : Nat), (∀ m, i ≤ m → m < i + f → m ≠ e → D (ν m) = D (ν (m + 1))) → (e < i ∨ i + f ≤ e) → D (ν i) = D (ν (i + f))
  | 0, _, _, _ => rfl
  | f + 1, i, s, h => by
    rw [s i (Nat.le_refl _) (by omega) (by omega), ob_walk f (i + 1) (fun m h1 h2 h3 => s m (by omega) (by omega) h3) (by omega), show i + 1 + f = i + (f + 1) by omega]
/-- the way up from w in T, when its edges don't lead out of D -/
theorem ob_up (L : LT T n k) {D : Nat → Bool} : ∀ (d w : Nat), w ≤ n → df T w ≤ d → (∀ j, j < df T w → D (tw T j w) = D (uf T (tw T j w))) → D w = D n
  | 0, w, hw, hd, _ => by
    have : w = n := (L.d0 hw).mp (by omega)
    rw [this]
  | d + 1, w, hw, hd, s => by
    rcases Nat.lt_or_ge w n with z | z
    · have u := L.up z
      have s0 := s 0 (by omega)
      have e0 : tw T 0 w = w := rfl
      rw [e0] at s0
      rw [s0]
      exact ob_up L d (uf T w) u.1 (by omega) (fun j hj => s (j + 1) (by omega))
    · have : w = n := by omega
      rw [this]
/-- which way the edges of the cycle hang afterwards: those before the one that leaves hang at their later point, those behind it at their earlier one -/
theorem cyc_side (L : LT T n k) (L2 : LT T2 n k) (S2 : TS T2 n k) (A2 : ∀ a, a < k → rm T2 a 0 ≠ rm T2 a 1) {c mm e p : Nat} {ids : Nat → Int32} {ν : Nat → Nat} (hc : ∀ m, m < c → m ≠ mm → (ν m < n ∧ EG T2 n k (ν m) (ν (m + 1)) (ids m)) ∨ (ν (m + 1) < n ∧ EG T2 n k (ν (m + 1)) (ν m) (ids m))) (inj : ∀ i j, i < c → j < c → ids i = ids j → i = j) (closed : ν 0 = ν c) (hmm : mm < c) (he : e < c) (hem : e ≠ mm) (hp : p < n) (ep : T2.1 282 p = ids e) (z0 : ob T2 p (ν 0) = false) : (e < mm → ν (e + 1) = p ∧ ν e = uf T2 p) ∧ (mm < e → ν e = p ∧ ν (e + 1) = uf T2 p) := by
  have n7 := L2.1.1.2.1
  have k14 := L2.1.1.2.2
  have st : ∀ m, m < c → m ≠ mm → m ≠ e → ob T2 p (ν m) = ob T2 p (ν (m + 1)) := by
    intro m h1 h2 h3
    have ne : T2.1 282 p ≠ ids m := fun z => h3 (inj m e h1 he (z.symm.trans ep))
    rcases hc m h1 h2 with ⟨q1, q2⟩ | ⟨q1, q2⟩
    · exact ob_edge L2 S2 A2 q1 q2 ne
    · exact (ob_edge L2 S2 A2 q1 q2 ne).symm
  have F := (L2.at hp).2.2.2.2.2
  rw [ep] at F
  have ends : (ν e = p ∧ ν (e + 1) = uf T2 p) ∨ (ν (e + 1) = p ∧ ν e = uf T2 p) := by
    rcases hc e he hem with ⟨q1, q2⟩ | ⟨q1, q2⟩
    · rcases EG.two n7 k14 A2 q1 hp q2 F with ⟨h1, h2⟩ | ⟨h1, h2⟩
      · exact Or.inl ⟨h1.symm, h2.symm⟩
      · exact Or.inr ⟨h1.symm, h2.symm⟩
    · rcases EG.two n7 k14 A2 q1 hp q2 F with ⟨h1, h2⟩ | ⟨h1, h2⟩
      · exact Or.inr ⟨h1.symm, h2.symm⟩
      · exact Or.inl ⟨h1.symm, h2.symm⟩
  have pp := ob_self L2 hp
  constructor
  · intro h
    have w := ob_walk (D := ob T2 p) (ν := ν) (e := mm) e 0 (fun m _ h2 h3 => st m (by omega) h3 (by omega)) (Or.inr (by omega))
    rw [Nat.zero_add, z0] at w
    rcases ends with ⟨h1, h2⟩ | h1
    · rw [h1, pp] at w
      cases w
    · exact h1
  · intro h
    have w := ob_walk (D := ob T2 p) (ν := ν) (e := mm) (c - (e + 1)) (e + 1) (fun m h1 h2 h3 => st m (by omega) h3 (by omega)) (Or.inl (by omega))
    rw [show e + 1 + (c - (e + 1)) = c by omega, ← closed, z0] at w
    rcases ends with h1 | ⟨h1, h2⟩
    · exact h1
    · rw [h1, pp] at w
      cases w
end VFS
