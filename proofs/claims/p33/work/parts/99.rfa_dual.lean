/-! ===== what flows cheapest: sums, prices, cuts ===== -/
section UAD
def fs (f : Nat → Int) : Nat → Int
  | 0 => 0
  | k + 1 => fs f k + f k
theorem fs_c {f g : Nat → Int} : ∀ k, (∀ a, a < k → f a = g a) → fs f k = fs g k
  | 0, _ => rfl
  | k + 1, e => by
    rw [fs, fs, fs_c k (fun a ha => e a (by omega)), e k (by omega)]
theorem fs_le {f g : Nat → Int} : ∀ k, (∀ a, a < k → f a ≤ g a) → fs f k ≤ fs g k
  | 0, _ => Int.le_refl _
  | k + 1, e => by
    have h1 := fs_le k (fun a ha => e a (by omega))
    have h2 := e k (by omega)
    rw [fs, fs]
    omega
theorem fs_0 : ∀ k, fs (fun _ => 0) k = 0
  | 0 => rfl
  | k + 1 => by rw [fs, fs_0 k]; rfl
theorem fs_add {f g : Nat → Int} : ∀ k, fs (fun a => f a + g a) k = fs f k + fs g k
  | 0 => rfl
  | k + 1 => by
    rw [fs, fs, fs, fs_add k]
    omega
theorem fs_sub {f g : Nat → Int} : ∀ k, fs (fun a => f a - g a) k = fs f k - fs g k
  | 0 => rfl
  | k + 1 => by
    rw [fs, fs, fs, fs_sub k]
    omega
theorem fs_mul {f : Nat → Int} {c : Int} : ∀ k, fs (fun a => c * f a) k = c * fs f k
  | 0 => (Int.mul_zero c).symm
  | k + 1 => by
    rw [fs, fs, fs_mul k]
    exact (Int.mul_add _ _ _).symm
/-- only one place counts -/
theorem fs_at {f : Nat → Int} {q : Nat} {v : Int} : ∀ n, fs (fun p => f p * (if q = p then v else 0)) n = if q < n then f q * v else 0
  | 0 => rfl
  | n + 1 => by
    rw [fs, fs_at n]
    by_cases e : q = n
    · rw [if_neg (by omega), if_pos e, if_pos (by omega), e]
      omega
    · rw [if_neg e, Int.mul_zero, Int.add_zero]
      by_cases c : q < n
      · rw [if_pos c, if_pos (by omega)]
      · rw [if_neg c, if_neg (by omega)]
/-- what goes out of p, less what comes in -/
def dv (t u : Nat → Nat) (f : Nat → Int) (k p : Nat) : Int := fs (fun a => (if t a = p then f a else 0) - (if u a = p then f a else 0)) k
/-- prices times what goes out: arc by arc -/
theorem dv_dual {t u : Nat → Nat} {f P : Nat → Int} {n : Nat} : ∀ k, (∀ a, a < k → t a < n ∧ u a < n) → fs (fun p => P p * dv t u f k p) n = fs (fun a => (P (t a) - P (u a)) * f a) k
  | 0, _ => by
    have : ∀ n, fs (fun p => P p * dv t u f 0 p) n = 0 := fun n => by
      rw [fs_c (g := fun _ => 0) n (fun a _ => by unfold dv; rw [fs, Int.mul_zero]), fs_0]
    exact this n
  | k + 1, e => by
    obtain ⟨h1, h2⟩ := e k (by omega)
    rw [fs, ← dv_dual k (fun a ha => e a (by omega))]
    have : ∀ p, P p * dv t u f (k + 1) p = P p * dv t u f k p + (P p * (if t k = p then f k else 0) - P p * (if u k = p then f k else 0)) := fun p => by
      rw [dv, fs, ← dv, Int.mul_add, Int.mul_sub]
    rw [fs_c n (fun p _ => this p), fs_add, fs_sub, fs_at, fs_at, if_pos h1, if_pos h2, ← Int.sub_mul]
/-- a plan: all bounds kept, all have what they want -/
def FEAS (t u : Nat → Nat) (cap sup : Nat → Int) (n k : Nat) (g : Nat → Int) : Prop := (∀ a, a < k → 0 ≤ g a ∧ g a ≤ cap a) ∧ ∀ p, p < n → dv t u g k p = sup p
theorem dual_le {t u : Nat → Nat} {cap sup c P f g : Nat → Int} {n k : Nat} (ends : ∀ a, a < k → t a < n ∧ u a < n) (hf : ∀ a, a < k → 0 ≤ f a ∧ f a ≤ cap a) (hw : ∀ a, a < k → (f a < cap a → 0 ≤ c a + P (t a) - P (u a)) ∧ (0 < f a → c a + P (t a) - P (u a) ≤ 0)) (G : FEAS t u cap sup n k g) : fs (fun a => c a * f a) k + fs (fun p => P p * dv t u f k p) n ≤ fs (fun a => c a * g a) k + fs (fun p => P p * sup p) n := by
  have e2 : fs (fun p => P p * sup p) n = fs (fun p => P p * dv t u g k p) n := fs_c n (fun p hp => by rw [G.2 p hp])
  rw [e2, dv_dual k ends, dv_dual k ends, ← fs_add, ← fs_add]
  refine fs_le k (fun a ha => ?_)
  obtain ⟨f1, f2⟩ := hf a ha
  obtain ⟨g1, g2⟩ := G.1 a ha
  obtain ⟨w1', w2'⟩ := hw a ha
  rw [← Int.add_mul, ← Int.add_mul]
  have e : c a + (P (t a) - P (u a)) = c a + P (t a) - P (u a) := by omega
  rw [e]
  generalize c a + P (t a) - P (u a) = w at *
  rcases Int.lt_trichotomy (f a) (g a) with h | h | h
  · exact Int.mul_le_mul_of_nonneg_left (by omega) (w1' (by omega))
  · rw [h]
    exact Int.le_refl _
  · exact Int.mul_le_mul_of_nonpos_left (w2' (by omega)) (by omega)
/-- the least cost of a plan; or none -/
def LVs (t u : Nat → Nat) (cap c sup : Nat → Int) (n k : Nat) (x : Int) : Prop := (∃ f, FEAS t u cap sup n k f ∧ x = fs (fun a => c a * f a) k ∧ ∀ g, FEAS t u cap sup n k g → x ≤ fs (fun a => c a * g a) k) ∨ (x = -1000000 ∧ ∀ g, ¬ FEAS t u cap sup n k g)
theorem LVs.uni {t u : Nat → Nat} {cap c sup : Nat → Int} {n k : Nat} {x y : Int} (X : LVs t u cap c sup n k x) (Y : LVs t u cap c sup n k y) : x = y := by
  rcases X with ⟨f, F, ef, lf⟩ | ⟨ex, nx⟩ <;> rcases Y with ⟨g, G, eg, lg⟩ | ⟨ey, ny⟩
  · have h1 := lf g G
    have h2 := lg f F
    omega
  · exact absurd F (ny f)
  · exact absurd G (nx g)
  · rw [ex, ey]
theorem LVs.c {t u t2 u2 : Nat → Nat} {cap c sup cap2 c2 sup2 : Nat → Int} {n k : Nat} {x : Int} (X : LVs t u cap c sup n k x) (ea : ∀ a, a < k → t2 a = t a ∧ u2 a = u a ∧ cap2 a = cap a ∧ c2 a = c a) (ep : ∀ p, p < n → sup2 p = sup p) : LVs t2 u2 cap2 c2 sup2 n k x := by
  have dve : ∀ g p, dv t2 u2 g k p = dv t u g k p := fun g p => fs_c k (fun a ha => by
    obtain ⟨h1, h2, -⟩ := ea a ha
    rw [h1, h2])
  have fe : ∀ g, FEAS t2 u2 cap2 sup2 n k g ↔ FEAS t u cap sup n k g := fun g => by
    constructor
    · intro G
      exact ⟨fun a ha => by rw [← (ea a ha).2.2.1]; exact G.1 a ha, fun p hp => by rw [← dve, ← ep p hp]; exact G.2 p hp⟩
    · intro G
      exact ⟨fun a ha => by rw [(ea a ha).2.2.1]; exact G.1 a ha, fun p hp => by rw [dve, ep p hp]; exact G.2 p hp⟩
  have ce : ∀ g : Nat → Int, fs (fun a => c2 a * g a) k = fs (fun a => c a * g a) k := fun g => fs_c k (fun a ha => by rw [(ea a ha).2.2.2])
  rcases X with ⟨f, F, ef, lf⟩ | ⟨ex, nx⟩
  · exact Or.inl ⟨f, (fe f).mpr F, by rw [ce]; exact ef, fun g G => by rw [ce]; exact lf g ((fe g).mp G)⟩
  · exact Or.inr ⟨ex, fun g G => nx g ((fe g).mp G)⟩
/-- prices show that it is the least -/
theorem lv_opt {t u : Nat → Nat} {cap c sup P f : Nat → Int} {n k : Nat} (ends : ∀ a, a < k → t a < n ∧ u a < n) (F : FEAS t u cap sup n k f) (hw : ∀ a, a < k → (f a < cap a → 0 ≤ c a + P (t a) - P (u a)) ∧ (0 < f a → c a + P (t a) - P (u a) ≤ 0)) : LVs t u cap c sup n k (fs (fun a => c a * f a) k) := by
  refine Or.inl ⟨f, F, rfl, fun g G => ?_⟩
  have := dual_le (c := c) (P := P) ends F.1 hw G
  have e : fs (fun p => P p * dv t u f k p) n = fs (fun p => P p * sup p) n := fs_c n (fun p hp => by rw [F.2 p hp])
  omega
/-- prices of cuts show that there is no plan -/
theorem lv_no {t u : Nat → Nat} {cap c sup P f : Nat → Int} {n k : Nat} (ends : ∀ a, a < k → t a < n ∧ u a < n) (hf : ∀ a, a < k → 0 ≤ f a ∧ f a ≤ cap a) (hw : ∀ a, a < k → (f a < cap a → 0 ≤ P (t a) - P (u a)) ∧ (0 < f a → P (t a) - P (u a) ≤ 0)) (more : fs (fun p => P p * sup p) n < fs (fun p => P p * dv t u f k p) n) : LVs t u cap c sup n k (-1000000) := by
  refine Or.inr ⟨rfl, fun g G => ?_⟩
  have := dual_le (c := fun _ => 0) (P := P) ends hf (fun a ha => by
    obtain ⟨h1, h2⟩ := hw a ha
    exact ⟨fun z => by have := h1 z; omega, fun z => by have := h2 z; omega⟩) G
  have z : ∀ x : Nat → Int, fs (fun a => 0 * x a) k = 0 := fun x => by
    rw [fs_c (g := fun _ => 0) k (fun a _ => Int.zero_mul _), fs_0]
  rw [z, z] at this
  omega
end UAD
