/-! ===== how many points hang at or below one ===== -/
section VES
variable {T : LH} {n k : Nat}
def owb (T : LH) (w : Nat) : Nat → Nat → Bool
  | 0, q => decide (q = w)
  | f + 1, q => decide (q = w) || owb T w f (uf T q)
/-- w lies on the way up from q -/
def ob (T : LH) (w q : Nat) : Bool := owb T w (df T q) q
theorem ob_s (L : LT T n k) {w q : Nat} (hq : q < n) : ob T w q = (decide (q = w) || ob T w (uf T q)) := by
  unfold ob
  rw [(L.up hq).2, owb]
theorem ob_n (L : LT T n k) {w : Nat} : ob T w n = decide (n = w) := by
  unfold ob
  rw [(L.d0 (Nat.le_refl n)).mpr rfl, owb]
theorem owb_df (L : LT T n k) {w : Nat} (hw : w ≤ n) : ∀ (d q : Nat), q ≤ n → df T q ≤ d → ob T w q = true → df T w ≤ df T q
  | 0, q, hq, hd, e => by
    have : q = n := (L.d0 hq).mp (by omega)
    subst this
    rw [ob_n L] at e
    have := of_decide_eq_true e
    rw [this]
    exact Nat.le_refl _
  | d + 1, q, hq, hd, e => by
    rcases Nat.lt_or_ge q n with z | z
    · have u := L.up z
      rw [ob_s L z, Bool.or_eq_true] at e
      rcases e with e | e
      · have := of_decide_eq_true e
        rw [this]
        exact Nat.le_refl _
      · have := owb_df L hw d (uf T q) u.1 (by omega) e
        omega
    · have : q = n := by omega
      subst this
      rw [ob_n L] at e
      have := of_decide_eq_true e
      rw [this]
      exact Nat.le_refl _
theorem ob_ex (L : LT T n k) {q : Nat} (hq : q < n) : ob T q (uf T q) = false := by
  cases e : ob T q (uf T q) with
  | false => rfl
  | true =>
    have u := L.up hq
    have := owb_df L (Nat.le_of_lt hq) (df T (uf T q)) (uf T q) u.1 (Nat.le_refl _) e
    omega
def i01 (b : Bool) : Int := if b = true then 1 else 0
theorem i01_or {b c : Bool} (h : ¬ (b = true ∧ c = true)) : i01 (b || c) = i01 b + i01 c := by
  cases b <;> cases c <;> first | rfl | exact absurd ⟨rfl, rfl⟩ h
/-- how many points hang at or below w -/
def subn (T : LH) (n w : Nat) : Int := fs (fun q => i01 (ob T w q)) n
theorem way_tel (L : LT T n k) {p : Nat} (hp : p < n) : ∀ (d q : Nat), q ≤ n → df T q ≤ d → i01 (ob T p q) - fs (fun c => if uf T c = p then i01 (ob T c q) else 0) n = i01 (decide (q = p))
  | 0, q, hq, hd => by
    have : q = n := (L.d0 hq).mp (by omega)
    subst this
    have z : fs (fun c => if uf T c = p then i01 (ob T c q) else 0) q = 0 := by
      rw [fs_c (g := fun _ => 0) q (fun c hc => by
        rw [ob_n L, decide_eq_false (by omega)]
        split <;> rfl), fs_0]
    rw [z, ob_n L]
    omega
  | d + 1, q, hq, hd => by
    rcases Nat.lt_or_ge q n with z | z
    · have u := L.up z
      have ih := way_tel L hp d (uf T q) u.1 (by omega)
      have e1 : i01 (ob T p q) = i01 (decide (q = p)) + i01 (ob T p (uf T q)) := by
        rw [ob_s L z]
        refine i01_or (fun h => ?_)
        have := of_decide_eq_true h.1
        rw [← this, ob_ex L z] at h
        exact absurd h.2 Bool.false_ne_true
      have e2 : fs (fun c => if uf T c = p then i01 (ob T c q) else 0) n = fs (fun c => (if uf T c = p then (1 : Int) else 0) * (if q = c then 1 else 0)) n + fs (fun c => if uf T c = p then i01 (ob T c (uf T q)) else 0) n := by
        rw [← fs_add]
        refine fs_c n (fun c hc => ?_)
        by_cases h : uf T c = p
        · rw [if_pos h, if_pos h, if_pos h, Int.one_mul, ob_s L z, i01_or (fun h2 => ?_)]
          · unfold i01
            by_cases h3 : q = c
            · rw [if_pos (decide_eq_true h3), if_pos h3]
            · rw [if_neg (by rw [decide_eq_false h3]; decide), if_neg h3]
          · have := of_decide_eq_true h2.1
            rw [← this, ob_ex L z] at h2
            exact absurd h2.2 Bool.false_ne_true
        · rw [if_neg h, if_neg h, if_neg h]
          omega
      have e3 := fs_at (f := fun c => if uf T c = p then (1 : Int) else 0) (q := q) (v := 1) n
      rw [if_pos z] at e3
      have d1 : i01 (decide (uf T q = p)) = if uf T q = p then (1 : Int) else 0 := by
        unfold i01
        by_cases h : uf T q = p
        · rw [if_pos (decide_eq_true h), if_pos h]
        · rw [if_neg (by rw [decide_eq_false h]; decide), if_neg h]
      rw [d1] at ih
      rw [e1, e2, e3]
      omega
    · have : q = n := by omega
      subst this
      have z : fs (fun c => if uf T c = p then i01 (ob T c q) else 0) q = 0 := by
        rw [fs_c (g := fun _ => 0) q (fun c hc => by
          rw [ob_n L, decide_eq_false (by omega)]
          split <;> rfl), fs_0]
      rw [z, ob_n L]
      omega
theorem fs_swap {F : Nat → Nat → Int} {m : Nat} : ∀ n, fs (fun q => fs (fun c => F c q) m) n = fs (fun c => fs (fun q => F c q) n) m
  | 0 => by
    have : fs (fun c => fs (fun q => F c q) 0) m = 0 := fs_0 m
    rw [this]
    rfl
  | n + 1 => by
    rw [fs, fs_swap n, ← fs_add]
    rfl
theorem fs_one : ∀ n, fs (fun _ => 1) n = (n : Int)
  | 0 => rfl
  | n + 1 => by
    rw [fs, fs_one n]
    omega
/-- one more than hang below all that hang at it -/
theorem subn_s (L : LT T n k) {p : Nat} (hp : p < n) : subn T n p - fs (fun c => if uf T c = p then subn T n c else 0) n = 1 := by
  have e1 : fs (fun c => if uf T c = p then subn T n c else 0) n = fs (fun q => fs (fun c => if uf T c = p then i01 (ob T c q) else 0) n) n := by
    rw [fs_swap (F := fun c q => if uf T c = p then i01 (ob T c q) else 0) (m := n) n]
    refine fs_c n (fun c _ => ?_)
    unfold subn
    by_cases h : uf T c = p
    · rw [if_pos h]
      exact fs_c n (fun q _ => by rw [if_pos h])
    · rw [if_neg h, fs_c (g := fun _ => 0) n (fun q _ => by rw [if_neg h]), fs_0]
  have e2 : subn T n p - fs (fun q => fs (fun c => if uf T c = p then i01 (ob T c q) else 0) n) n = fs (fun q => i01 (decide (q = p))) n := by
    unfold subn
    rw [← fs_sub]
    exact fs_c n (fun q hq => way_tel L hp (df T q) q (Nat.le_of_lt hq) (Nat.le_refl _))
  have e3 := fs_at (f := fun _ => 1) (q := p) (v := 1) n
  rw [if_pos hp] at e3
  rw [e1, e2, fs_c (g := fun q => (1 : Int) * (if p = q then 1 else 0)) n (fun q _ => ?_), e3]
  · rfl
  · unfold i01
    by_cases h : q = p
    · rw [if_pos (decide_eq_true h), if_pos h.symm]
      rfl
    · rw [if_neg (by rw [decide_eq_false h]; decide), if_neg (fun z => h z.symm)]
      rfl
theorem i01_in (b : Bool) : 0 ≤ i01 b ∧ i01 b ≤ 1 := by
  cases b <;> decide
/-- at least itself, at most all -/
theorem subn_in (L : LT T n k) {p : Nat} (hp : p < n) : 1 ≤ subn T n p ∧ subn T n p ≤ (n : Int) := by
  constructor
  · have := fs_lt (b := p) (f := fun _ => 0) (g := fun q => i01 (ob T p q)) n (fun q _ => (i01_in _).1) hp (by
      show (0 : Int) + 1 ≤ i01 (ob T p p)
      rw [ob_s L hp, decide_eq_true rfl]
      cases ob T p (uf T p) <;> decide)
    rw [fs_0] at this
    exact this
  · rw [← fs_one]
    exact fs_le n (fun q _ => (i01_in _).2)
end VES
