/-! ===== eight times what flows, and what the points below give: strictly within the bounds ===== -/
section VMP
variable {T : LH} {n k M : Nat}
/-- what the points below an arc send up by it -/
def sA (T : LH) (n b : Nat) : Int := fs (fun c => if T.1 282 c = nI b then (if tlv T b = c then subn T n c else -subn T n c) else 0) n
def sL (T : LH) (n p : Nat) : Int := if T.1 282 p = nI (100 + p) then subn T n p else 0
def phA (T : LH) (n b : Nat) : Int := 8 * (rm T b 4).toInt + sA T n b
def phL (T : LH) (n p : Nat) : Int := 8 * ((T.1 271 (58 + p)).toInt * (T.1 271 (65 + p)).toInt) + sL T n p
theorem fs_pick {f : Nat → Int} {q n : Nat} (hq : q < n) (z : ∀ c, c < n → c ≠ q → f c = 0) : fs f n = f q := by
  have e := fs_at (f := fun _ => 1) (q := q) (v := f q) n
  rw [if_pos hq, Int.one_mul] at e
  rw [← e]
  refine fs_c n (fun c hc => ?_)
  by_cases h : q = c
  · rw [if_pos h, h]
    omega
  · rw [if_neg h, z c hc (fun y => h y.symm)]
    rfl
/-- at an arc of the tree, by its lower point -/
theorem sA_at (L : LT T n k) {b c : Nat} (hc : c < n) (e : T.1 282 c = nI b) : sA T n b = if tlv T b = c then subn T n c else -subn T n c := by
  unfold sA
  rw [fs_pick (q := c) hc (fun d hd ne => by
    rw [if_neg (fun z => ne (by_inj L hd hc (z.trans e.symm)))]), if_pos e]
theorem sA_off {b : Nat} (no : ∀ c, c < n → T.1 282 c ≠ nI b) : sA T n b = 0 := by
  unfold sA
  rw [fs_c (g := fun _ => 0) n (fun c hc => by rw [if_neg (no c hc)]), fs_0]
theorem dv_lin {t u : Nat → Nat} {f g : Nat → Int} {p : Nat} {m : Int} : ∀ k, dv t u (fun a => m * f a + g a) k p = m * dv t u f k p + dv t u g k p
  | 0 => by
    unfold dv
    rw [fs, fs, fs]
    omega
  | k + 1 => by
    have ih := dv_lin (t := t) (u := u) (f := f) (g := g) (p := p) (m := m) k
    unfold dv at ih ⊢
    rw [fs, fs, fs, ih]
    by_cases z1 : t k = p <;> by_cases z2 : u k = p <;> simp only [z1, z2, if_true, if_false] <;> grind
/-- what goes out by arcs and by the loan: one for each point -/
theorem s_out (L : LT T n k) {p : Nat} (hp : p < n) : dv (tlv T) (hdv T) (sA T n) k p + sL T n p = 1 := by
  have n7 := L.1.1.2.1
  have k14 := L.1.1.2.2
  have e1 : dv (tlv T) (hdv T) (sA T n) k p = fs (fun c => fs (fun b => if T.1 282 c = nI b then ((if tlv T b = p then (if tlv T b = c then subn T n c else -subn T n c) else 0) - (if hdv T b = p then (if tlv T b = c then subn T n c else -subn T n c) else 0)) else 0) k) n := by
    rw [fs_swap (F := fun b c => if T.1 282 c = nI b then ((if tlv T b = p then (if tlv T b = c then subn T n c else -subn T n c) else 0) - (if hdv T b = p then (if tlv T b = c then subn T n c else -subn T n c) else 0)) else 0) (m := k) n]
    unfold dv
    refine fs_c k (fun b hb => ?_)
    have z : ∀ (P : Prop) [Decidable P], (if P then sA T n b else 0) = fs (fun c => if T.1 282 c = nI b then (if P then (if tlv T b = c then subn T n c else -subn T n c) else 0) else 0) n := by
      intro P _
      by_cases h : P
      · rw [if_pos h]
        unfold sA
        exact fs_c n (fun c _ => by rw [if_pos h])
      · rw [if_neg h, fs_c (g := fun _ => 0) n (fun c _ => by rw [if_neg h]; split <;> rfl), fs_0]
    rw [z (tlv T b = p), z (hdv T b = p), ← fs_sub]
    refine fs_c n (fun c _ => ?_)
    by_cases h : T.1 282 c = nI b
    · rw [if_pos h, if_pos h, if_pos h]
    · rw [if_neg h, if_neg h, if_neg h]
      rfl
  have e2 : sL T n p = fs (fun c => if T.1 282 c = nI (100 + c) then (if c = p then subn T n c else 0) else 0) n := by
    rw [fs_pick (q := p) hp (fun c hc ne => by rw [if_neg ne]; split <;> rfl)]
    unfold sL
    by_cases h : T.1 282 p = nI (100 + p)
    · rw [if_pos h, if_pos h, if_pos rfl]
    · rw [if_neg h, if_neg h]
  have e3 : subn T n p = fs (fun c => if c = p then subn T n c else 0) n := by
    rw [fs_pick (q := p) hp (fun c hc ne => by rw [if_neg ne]), if_pos rfl]
  rw [e1, e2, ← fs_add, ← subn_s L hp, e3, ← fs_sub]
  refine fs_c n (fun c hc => ?_)
  rcases (L.at hc).2.2.2.2.2 with ⟨f1, f2, -⟩ | ⟨f1, b, hb, f2, -, f4⟩
  · have z : fs (fun b => if T.1 282 c = nI b then ((if tlv T b = p then (if tlv T b = c then subn T n c else -subn T n c) else 0) - (if hdv T b = p then (if tlv T b = c then subn T n c else -subn T n c) else 0)) else 0) k = 0 := by
      rw [fs_c (g := fun _ => 0) k (fun b hb => by
        rw [if_neg (fun z => by
          have := (nI_eq (by omega) (by omega)).mp (f2.symm.trans z)
          omega)]), fs_0]
    rw [z, if_pos f2, if_neg (show ¬ uf T c = p by omega)]
    omega
  · have z := fs_pick (f := fun b => if T.1 282 c = nI b then ((if tlv T b = p then (if tlv T b = c then subn T n c else -subn T n c) else 0) - (if hdv T b = p then (if tlv T b = c then subn T n c else -subn T n c) else 0)) else 0) (q := b) (n := k) hb (fun d hd ne => by
      show (if T.1 282 c = nI d then _ else (0 : Int)) = 0
      rw [if_neg (fun z => ne ((nI_eq (by omega) (by omega)).mp (z.symm.trans f2)))])
    rw [z]
    show (if T.1 282 c = nI b then _ else (0 : Int)) + _ = _
    rw [if_pos f2, if_neg (show ¬ T.1 282 c = nI (100 + c) from fun z => by
      have := (nI_eq (by omega) (by omega)).mp (f2.symm.trans z)
      omega)]
    obtain ⟨t1, t2, t3, t4⟩ := L.1.te hb
    have dn := L.up hc
    rw [t1, t2] at f4
    have ne : uf T c ≠ c := fun z => by rw [z] at dn; omega
    rcases f4 with ⟨m1, m2⟩ | ⟨m1, m2⟩
    · have u1 : tlv T b = c := (nI_eq (by omega) (by omega)).mp m1
      have u2 : hdv T b = uf T c := (nI_eq (by omega) (by omega)).mp m2
      rw [u1, u2, if_pos rfl]
      split <;> split <;> omega
    · have u1 : hdv T b = c := (nI_eq (by omega) (by omega)).mp m1
      have u2 : tlv T b = uf T c := (nI_eq (by omega) (by omega)).mp m2
      rw [u1, u2, if_neg ne]
      by_cases z1 : uf T c = p <;> by_cases z2 : c = p <;> simp only [z1, z2, if_true, if_false] <;> omega
end VMP
