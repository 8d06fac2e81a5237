/-! ===== the text's tokens, told by themselves; the class finds them ===== -/
def px_ws (x : Int32) : Bool := decide (x = 32) || decide (x = 10)
/-- 1 word, 2 number, 3 stop, 4 none -/
def px_kd (x : Int32) : Int32 := if x < 97 ∨ 122 < x then (if x < 48 ∨ 57 < x then (if x = 59 then 3 else 4) else 2) else 1
def px_sk (c : Nat → Int32) : Nat → Nat → Nat
  | 0, a => a
  | f + 1, a => if px_ws (c a) = true then px_sk c f (a + 1) else a
def px_rn (c : Nat → Int32) (k : Int32) : Nat → Nat → Nat
  | 0, a => a
  | f + 1, a => if px_kd (c a) = k then px_rn c k f (a + 1) else a
/-- the place of the token that comes from a on -/
def px_p (c : Nat → Int32) (l a : Nat) : Nat := px_sk c (l - a) a
def px_k (c : Nat → Int32) (l p : Nat) : Int32 := if p < l then px_kd (c p) else 0
def px_e (c : Nat → Int32) (l p : Nat) : Nat := if px_k c l p = 1 ∨ px_k c l p = 2 then px_rn c (px_k c l p) (l - p) p else if px_k c l p = 3 then p + 1 else p
def px_t (c : Nat → Int32) (l p : Nat) : Int32 := if px_k c l p = 2 ∧ 2 < px_e c l p - p then 4 else px_k c l p
theorem px_sk_le {c : Nat → Int32} : ∀ (f a : Nat), a ≤ px_sk c f a ∧ px_sk c f a ≤ a + f
  | 0, a => by simp [px_sk]
  | f + 1, a => by
    have := px_sk_le (c := c) f (a + 1)
    unfold px_sk
    split <;> omega
theorem px_rn_le {c : Nat → Int32} {k : Int32} : ∀ (f a : Nat), a ≤ px_rn c k f a ∧ px_rn c k f a ≤ a + f
  | 0, a => by simp [px_rn]
  | f + 1, a => by
    have := px_rn_le (c := c) (k := k) f (a + 1)
    unfold px_rn
    split <;> omega
theorem px_p_le {c : Nat → Int32} {l a : Nat} (ha : a ≤ l) : a ≤ px_p c l a ∧ px_p c l a ≤ l := by
  have := px_sk_le (c := c) (l - a) a
  unfold px_p
  omega
theorem px_e_le {c : Nat → Int32} {l p : Nat} (hp : p ≤ l) : p ≤ px_e c l p ∧ px_e c l p ≤ l := by
  unfold px_e
  split
  · have := px_rn_le (c := c) (k := px_k c l p) (l - p) p
    omega
  · split
    · rename_i h3
      have : p < l := by
        rcases Nat.lt_or_ge p l with z | z
        · exact z
        · unfold px_k at h3
          rw [if_neg (by omega)] at h3
          exact absurd h3 (by decide)
      omega
    · omega
section SX1
variable {h g : LH} {d : Nat}
theorem sx_kind (x : Int32) : tf_Rt (d + 1) 226 [.int x] h (.int (px_kd x)) h := by
  intro Q q
  have k28 : (x < 97 ∨ 122 < x) → (x < 48 ∨ 57 < x) → lx_X4_kindOf d (tf_Cd 298 d) Q 28 [.int x] [] h := by
    intro c1 c2
    unfold px_kd at q
    rw [if_pos c1, if_pos c2] at q
    refine go_X4_kindOf_28 ⟨fun c => go_X4_kindOf_39 ?_, fun c => go_X4_kindOf_38 (go_X4_kindOf_39 ?_)⟩
    · rw [if_pos c] at q
      exact q
    · rw [if_neg c] at q
      exact q
  have k14 : (x < 97 ∨ 122 < x) → lx_X4_kindOf d (tf_Cd 298 d) Q 14 [.int x] [] h := by
    intro c1
    refine go_X4_kindOf_14 ⟨fun c => k28 c1 (Or.inl c), fun c => ⟨fun c2 => k28 c1 (Or.inr c2), fun c2 => ?_⟩⟩
    unfold px_kd at q
    rw [if_pos c1, if_neg (fun z => z.elim c c2)] at q
    exact q
  refine en_X4_kindOf (go_X4_kindOf_0 ⟨fun c => k14 (Or.inl c), fun c => ⟨fun c2 => k14 (Or.inr c2), fun c2 => ?_⟩⟩)
  unfold px_kd at q
  rw [if_neg (fun z => z.elim c c2)] at q
  exact q
/-- the token at hand -/
def PTk (g : LH) (t : Int32) (p e : Nat) : Prop := g.1 259 8 = t ∧ g.1 259 9 = nI p ∧ g.1 259 10 = nI e
theorem pf_end {tp te : Nat} {k : Int32} (e8 : h.1 259 8 = k) (e9 : h.1 259 9 = nI tp) (h1 : tp ≤ te) (h2 : te ≤ 400) {x3 : Value} {Q : tf_Q} (q : ∀ g, FK h g → PTk g (if k = 2 ∧ 2 < te - tp then 4 else k) tp te → Q tf_z g) : lx_X4_findToken d (tf_Cd 298 d) Q 133 [.ref 259, .ref 251, .int (nI te), x3] [] h := by
  have P1 : PTk (w1 h 259 10 (nI te)) k tp te := ⟨(w1_at (by decide)).trans e8, (w1_at (by decide)).trans e9, w1_eq⟩
  have P2 : PTk (w1 (w1 h 259 10 (nI te)) 259 8 4) 4 tp te := ⟨w1_eq, (w1_at (by decide)).trans P1.2.1, (w1_at (by decide)).trans P1.2.2⟩
  have es : (w1 h 259 10 (nI te)).1 259 10 - (w1 h 259 10 (nI te)).1 259 9 = nI (te - tp) := by rw [P1.2.2, P1.2.1, nI_sub h1]
  refine go_X4_findToken_133 k251 ⟨fun c => ⟨fun c2 => go_X4_findToken_164 k251 (q _ (FK.w (by decide)) ?_), fun c2 => go_X4_findToken_164 k251 (q _ ((FK.w (by decide)).tr (FK.w (by decide))) ?_)⟩, fun c => go_X4_findToken_164 k251 (q _ (FK.w (by decide)) ?_)⟩
  · have c2 : nI (te - tp) ≤ nI 2 := es ▸ c2
    have : te - tp ≤ 2 := (nI_leI (by omega) (by omega)).mp c2
    rw [if_neg (fun z => by omega)]
    exact P1
  · have c2 : ¬ nI (te - tp) ≤ nI 2 := es ▸ c2
    have : ¬ te - tp ≤ 2 := fun z => c2 ((nI_leI (by omega) (by omega)).mpr z)
    rw [if_pos ⟨P1.1.symm.trans c, by omega⟩]
    exact P2
  · rw [if_neg (fun z => c (P1.1.trans z.1))]
    exact P1
theorem pf_kind {tp l : Nat} (hl : l ≤ 400) (e1 : h.1 251 1 = nI l) {k : Int32} (e8 : h.1 259 8 = k) (e9 : h.1 259 9 = nI tp) {Q : tf_Q} : ∀ (f te : Nat), te + f = l → tp ≤ te → (∀ g, FK h g → PTk g (if k = 2 ∧ 2 < px_rn (h.1 252) k f te - tp then 4 else k) tp (px_rn (h.1 252) k f te) → Q tf_z g) → lx_X4_findToken (d + 1) (tf_Cd 298 (d + 1)) Q 92 [.ref 259, .ref 251, .int (nI te), .int k] [] h
  | 0, te, hf, h1, q => go_X4_findToken_92 k251 ⟨fun _ => go_X4_findToken_119 k251 (pf_end e8 e9 h1 (by omega) q), fun c => absurd (by rw [e1]; exact nI_le (by omega) (by omega)) c⟩
  | f + 1, te, hf, h1, q => by
    refine go_X4_findToken_92 k251 ⟨fun c => absurd (by rw [e1] at c; exact c) (nI_ge (by omega) (by omega)), fun _ => ⟨vi_of (by omega) (by omega), ?_⟩⟩
    rw [nI_clamp (by omega)]
    refine sx_kind (d := d) _ _ (go_X4_findToken_109 k251 ⟨fun c => ?_, fun c => go_X4_findToken_119 k251 (pf_end e8 e9 h1 (by omega) ?_)⟩)
    · rw [nI_1]
      unfold px_rn at q
      rw [if_pos c] at q
      exact pf_kind hl e1 e8 e9 f (te + 1) (by omega) (by omega) q
    · unfold px_rn at q
      rw [if_neg c] at q
      exact q
theorem pf_68 {tp l : Nat} (hl : l ≤ 400) (ht : tp ≤ l) (e1 : h.1 251 1 = nI l) (e9 : h.1 259 9 = nI tp) {Q : tf_Q} (q : ∀ g, FK h g → PTk g (px_t (h.1 252) l tp) tp (px_e (h.1 252) l tp) → Q tf_z g) : lx_X4_findToken (d + 1) (tf_Cd 298 (d + 1)) Q 68 [.ref 259, .ref 251, .int (nI tp), tf_z] [.int (px_k (h.1 252) l tp), .ref 259] h := by
  unfold px_t px_e at q
  have hy : px_k (h.1 252) l tp = 3 → tp < l := fun z => by
    rcases Nat.lt_or_ge tp l with y | y
    · exact y
    · unfold px_k at z
      rw [if_neg (by omega)] at z
      exact absurd z (by decide)
  generalize px_k (h.1 252) l tp = y at q hy
  have f1 : FK h (w1 h 259 8 y) := FK.w (by decide)
  have a1 : (w1 h 259 8 y).1 251 1 = nI l := by rw [w1_ne (by decide)]; exact e1
  have a2 : (w1 h 259 8 y).1 252 = h.1 252 := w1_ne (by decide)
  have a9 : (w1 h 259 8 y).1 259 9 = nI tp := by rw [w1_at (by decide)]; exact e9
  have a8 : (w1 h 259 8 y).1 259 8 = y := w1_eq
  have k87 : (y = 1 ∨ y = 2) → lx_X4_findToken (d + 1) (tf_Cd 298 (d + 1)) Q 87 [.ref 259, .ref 251, .int (nI tp), tf_z] [] (w1 h 259 8 y) := by
    intro hc
    refine go_X4_findToken_87 k251 ?_
    rw [a8]
    refine pf_kind hl a1 a8 a9 (l - tp) tp (by omega) (Nat.le_refl _) (fun g F P => q g (f1.tr F) ?_)
    rw [a2] at P
    rw [if_pos hc]
    exact P
  refine go_X4_findToken_68 k251 ⟨fun c => k87 (Or.inl (a8.symm.trans c)), fun c1 => ⟨fun c => k87 (Or.inr (a8.symm.trans c)), fun c2 => go_X4_findToken_122 k251 ⟨fun c => ?_, fun c => ?_⟩⟩⟩
  · have n1 : ¬ (y = 1 ∨ y = 2) := fun z => z.elim (fun z => c1 (a8.trans z)) (fun z => c2 (a8.trans z))
    have c3 : y = 3 := a8.symm.trans c
    have := hy c3
    rw [nI_1]
    refine pf_end a8 a9 (by omega) (by omega) (fun g F P => q g (f1.tr F) ?_)
    rw [if_neg n1, if_pos c3]
    exact P
  · have n1 : ¬ (y = 1 ∨ y = 2) := fun z => z.elim (fun z => c1 (a8.trans z)) (fun z => c2 (a8.trans z))
    refine pf_end a8 a9 (Nat.le_refl _) (by omega) (fun g F P => q g (f1.tr F) ?_)
    rw [if_neg n1, if_neg (fun z => c (a8.trans z))]
    exact P
theorem pf_41 {tp l : Nat} (hl : l ≤ 400) (ht : tp ≤ l) (e1 : h.1 251 1 = nI l) {Q : tf_Q} (q : ∀ g, FK h g → PTk g (px_t (h.1 252) l tp) tp (px_e (h.1 252) l tp) → Q tf_z g) : lx_X4_findToken (d + 1) (tf_Cd 298 (d + 1)) Q 41 [.ref 259, .ref 251, .int (nI tp), tf_z] [] h := by
  have f1 : FK h (w1 h 259 9 (nI tp)) := FK.w (by decide)
  have a1 : (w1 h 259 9 (nI tp)).1 251 1 = nI l := by rw [w1_ne (by decide)]; exact e1
  have a2 : (w1 h 259 9 (nI tp)).1 252 = h.1 252 := w1_ne (by decide)
  have k68 := pf_68 (d := d) (Q := Q) hl ht a1 (w1_eq) (fun g F P => q g (f1.tr F) (by rw [a2] at P; exact P))
  rw [a2] at k68
  refine go_X4_findToken_41 k251 ⟨fun c => go_X4_findToken_67 k251 ?_, fun c => ?_⟩
  · have e0 : px_k (h.1 252) l tp = 0 := by
      unfold px_k
      rw [if_neg (fun z => absurd (show (w1 h 259 9 (nI tp)).1 251 1 ≤ nI tp from c) (by rw [a1]; exact nI_ge z (by omega)))]
    rw [e0] at k68
    exact k68
  · have hlt : tp < l := by
      rcases Nat.lt_or_ge tp l with z | z
      · exact z
      · exact absurd (show (w1 h 259 9 (nI tp)).1 251 1 ≤ nI tp by rw [a1]; exact nI_le z (by omega)) c
    refine ⟨vi_of (by omega) (by omega), ?_⟩
    rw [nI_clamp (by omega)]
    refine sx_kind (d := d) _ _ (go_X4_findToken_64 k251 ?_)
    have e0 : px_k (h.1 252) l tp = px_kd ((w1 h 259 9 (nI tp)).1 252 tp) := by
      unfold px_k
      rw [if_pos hlt, a2]
    rw [e0] at k68
    exact k68
theorem pf_5 {l : Nat} (hl : l ≤ 400) (e1 : h.1 251 1 = nI l) {Q : tf_Q} : ∀ (f a : Nat), a + f = l → (∀ g, FK h g → PTk g (px_t (h.1 252) l (px_sk (h.1 252) f a)) (px_sk (h.1 252) f a) (px_e (h.1 252) l (px_sk (h.1 252) f a)) → Q tf_z g) → lx_X4_findToken (d + 1) (tf_Cd 298 (d + 1)) Q 5 [.ref 259, .ref 251, .int (nI a), tf_z] [] h
  | 0, a, hf, q => go_X4_findToken_5 k251 ⟨fun _ => pf_41 hl (by omega) e1 q, fun c => absurd (by rw [e1]; exact nI_le (by omega) (by omega)) c⟩
  | f + 1, a, hf, q => by
    have nx : px_ws (h.1 252 a) = true → lx_X4_findToken (d + 1) (tf_Cd 298 (d + 1)) Q 35 [.ref 259, .ref 251, .int (nI a), tf_z] [] h := by
      intro c
      refine go_X4_findToken_35 k251 ?_
      rw [nI_1]
      unfold px_sk at q
      rw [if_pos c] at q
      exact pf_5 hl e1 f (a + 1) (by omega) q
    refine go_X4_findToken_5 k251 ⟨fun c => absurd (by rw [e1] at c; exact c) (nI_ge (by omega) (by omega)), fun _ => ⟨vi_of (by omega) (by omega), fun c => nx ?_, fun c => ⟨vi_of (by omega) (by omega), fun c2 => nx ?_, fun c2 => pf_41 hl (by omega) e1 ?_⟩⟩⟩
    · rw [nI_clamp (by omega)] at c
      unfold px_ws
      rw [show h.1 252 a = 32 from c]
      rfl
    · rw [nI_clamp (by omega)] at c2
      unfold px_ws
      rw [show h.1 252 a = 10 from c2]
      rfl
    · rw [nI_clamp (by omega)] at c c2
      have nw : ¬ px_ws (h.1 252 a) = true := by
        unfold px_ws
        have c : ¬ h.1 252 a = 32 := c
        have c2 : ¬ h.1 252 a = 10 := c2
        simp [c, c2]
      unfold px_sk at q
      rw [if_neg nw] at q
      exact q
/-- findToken, told exactly -/
theorem sx_ft {l a : Nat} (hl : l ≤ 400) (e1 : h.1 251 1 = nI l) (ha : a ≤ l) (e10 : h.1 259 10 = nI a) : tf_Sp (d + 2) 225 [.ref 259, .ref 251] h (fun v g => v = tf_z ∧ FK h g ∧ PTk g (px_t (h.1 252) l (px_p (h.1 252) l a)) (px_p (h.1 252) l a) (px_e (h.1 252) l (px_p (h.1 252) l a))) := by
  intro Q q
  refine en_X4_findToken k251 (go_X4_findToken_0 k251 ?_)
  rw [e10]
  exact pf_5 hl e1 (l - a) a (by omega) (fun g F P => q _ g ⟨rfl, F, P⟩)
end SX1
