/-! ===== words, numbers, lines of the text; the class reads them ===== -/
/-- word i from place p on -/
def px_mt (c : Nat → Int32) (p i : Nat) : Nat → Nat → Bool
  | 0, _ => true
  | f + 1, j => decide (tv_ch i j = c (p + j)) && px_mt c p i f (j + 1)
def px_is (c : Nat → Int32) (p e i : Nat) : Bool := decide (tv_len.getD i 0 = e - p) && px_mt c p i (tv_len.getD i 0) 0
/-- how many numbers verb i takes: -1, no such verb here -/
def px_ar (o : Int32) (i : Nat) : Int32 := if o = 0 then tv_g.getD i 0 else tv_o.getD i 0
def px_vb (c : Nat → Int32) (o : Int32) (p e : Nat) : Nat → Nat → Option Nat
  | 0, _ => none
  | f + 1, i => if px_ar o i ≠ -1 ∧ px_is c p e i = true then some i else px_vb c o p e f (i + 1)
def px_vv : Option Nat → Value
  | some i => .ref (400 + i)
  | none => .null
def px_nm (c : Nat → Int32) : Nat → Nat → Int32 → Int32
  | 0, _, x => x
  | f + 1, a, x => px_nm c f (a + 1) (((x * 10) + c a) - 48)
theorem px_vb_lt {c : Nat → Int32} {o : Int32} {p e v : Nat} : ∀ (f i : Nat), i + f = 15 → px_vb c o p e f i = some v → v < 15 ∧ px_ar o v ≠ -1 ∧ px_is c p e v = true
  | 0, i, _, q => by cases q
  | f + 1, i, hf, q => by
    unfold px_vb at q
    split at q
    · rename_i hc
      cases q
      exact ⟨by omega, hc⟩
    · exact px_vb_lt f (i + 1) (by omega) q
section SX2
variable {h g : LH} {d : Nat}
theorem pi_L {i tp : Nat} (hi : i < 15) (e9 : h.1 259 9 = nI tp) (hle : tp + tv_len.getD i 0 ≤ 400) {Q : tf_Q} : ∀ (f k : Nat), k + f = tv_len.getD i 0 → Q (.int (bI (px_mt (h.1 252) tp i f k))) h → lx_X4_isHere (d + 3) (tf_Cd 298 (d + 3)) Q 20 [.ref 259, .ref 251, .ref (430 + i), .int (nI k)] [] h
  | 0, k, hf, q => go_X4_isHere_20 (by omega) (by omega) k251 ⟨hi, go_X4_isHere_25 (by omega) (by omega) k251 ⟨fun _ => go_X4_isHere_55 (by omega) (by omega) k251 q, fun c => absurd (nI_le (by omega) (by omega)) c⟩⟩
  | f + 1, k, hf, q => by
    refine go_X4_isHere_20 (by omega) (by omega) k251 ⟨hi, go_X4_isHere_25 (by omega) (by omega) k251 ⟨fun c => absurd c (nI_ge (by omega) (by omega)), fun _ => ⟨⟨hi, vi_of (by omega) (by omega)⟩, go_X4_isHere_33 (by omega) (by omega) k251 ⟨?_, fun c => go_X4_isHere_49 (by omega) (by omega) k251 ?_, fun c => ?_⟩⟩⟩⟩
    · rw [e9, nI_add]
      exact vi_of (by omega) (by omega)
    · rw [e9, nI_add, nI_clamp (by omega), nI_clamp (by omega)] at c
      have c : tv_ch i k = h.1 252 (tp + k) := c
      rw [nI_1]
      unfold px_mt at q
      rw [decide_eq_true c, Bool.true_and] at q
      exact pi_L hi e9 hle f (k + 1) (by omega) q
    · rw [e9, nI_add, nI_clamp (by omega), nI_clamp (by omega)] at c
      have c : ¬ tv_ch i k = h.1 252 (tp + k) := c
      unfold px_mt at q
      rw [decide_eq_false c, Bool.false_and] at q
      exact q
theorem sx_ih {i tp te : Nat} (hi : i < 15) (h1 : tp ≤ te) (h2 : te ≤ 400) (e9 : h.1 259 9 = nI tp) (e10 : h.1 259 10 = nI te) : tf_Rt (d + 4) 228 [.ref 259, .ref 251, .ref (430 + i)] h (.int (bI (px_is (h.1 252) tp te i))) h := by
  intro Q q
  have l8 := tv_c4 i hi
  unfold px_is at q
  refine en_X4_isHere k251 (go_X4_isHere_0 (by omega) (by omega) k251 ⟨hi, go_X4_isHere_4 (by omega) (by omega) k251 ⟨fun c => go_X4_isHere_18 (by omega) (by omega) k251 ?_, fun c => ?_⟩⟩)
  · rw [e9, e10, nI_sub h1, nI_eq (by omega) (by omega)] at c
    rw [decide_eq_true c, Bool.true_and] at q
    exact pi_L hi e9 (by omega) (tv_len.getD i 0) 0 (by omega) q
  · rw [e9, e10, nI_sub h1, nI_eq (by omega) (by omega)] at c
    rw [decide_eq_false c, Bool.false_and] at q
    exact q
theorem pb_L {tp te : Nat} (h1 : tp ≤ te) (h2 : te ≤ 400) (e9 : h.1 259 9 = nI tp) (e10 : h.1 259 10 = nI te) {x2 : Int32} {Q : tf_Q} : ∀ (f i : Nat) (x4 : Value), i + f = 15 → Q (px_vv (px_vb (h.1 252) x2 tp te f i)) h → lx_X4_verbHere (d + 4) (tf_Cd 298 (d + 4)) Q 2 [.ref 259, .ref 251, .int x2, .int (nI i), x4] [] h
  | 0, i, x4, hf, q => go_X4_verbHere_2 k251 ⟨fun _ => go_X4_verbHere_49 k251 q, fun c => absurd (show nI 15 ≤ nI i from nI_le (by omega) (by omega)) c⟩
  | f + 1, i, x4, hf, q => by
    refine go_X4_verbHere_2 k251 ⟨fun c => absurd (show nI 15 ≤ nI i from c) (nI_ge (by omega) (by omega)), fun _ => ⟨vi_of (by omega) (by omega), ?_⟩⟩
    rw [nI_clamp (by omega)]
    have h15 : i < 15 := by omega
    have nx : ¬ (px_ar x2 i ≠ -1 ∧ px_is (h.1 252) tp te i = true) → lx_X4_verbHere (d + 4) (tf_Cd 298 (d + 4)) Q 43 [.ref 259, .ref 251, .int x2, .int (nI i), .ref (400 + i)] [] h := by
      intro c
      refine go_X4_verbHere_43 k251 ?_
      rw [nI_1]
      unfold px_vb at q
      rw [if_neg c] at q
      exact pb_L h1 h2 e9 e10 f (i + 1) _ (by omega) q
    refine go_X4_verbHere_23 k251 ⟨fun c => nx (fun z => z.1 c), fun c => ⟨h15, sx_ih h15 h1 h2 e9 e10 _ (go_X4_verbHere_37 k251 ⟨fun c2 => nx (fun z => ?_), fun c2 => ?_⟩)⟩⟩
    · rw [bI_0, z.2] at c2
      exact absurd c2 (by decide)
    · rw [bI_0, Bool.not_eq_false] at c2
      unfold px_vb at q
      rw [if_pos ⟨c, c2⟩] at q
      exact q
theorem sx_vh {tp te : Nat} (h1 : tp ≤ te) (h2 : te ≤ 400) (e9 : h.1 259 9 = nI tp) (e10 : h.1 259 10 = nI te) (x2 : Int32) : tf_Rt (d + 5) 227 [.ref 259, .ref 251, .int x2] h (px_vv (px_vb (h.1 252) x2 tp te 15 0)) h := fun Q q => en_X4_verbHere k251 (go_X4_verbHere_0 k251 (pb_L h1 h2 e9 e10 15 0 _ (by omega) q))
theorem pn_L {te : Nat} (h2 : te ≤ 400) (e10 : h.1 259 10 = nI te) {Q : tf_Q} : ∀ (f a : Nat) (x : Int32), a + f = te → Q (.int (px_nm (h.1 252) f a x)) h → lx_X4_numberHere d (tf_Cd 298 d) Q 7 [.ref 259, .ref 251, .int x, .int (nI a)] [] h
  | 0, a, x, hf, q => go_X4_numberHere_7 k251 ⟨fun _ => go_X4_numberHere_36 k251 q, fun c => absurd (by rw [e10]; exact nI_le (by omega) (by omega)) c⟩
  | f + 1, a, x, hf, q => by
    refine go_X4_numberHere_7 k251 ⟨fun c => absurd (by rw [e10] at c; exact c) (nI_ge (by omega) (by omega)), fun _ => ⟨vi_of (by omega) (by omega), ?_⟩⟩
    rw [nI_1, nI_clamp (by omega)]
    exact pn_L h2 e10 f (a + 1) _ (by omega) q
theorem sx_nh {tp te : Nat} (h1 : tp ≤ te) (h2 : te ≤ 400) (e9 : h.1 259 9 = nI tp) (e10 : h.1 259 10 = nI te) : tf_Rt (d + 1) 229 [.ref 259, .ref 251] h (.int (px_nm (h.1 252) (te - tp) tp 0)) h := by
  intro Q q
  refine en_X4_numberHere k251 (go_X4_numberHere_0 k251 ?_)
  rw [e9]
  exact pn_L h2 e10 (te - tp) tp 0 (by omega) q
end SX2
