/-! ===== a pivot of the reference ===== -/
section RT5
variable {g : LH} {n k d : Nat}
theorem en_f_off (H : RM g n k) (S : RS g) : ∀ (f i : Nat) (b : Int32), i + f ≤ k → (b = -1 ∨ rf_off g b.toNatClampNeg = true) → (en_f g k f i b = -1 ∨ rf_off g (en_f g k f i b).toNatClampNeg = true)
  | 0, _, _, _, hb => hb
  | f + 1, i, b, hi, hb => by
    rw [en_f]
    refine en_f_off H S f (i + 1) _ (by omega) ?_
    split
    · rename_i c
      split
      · exact Or.inr c
      · split
        · split
          · exact hb
          · exact Or.inr c
        · exact hb
    · exact hb
def tn3 (g : LH) (a x y : Nat) : LH := fls (rlr (lc g a x y) (lc_n g x y) 0 1000000) (lc_n g x y) 0 (lc g a x y)
def tn4 (g3 : LH) (a : Nat) (id : Int32) : LH := if id = nI a then rp g3 a 5 (if rm g3 a 5 = 0 then 1 else 0) else go_o (rp g3 a 5 2) id
def tn5 (g : LH) (a x y m : Nat) : LH := ip (tn4 (tn3 g a x y) a ((lc g a x y).1 285 m)) (nI a) ((lc g a x y).1 285 m) (rlr (lc g a x y) (lc_n g x y) 0 1000000)
theorem sx_turns (H : RM g n k) (C : CP g n k) (S : RS g) (B : FB g k) : tf_Rt (d + 6) 49 [.ref 270] g (.int (-1)) (lt g n k) ∨ ∃ a x y m, a < k ∧ x < n ∧ y < n ∧ rf_off (lt g n k) a = true ∧ (if rm (lt g n k) a 5 = 0 then rm (lt g n k) a 0 else rm (lt g n k) a 1) = nI x ∧ (if rm (lt g n k) a 5 = 0 then rm (lt g n k) a 1 else rm (lt g n k) a 0) = nI y ∧ m < lc_n (lt g n k) x y ∧ lvx (lc (lt g n k) a x y) (rlr (lc (lt g n k) a x y) (lc_n (lt g n k) x y) 0 1000000) (lc_n (lt g n k) x y) 0 (-1) = nI m ∧ tf_Rt (d + 6) 49 [.ref 270] g (.int (nI a)) (tn5 (lt g n k) a x y m) := by
  have hn := H.1
  have s1 := sx_lt (d := d + 2) H
  have F := lt_fl (h := g) (n := n) (k := k)
  obtain ⟨TI1, al⟩ := lt_ok H C
  have H1 : RM (lt g n k) n k := H.fl F.r
  have T : LT (lt g n k) n k := ⟨H1, TI1, al⟩
  have S1 : RS (lt g n k) := by
    unfold RS
    rw [F.r]
    exact S
  have B1 : FB (lt g n k) k := by
    unfold FB rm
    rw [F.r]
    exact B
  generalize lt g n k = g1 at *
  have s2 := sx_en (d := d + 1) H1 S1
  by_cases c : en_f g1 k k 0 (-1) = -1
  · rw [c] at s2
    exact Or.inl (fun Q q => en_X9_turns (by decide) (go_X9_turns_0 (by decide) (s1 _ (go_X9_turns_4 (by decide) (s2 _ (go_X9_turns_8 (by decide) ⟨fun _ => q, fun z => absurd rfl z⟩))))))
  · obtain ⟨a, ha, ea⟩ := vi_nI ((en_f_in H1 S1 k 0 (-1) (by omega) (Or.inl rfl)).resolve_left c)
    have ho := (en_f_off H1 S1 k 0 (-1) (by omega) (Or.inl rfl)).resolve_left c
    rw [ea, nI_clamp (by omega)] at ho
    rw [ea] at s2
    have hxy : ∃ x y, x < n ∧ y < n ∧ (if rm g1 a 5 = 0 then rm g1 a 0 else rm g1 a 1) = nI x ∧ (if rm g1 a 5 = 0 then rm g1 a 1 else rm g1 a 0) = nI y := by
      obtain ⟨p, q, hp, hq, e1, e2⟩ := H1.ends ha
      by_cases z : rm g1 a 5 = 0
      · exact ⟨p, q, hp, hq, by rw [if_pos z]; exact e1, by rw [if_pos z]; exact e2⟩
      · exact ⟨q, p, hq, hp, by rw [if_neg z]; exact e2, by rw [if_neg z]; exact e1⟩
    obtain ⟨x, y, hx, hy, ex, ey⟩ := hxy
    have s3 := sx_lc (d := d) T ha hx hy ex ey
    obtain ⟨Y, -, -⟩ := lc_ok T ha (show x ≤ n by omega) (show y ≤ n by omega)
    have lst := lc_least T B1 ha (show x ≤ n by omega) (show y ≤ n by omega) ho
    have s4 := sx_rlr (d := d + 2) Y
    obtain ⟨m, hm, em, s5⟩ := sx_lv2 (d := d + 2) Y lst
    have V := Y.2.2 m hm
    have s6 := sx_fls (d := d + 3) Y (rlr (lc g1 a x y) (lc_n g1 x y) 0 1000000)
    refine Or.inr ⟨a, x, y, m, ha, hx, hy, ho, ex, ey, hm, em, fun Q q => ?_⟩
    unfold tn5 tn3 at q
    have h14 : a < 14 := by omega
    generalize hdl : rlr (lc g1 a x y) (lc_n g1 x y) 0 1000000 = dl at *
    generalize (lc g1 a x y).1 285 m = id at *
    generalize fls dl (lc_n g1 x y) 0 (lc g1 a x y) = g3 at *
    have e77 : ∀ g4 : LH, g4 = tn4 g3 a id → lx_X9_turns 298 (tf_Cd 298 (d + 5)) Q 77 [.ref 270, .int (nI a), .int dl, .int id] [] g4 := fun g4 e4 => by
      rw [e4]
      exact go_X9_turns_77 (by decide) (sx_ip (d := d + 3) (nI a) id dl _ (go_X9_turns_84 (by decide) q))
    have ne : ¬ nI a = -1 := nI_neg1 (by omega)
    refine en_X9_turns (by decide) (go_X9_turns_0 (by decide) (s1 _ (go_X9_turns_4 (by decide) (s2 _ (go_X9_turns_8 (by decide) ⟨fun z => absurd z ne, fun _ => go_X9_turns_16 (by decide) (s3 _ (go_X9_turns_21 (by decide) (s4 _ (go_X9_turns_25 (by decide) (s5 _ (go_X9_turns_31 (by decide) (s6 _ (go_X9_turns_37 (by decide) ⟨fun z => ?_, fun z => ?_⟩))))))))⟩)))))
    · refine sx_of (d := d + 4) a 5 rfl rfl h14 (by omega) _ (go_X9_turns_51 (by decide) ⟨fun w => go_X9_turns_59 (by decide) (sx_puts (d := d + 4) a 5 _ rfl rfl h14 (by omega) _ (go_X9_turns_62 (by decide) (e77 _ ?_))), fun w => go_X9_turns_58 (by decide) (go_X9_turns_59 (by decide) (sx_puts (d := d + 4) a 5 _ rfl rfl h14 (by omega) _ (go_X9_turns_62 (by decide) (e77 _ ?_))))⟩)
      · unfold tn4
        rw [if_pos z, if_pos w]
      · unfold tn4
        rw [if_pos z, if_neg w]
    · refine go_X9_turns_65 (by decide) (sx_puts (d := d + 4) a 5 _ rfl rfl h14 (by omega) _ (go_X9_turns_72 (by decide) (sx_go_o (d := d + 3) V _ (e77 _ ?_))))
      unfold tn4
      rw [if_neg z]
end RT5
