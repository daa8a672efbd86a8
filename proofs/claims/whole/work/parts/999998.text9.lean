/-! texts: numbers, taking a token, a range of words -/
section
variable {L : Nat} {s : hh_Sv}
theorem re_isNumber_ok {T : Nat → Int} {n m i : Nat} {lo hi : Int} (h : CR s T n m i) (hl : 0 ≤ lo ∧ lo < 1000) (hh : 0 ≤ hi ∧ hi < 1000) : re_isNumber L lo hi s = ok L (zb (nOk T n (tP T n i) lo hi = true)) s := by
  have hq := h.q.1
  obtain ⟨a, b, c', d, e, f, g, k⟩ := h
  obtain ⟨t1, t2, t3⟩ := d i g
  have hin : (0 : Int) ≤ s 24 5 ∧ s 24 5 < 601 := by omega
  have ei : (s 24 5).toNat = i := by omega
  have e6 : w32 (s 26 (s 24 5).toNat) = tK T n (tP T n i) := by rw [ei, t1]; exact tK_w
  obtain ⟨r1, r2, r3⟩ := rn_bd (T := T) (n := n) (f := isD) (n - tP T n i) (tP T n i) (by omega)
  rw [re_isNumber_eq, if_pos hin]
  by_cases hk : tK T n (tP T n i) = 2
  · obtain ⟨k1, k2⟩ := tK_2.mp hk
    have hA : ¬ isA (T (tP T n i)) = true := fun z => by rw [isAD z] at k2; exact absurd k2 (by decide)
    have r4 := rn_bd (T := T) (n := n) (f := isD) (n - (tP T n i + 1)) (tP T n i + 1) (by omega)
    rw [← rn_go k1 k2] at r4
    have eC : tC T n (tP T n i) = nmx T n (tP T n i) := by unfold tC; rw [if_pos k1, if_neg hA, if_pos k2]
    have nb : ¬ 3 < rn T n isD (tP T n i) - tP T n i → 0 ≤ nv T (tP T n i) (rn T n isD (tP T n i) - tP T n i) ∧ nv T (tP T n i) (rn T n isD (tP T n i) - tP T n i) < 1000 := fun h3 => by
      have x1 := nv_bd (T := T) (q := tP T n i) (rn T n isD (tP T n i) - tP T n i) (fun j hj => r3 _ (by omega) (by omega))
      have x2 := p10 (rn T n isD (tP T n i) - tP T n i) (by omega)
      omega
    have e7 : w32 (s 27 (s 24 5).toNat) = nmx T n (tP T n i) := by
      rw [ei, t2, eC]
      unfold nmx
      split
      · exact w32_id (by decide) (by decide)
      · rename_i h3
        have := nb h3
        exact w32_id (by omega) (by omega)
    rw [if_pos (by rw [e6]; exact hk), if_pos hin, w32_id (i := lo) (by omega) (by omega), w32_id (i := hi) (by omega) (by omega)]
    by_cases h3 : 3 < rn T n isD (tP T n i) - tP T n i
    · have e8 : nmx T n (tP T n i) = -1 := if_pos h3
      rw [if_pos (by rw [e7, e8]; omega), re_isNumber_b1_eq, zb_0 (fun z => by have := (of_decide_eq_true z).1; omega)]
    · have e8 : nmx T n (tP T n i) = nv T (tP T n i) (rn T n isD (tP T n i) - tP T n i) := if_neg h3
      by_cases x1 : nv T (tP T n i) (rn T n isD (tP T n i) - tP T n i) < lo
      · rw [if_pos (by rw [e7, e8]; exact x1), re_isNumber_b1_eq, zb_0 (fun z => by have := (of_decide_eq_true z).2; omega)]
      · rw [if_neg (by rw [e7, e8]; exact x1), if_pos hin]
        by_cases x2 : hi < nv T (tP T n i) (rn T n isD (tP T n i) - tP T n i)
        · rw [if_pos (by rw [e7, e8]; exact x2), re_isNumber_b1_eq, zb_0 (fun z => by have := (of_decide_eq_true z).2; omega)]
        · rw [if_neg (by rw [e7, e8]; exact x2), zb_1 (show nOk T n (tP T n i) lo hi = true from decide_eq_true ⟨by omega, by omega, by omega⟩)]
  · have er : rn T n isD (tP T n i) = tP T n i := by
      by_cases hq : tP T n i < n
      · exact rn_no hq (fun z => hk (tK_2.mpr ⟨hq, z⟩))
      · exact rn_end (by omega)
    rw [if_neg (by rw [e6]; exact hk), re_isNumber_b1_eq, zb_0 (fun z => by have := (of_decide_eq_true z).1; omega)]
theorem re_take_ok {T : Nat → Int} {n m i : Nat} (h : CR s T n m i) (hi : i < m) : ∃ y, re_take L s = ok L (tC T n (tP T n i)) y ∧ (∀ a b, ¬ (a = 24 ∧ b = 5) → y a b = s a b) ∧ CR y T n m (i + 1) := by
  obtain ⟨a, b, c', d, e, f, g, k⟩ := h
  obtain ⟨t1, t2, t3⟩ := d i g
  have fr : ∀ x z, ¬ (x = 24 ∧ z = 5) → up s 24 5 (s 24 5 + 1) x z = s x z := fun x z hn => by unfold up; rw [if_neg hn]
  refine ⟨up s 24 5 (s 24 5 + 1), ?_, fr, a, b, c', fun j hj => ?_, e, by rw [up_s, f]; rfl, by omega, k⟩
  · rw [re_take_eq, if_pos (by omega), show (s 24 5 + 1 - 1).toNat = i by omega, t2]
  · unfold Tok
    rw [fr _ _ (by omega), fr _ _ (by omega), fr _ _ (by omega)]
    exact d j hj
end
