/-! texts: the reference puts a step; a range of words -/
section
variable {L : Nat} {s : hh_Sv}
theorem md_puts_ok {j : Nat} {x y z : Int} (hj : s 242 14 = (j : Int)) (h : j < 5100) : ∃ u, md_puts L x y z s = ok L 0 u ∧ (∀ a b, ¬ (a = 242 ∧ b = 14) → ¬ (256 ≤ a ∧ a ≤ 258 ∧ b = j) → u a b = s a b) ∧ u 242 14 = ((j + 1 : Nat) : Int) ∧ u 256 j = x ∧ u 257 j = y ∧ u 258 j = z := by
  refine ⟨up (up (up (up s 256 j x) 257 j y) 258 j z) 242 14 ((j : Int) + 1), ?_, fun a b h1 h2 => ?_, up_s, ?_, ?_, ?_⟩
  · have hin : (0 : Int) ≤ (j : Int) ∧ (j : Int) < 5100 := by omega
    rw [md_puts_eq, hj, if_pos hin, if_pos hin, if_pos hin, Int.toNat_natCast]
  · unfold up
    rw [if_neg h1, if_neg (by omega), if_neg (by omega), if_neg (by omega)]
  · rw [up_k (by decide), up_k (by decide), up_k (by decide), up_s]
  · rw [up_k (by decide), up_k (by decide), up_s]
  · rw [up_k (by decide), up_s]
theorem re_isWordOf_ok {T : Nat → Int} {n m i : Nat} {lo hi : Int} (h : CR s T n m i) (hl : 0 ≤ lo ∧ lo < 21) (hh : 0 ≤ hi ∧ hi < 21) : re_isWordOf L lo hi s = ok L (zb ((tP T n i < n ∧ isA (T (tP T n i)) = true) ∧ lo ≤ wx T n (tP T n i) ∧ wx T n (tP T n i) ≤ hi)) s := by
  obtain ⟨a, b, c', d, e, f, g, k⟩ := h
  obtain ⟨t1, t2, t3⟩ := d i g
  have hin : (0 : Int) ≤ s 24 5 ∧ s 24 5 < 601 := by omega
  have ei : (s 24 5).toNat = i := by omega
  have e6 : w32 (s 26 (s 24 5).toNat) = tK T n (tP T n i) := by rw [ei, t1]; exact tK_w
  rw [re_isWordOf_eq, if_pos hin]
  by_cases hk : tK T n (tP T n i) = 1
  · obtain ⟨k1, k2⟩ := tK_1.mp hk
    have e7 : w32 (s 27 (s 24 5).toNat) = wx T n (tP T n i) := by
      have := wx_bd (T := T) (n := n) (q := tP T n i)
      rw [ei, t2]
      unfold tC
      rw [if_pos k1, if_pos k2]
      exact w32_id (by omega) (by omega)
    rw [if_pos (by rw [e6]; exact hk), if_pos hin, w32_id (i := lo) (by omega) (by omega), w32_id (i := hi) (by omega) (by omega)]
    by_cases x1 : wx T n (tP T n i) < lo
    · rw [if_pos (by rw [e7]; exact x1), re_isWordOf_b1_eq, zb_0 (by omega)]
    · rw [if_neg (by rw [e7]; exact x1), if_pos hin]
      by_cases x2 : hi < wx T n (tP T n i)
      · rw [if_pos (by rw [e7]; exact x2), re_isWordOf_b1_eq, zb_0 (by omega)]
      · rw [if_neg (by rw [e7]; exact x2), zb_1 ⟨⟨k1, k2⟩, by omega, by omega⟩]
  · rw [if_neg (by rw [e6]; exact hk), re_isWordOf_b1_eq, zb_0 (fun z => hk (tK_1.mpr z.1))]
end
