/-! a row's bits, as the reference looks at them; joined, season -/
theorem ob_bt {h o k : Nat} (ho : o = 0 ∨ o = 1) : (ob h o k = true) ↔ bt h k = o := by
  unfold ob
  rw [← tb_bt]
  rcases ho with rfl | rfl <;> cases h.testBit k <;> simp
section
variable {L : Nat} {s : hh_Sv}
theorem md_isOf_ok {h k : Nat} {b : Int} (hh : h < 16777216) (hb : b = (k : Int)) (hk : k < 32) : md_isOf L (h : Int) b s = ok L ((bt h k : Nat) : Int) s := by
  rw [md_isOf_eq, bit_at (by omega) hb hk]
/-- how many stand behind m as asked, and how many hits among them -/
def bhm (h o m : Nat) (n : Nat) : Nat := cnt (fun k => decide (m ≤ rl (ob h o) k)) n
def bhh (h o m : Nat) (n : Nat) : Nat := cnt (fun k => decide (m ≤ rl (ob h o) k) && h.testBit k) n
theorem md_behind_ok {h n o m : Nat} (hh : h < 16777216) (hn : n ≤ 24) (ho : o = 0 ∨ o = 1) (hm : m ≤ 5) : ∃ t, md_behind L (h : Int) (n : Int) (o : Int) (m : Int) s = ok L 0 t ∧ (∀ k j, ¬ (k = 242 ∧ (j = 40 ∨ j = 41)) → t k j = s k j) ∧ t 242 40 = (bhm h o m n : Nat) ∧ t 242 41 = (bhh h o m n : Nat) := by
  rw [md_behind_eq]
  have key : ∀ (j i : Nat) (u : hh_Sv), i + j = n → (∀ k j, ¬ (k = 242 ∧ (j = 40 ∨ j = 41)) → u k j = s k j) → u 242 40 = (bhm h o m i : Nat) → u 242 41 = (bhh h o m i : Nat) → ∃ t, md_behind_b1 L (h : Int) (n : Int) (o : Int) (m : Int) ((rl (ob h o) i : Nat) : Int) (i : Int) u = ok L 0 t ∧ (∀ k j, ¬ (k = 242 ∧ (j = 40 ∨ j = 41)) → t k j = s k j) ∧ t 242 40 = (bhm h o m n : Nat) ∧ t 242 41 = (bhh h o m n : Nat) := by
    intro j
    induction j with
    | zero =>
      intro i u e g p1 p2
      rw [Nat.add_zero] at e
      subst e
      refine ⟨u, ?_, g, p1, p2⟩
      rw [md_behind_b1_eq, if_neg (by omega)]
    | succ j ih =>
      intro i u e g p1 p2
      have hr := rl_le (f := ob h o) i
      have hb2 : ∀ v : hh_Sv, md_behind_b2 L (h : Int) (n : Int) (o : Int) (m : Int) ((rl (ob h o) i : Nat) : Int) (i : Int) v = md_behind_b1 L (h : Int) (n : Int) (o : Int) (m : Int) ((rl (ob h o) (i + 1) : Nat) : Int) ((i + 1 : Nat) : Int) v := by
        intro v
        rw [md_behind_b2_eq, md_isOf_ok hh rfl (by omega), ok_bind]
        dsimp only
        have hbt := bt_01 h i
        rw [w32_id (by omega) (by omega), w32_id (by omega) (by omega), rl]
        by_cases e1 : bt h i = o
        · rw [if_pos (by omega), if_pos ((ob_bt ho).mpr e1), md_behind_b4_eq]
          rfl
        · rw [if_neg (by omega), if_neg (fun q => e1 ((ob_bt ho).mp q)), md_behind_b4_eq]
          rfl
      rw [md_behind_b1_eq, if_pos (by rw [w32_id (by omega) (by omega), w32_id (by omega) (by omega)]; omega)]
      have em : bhm h o m (i + 1) = bhm h o m i + (decide (m ≤ rl (ob h o) i)).toNat := rfl
      have eh : bhh h o m (i + 1) = bhh h o m i + (decide (m ≤ rl (ob h o) i) && h.testBit i).toNat := rfl
      by_cases e1 : m ≤ rl (ob h o) i
      · rw [if_neg (by rw [w32_id (by omega) (by omega), w32_id (by omega) (by omega)]; omega), md_isOf_ok hh rfl (by omega), ok_bind]
        dsimp only
        rw [hb2]
        refine ih (i + 1) _ (by omega) (fun k j hk => ?_) ?_ ?_
        · by_cases ek : k = 242
          · subst ek
            rw [up_j (by omega), up_j (by omega)]
            exact g _ _ hk
          · rw [up_k ek, up_k ek]
            exact g _ _ hk
        · rw [up_j (by decide), up_s, p1, em, decide_eq_true e1]
          rfl
        · rw [up_s, p2, eh, decide_eq_true e1, Bool.true_and, tb_bt]
          omega
      · rw [if_pos (by rw [w32_id (by omega) (by omega), w32_id (by omega) (by omega)]; omega), hb2]
        refine ih (i + 1) u (by omega) g ?_ ?_
        · rw [p1, em, decide_eq_false e1]
          rfl
        · rw [p2, eh, decide_eq_false e1]
          rfl
  refine key n 0 (up (up s 242 40 0) 242 41 0) (by omega) (fun k j hk => ?_) ?_ ?_
  · by_cases ek : k = 242
    · subst ek
      rw [up_j (by omega), up_j (by omega)]
    · rw [up_k ek, up_k ek]
  · rw [up_j (by decide), up_s]
    rfl
  · rw [up_s]
    rfl
/-! behind, in the class -/
theorem bhb_pc {h n o m : Nat} (hh : h < 2 ^ n) (hn : n ≤ 24) : pcf 32 (bhb h n o m) = bhm h o m n := pcf_tb (by omega) (bhb_tb hh m)
theorem bhb_and {h n o m : Nat} (hh : h < 2 ^ n) (hn : n ≤ 24) : pcf 32 (bhb h n o m &&& h) = bhh h o m n := pcf_tb (n := n) (by omega) (fun k => by rw [Nat.testBit_and, bhb_tb hh m k, Bool.and_assoc])
theorem row_x (h : Inv s) {r : Nat} (hr : (r : Int) < s 242 3) : ∃ x n : Nat, s 245 r = (x : Int) ∧ s 12 r = (x : Int) ∧ s 244 r = (n : Int) ∧ s 11 r = (n : Int) ∧ n ≤ 24 ∧ x < 2 ^ n ∧ x < 16777216 := by
  obtain ⟨b1, b2, b3, b4, b5, b6, b7, b8, b9⟩ := h.row hr
  obtain ⟨x, x1, x2, x3⟩ := row_h h hr
  have b2 : s 11 r = s 244 r := b2
  refine ⟨x, (s 244 r).toNat, x1, x2, by omega, by omega, by omega, ?_, x3⟩
  have e2 := p2_c (s 244 r).toNat
  omega
theorem co_countBehindIn_ok {r o m : Nat} {w : Int} (h : Inv s) (hr : (r : Int) < s 242 3) (ho : o = 0 ∨ o = 1) (hm : m ≤ 5) (hw : I32 w) : co_countBehindIn L (r : Int) (o : Int) (m : Int) w s = ok L (if w = 0 then ((bhm (s 245 r).toNat o m (s 244 r).toNat : Nat) : Int) else ((bhh (s 245 r).toNat o m (s 244 r).toNat : Nat) : Int)) s := by
  obtain ⟨x, n, x1, x2, n1, n2, n3, n4, n5⟩ := row_x h hr
  have hR := h.R
  sorry
end
