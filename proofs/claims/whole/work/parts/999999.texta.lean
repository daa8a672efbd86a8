/-! texts: the class writes a step -/
section
variable {L : Nat} {s : hh_Sv}
theorem ru_write_ok {q j : Nat} {c : Int} (hq : ru_cell q) (hj : s q 3 = (j : Int)) (h3 : j < 300) : ∃ y, ru_write L q c s = ok L 0 y ∧ (∀ a b, ¬ (a = q ∧ b = 3) → ¬ (a = q + 4 ∧ b = j) → y a b = s a b) ∧ y q 3 = ((j + 1 : Nat) : Int) ∧ y (q + 4) j = c := by
  obtain ⟨⟨p4, p5, p6, p7⟩, ⟨k1, k2, k3, k4⟩, ⟨l1, l2, l3, l4⟩⟩ := ru_sh (L := L) hq
  have kq := ru_kd (L := L) hq
  have g := hq.ge
  refine ⟨up (up s (q + 4) j c) q 3 (up s (q + 4) j c q 3 + 1), ?_, fun a b h1 h2 => ?_, ?_, ?_⟩
  · rw [ru_write_eq, if_pos kq, hj, if_pos (by rw [w32_id (by omega) (by omega)]; omega), if_pos kq, if_pos kq, p7, if_pos k4, if_pos (by omega), l4, if_pos (by omega), if_pos kq, if_pos kq, if_pos (by omega), Int.toNat_natCast]
  · unfold up
    rw [if_neg h1, if_neg h2]
  · rw [up_s, up_k (by omega), hj]
    rfl
  · rw [up_k (by omega), up_s]
end
