/-! ways to choose, in both -/
theorem bin_0 (n : Nat) : bin n 0 = 1 := by cases n <;> rfl
theorem bin_s (n k : Nat) : bin (n + 1) (k + 1) = bin n k + bin n (k + 1) := rfl
theorem bin_gt : ∀ (n k : Nat), n < k → bin n k = 0
  | 0, 0, h => by omega
  | 0, k + 1, _ => rfl
  | n + 1, 0, h => by omega
  | n + 1, k + 1, h => by rw [bin_s, bin_gt n k (by omega), bin_gt n (k + 1) (by omega)]
theorem bin_self : ∀ n : Nat, bin n n = 1
  | 0 => rfl
  | n + 1 => by rw [bin_s, bin_self n, bin_gt n (n + 1) (by omega)]
theorem bin_mul : ∀ (n k : Nat), bin n (k + 1) * (k + 1) = bin n k * (n - k)
  | 0, k => by
    rw [Nat.zero_sub, Nat.mul_zero, bin_gt 0 (k + 1) (by omega), Nat.zero_mul]
  | n + 1, 0 => by
    have ih := bin_mul n 0
    rw [bin_0] at ih
    rw [bin_s, bin_0, bin_0]
    omega
  | n + 1, k + 1 => by
    have i1 := bin_mul n k
    have i2 := bin_mul n (k + 1)
    rw [bin_s n (k + 1), bin_s n k, Nat.add_mul, i2, show n + 1 - (k + 1) = n - k by omega, Nat.add_mul, ← i1, ← Nat.mul_add, ← Nat.mul_add]
    by_cases e : k + 1 ≤ n
    · rw [show k + 1 + 1 + (n - (k + 1)) = k + 1 + (n - k) by omega]
    · rw [bin_gt n (k + 1) (by omega), Nat.zero_mul, Nat.zero_mul]
theorem bin_mono (n k : Nat) : bin n k ≤ bin (n + 1) k := by
  cases k with
  | zero => rw [bin_0, bin_0]; exact Nat.le_refl _
  | succ k => rw [bin_s]; omega
theorem bin_le {n m k : Nat} (h : n ≤ m) : bin n k ≤ bin m k := by
  induction m with
  | zero => rw [show n = 0 by omega]; exact Nat.le_refl _
  | succ m ih =>
    by_cases e : n = m + 1
    · rw [e]; exact Nat.le_refl _
    · exact Nat.le_trans (ih (by omega)) (bin_mono m k)
/-- the ways out of sixty, reckoned quickly -/
def b60 : Nat → Nat
  | 0 => 1
  | k + 1 => b60 k * (60 - k) / (k + 1)
theorem b60_eq : ∀ k, bin 60 k = b60 k
  | 0 => rfl
  | k + 1 => by
    rw [b60, ← b60_eq k, ← bin_mul, Nat.mul_div_cancel _ (Nat.succ_pos k)]
theorem b60_le : ∀ k, k < 61 → b60 k ≤ 118264581564861424 := by decide +kernel
theorem bin_bd {n k : Nat} (h : n ≤ 60) : bin n k ≤ 118264581564861424 := by
  by_cases e : k ≤ n
  · have h1 := bin_le (k := k) h
    rw [b60_eq] at h1
    have := b60_le k (by omega)
    omega
  · rw [bin_gt n k (by omega)]
    omega
theorem bin_pos : ∀ {n k : Nat}, k ≤ n → 1 ≤ bin n k
  | n, 0, _ => by rw [bin_0]; exact Nat.le_refl _
  | 0, k + 1, h => by omega
  | n + 1, k + 1, h => by
    rw [bin_s]
    have := bin_pos (n := n) (k := k) (by omega)
    omega
section
variable {L : Nat} {s : hh_Sv}
theorem hx_choose_ok {n k : Nat} (hn : n ≤ 60) (hk : k ≤ 2000) : hx_choose L (n : Int) (k : Int) s = ok L ((bin n k : Nat) : Int) s := by
  rw [hx_choose_eq, w32_id (i := (k : Int)) (by omega) (by omega), w32_id (i := (n : Int)) (by omega) (by omega), if_neg (by omega)]
  by_cases e : n < k
  · rw [if_pos (by omega), bin_gt n k e]
    rfl
  rw [if_neg (by omega)]
  have key : ∀ (j i : Nat), i + j = k → hx_choose_b3 L (n : Int) (k : Int) ((bin n i : Nat) : Int) (i : Int) s = ok L ((bin n k : Nat) : Int) s := by
    intro j
    induction j with
    | zero =>
      intro i e1
      rw [Nat.add_zero] at e1
      subst e1
      rw [hx_choose_b3_eq, if_neg (by omega)]
    | succ j ih =>
      intro i e1
      have hm := bin_mul n i
      have hb := bin_bd (n := n) (k := i + 1) hn
      have hb2 : bin n (i + 1) * (i + 1) ≤ 118264581564861424 * 60 := Nat.mul_le_mul hb (by omega)
      have e2 : ((bin n i : Nat) : Int) * ((n : Int) - (i : Int)) = ((bin n (i + 1) : Nat) : Int) * ((i : Int) + 1) := by
        rw [show (n : Int) - (i : Int) = ((n - i : Nat) : Int) by omega, show (i : Int) + 1 = ((i + 1 : Nat) : Int) by omega, ← Int.natCast_mul, ← Int.natCast_mul, hm]
      have e3 : ((bin n (i + 1) * (i + 1) : Nat) : Int) = ((bin n (i + 1) : Nat) : Int) * ((i : Int) + 1) := by rw [Int.natCast_mul]; rfl
      have hnn : (0 : Int) ≤ ((bin n (i + 1) : Nat) : Int) * ((i : Int) + 1) := Int.mul_nonneg (by omega) (by omega)
      rw [hx_choose_b3_eq, if_pos (by rw [w32_id (by omega) (by omega), w32_id (by omega) (by omega)]; omega), w32_id (i := (i : Int) + 1) (by omega) (by omega), w64_id (i := (i : Int) + 1) (by omega) (by omega), if_neg (by omega), w32_id (i := (n : Int) - (i : Int)) (by omega) (by omega), e2, w64_id (i := ((bin n (i + 1) : Nat) : Int) * ((i : Int) + 1)) (by omega) (by omega), tDiv_nn hnn (by omega), Int.mul_ediv_cancel _ (show (i : Int) + 1 ≠ 0 by omega)]
      exact ih (i + 1) (by omega)
  have k0 := key k 0 (by omega)
  rw [bin_0] at k0
  exact k0
theorem md_choose_ok {n k : Nat} (hH : iv_H s) (hn : n ≤ 60) (hk : k ≤ 2000) : ∃ u, md_choose L (n : Int) (k : Int) s = ok L ((bin n k : Nat) : Int) u ∧ (∀ a b, a ≠ 268 → ¬ (a = 242 ∧ b = 50) → u a b = s a b) ∧ iv_H u := by
  have fin : ∀ t : hh_Sv, (∀ a b, a ≠ 268 → ¬ (a = 242 ∧ b = 50) → t a b = s a b) → (∀ i j, i < 61 → j ≤ i → t 268 (64 * i + j) = (bin i j : Nat)) → ∃ u, md_choose_b7 L (n : Int) (k : Int) t = ok L ((bin n k : Nat) : Int) u ∧ (∀ a b, a ≠ 268 → ¬ (a = 242 ∧ b = 50) → u a b = s a b) ∧ iv_H u := by
    intro t g hb
    refine ⟨up t 242 50 1, ?_, fun a b h1 h2 => ?_, Or.inr ⟨up_s, fun i j h1 h2 => ?_⟩⟩
    · rw [md_choose_b7_eq, w32_id (i := (k : Int)) (by omega) (by omega), w32_id (i := (n : Int)) (by omega) (by omega), if_neg (by omega)]
      by_cases e : n < k
      · rw [if_pos (by omega), bin_gt n k e]
        rfl
      · rw [if_neg (by omega), if_pos (by omega), show (64 * (n : Int) + (k : Int)).toNat = 64 * n + k by omega, hb n k (by omega) (by omega)]
    · unfold up
      rw [if_neg h2]
      exact g a b h1 h2
    · rw [up_k (by decide)]
      exact hb i j h1 h2
  rw [md_choose_eq]
  rcases hH with h0 | ⟨h1, h2⟩
  · have key : ∀ (m : Nat), ∀ (i j : Nat) (t : hh_Sv), (61 - i) * 100 + (61 - j) = m → i < 61 → j ≤ i + 1 → (∀ a b, a ≠ 268 → ¬ (a = 242 ∧ b = 50) → t a b = s a b) → t 242 50 = 0 → (∀ i' j', (i' < i ∨ (i' = i ∧ j' < j)) → j' ≤ i' → t 268 (64 * i' + j') = (bin i' j' : Nat)) → ∃ u, md_choose_b2 L (n : Int) (k : Int) (i : Int) (j : Int) t = ok L ((bin n k : Nat) : Int) u ∧ (∀ a b, a ≠ 268 → ¬ (a = 242 ∧ b = 50) → u a b = s a b) ∧ iv_H u := by
      intro m
      induction m using Nat.strongRecOn with
      | ind m ih =>
        intro i j t em hi hj g g50 hb
        rw [md_choose_b2_eq, w32_id (i := (i : Int)) (by omega) (by omega), w32_id (i := (j : Int)) (by omega) (by omega)]
        by_cases e : i < j
        · rw [if_pos (by omega), md_choose_b1_eq, w32_id (i := (i : Int) + 1) (by omega) (by omega), g50]
          by_cases e2 : i + 1 < 61
          · rw [if_pos (by omega), if_pos w32_0]
            exact ih ((61 - (i + 1)) * 100 + (61 - 0)) (by omega) (i + 1) 0 t rfl e2 (by omega) g g50 (fun i' j' h1 h2 => hb i' j' (by omega) h2)
          · rw [if_neg (by omega)]
            exact fin t g (fun i' j' h1 h2 => hb i' j' (by omega) h2)
        · rw [if_neg (by omega)]
          have b5 : ∀ v : Int, v = (bin i j : Nat) → ∃ u, md_choose_b5 L (n : Int) (k : Int) (i : Int) (j : Int) (64 * (i : Int) + (j : Int)) v t = ok L ((bin n k : Nat) : Int) u ∧ (∀ a b, a ≠ 268 → ¬ (a = 242 ∧ b = 50) → u a b = s a b) ∧ iv_H u := by
            intro v hv
            rw [md_choose_b5_eq, if_pos (by omega), show (64 * (i : Int) + (j : Int)).toNat = 64 * i + j by omega]
            refine ih ((61 - i) * 100 + (61 - (j + 1))) (by omega) i (j + 1) _ rfl hi (by omega) (fun a b h1 h2 => ?_) ?_ (fun i' j' h1 h2 => ?_)
            · rw [up_k h1]
              exact g a b h1 h2
            · rw [up_k (by decide)]
              exact g50
            · by_cases e3 : i' = i ∧ j' = j
              · rw [e3.1, e3.2, up_s, hv]
              · rw [up_j (by omega)]
                exact hb i' j' (by omega) h2
          by_cases e1 : j = 0
          · subst e1
            rw [if_pos (by omega)]
            exact b5 1 (by rw [bin_0]; rfl)
          · rw [if_neg (by omega)]
            by_cases e2 : j = i
            · rw [if_pos (by omega)]
              exact b5 1 (by rw [e2, bin_self]; rfl)
            · rw [if_neg (by omega), if_pos (by omega), if_pos (by omega)]
              refine b5 _ ?_
              obtain ⟨i0, rfl⟩ : ∃ i0, i = i0 + 1 := ⟨i - 1, by omega⟩
              obtain ⟨j0, rfl⟩ : ∃ j0, j = j0 + 1 := ⟨j - 1, by omega⟩
              rw [show (64 * (((i0 + 1 : Nat) : Int) - 1) + ((j0 + 1 : Nat) : Int) - 1).toNat = 64 * i0 + j0 by omega, show (64 * (((i0 + 1 : Nat) : Int) - 1) + ((j0 + 1 : Nat) : Int)).toNat = 64 * i0 + (j0 + 1) by omega, hb i0 j0 (by omega) (by omega), hb i0 (j0 + 1) (by omega) (by omega), bin_s]
              omega
    rw [md_choose_b1_eq, if_pos (by rw [w32_0]; decide), h0, if_pos w32_0]
    exact key _ 0 0 s rfl (by decide) (by omega) (fun _ _ _ _ => rfl) h0 (fun i' j' h1 h2 => by omega)
  · rw [md_choose_b1_eq, if_pos (by rw [w32_0]; decide), h1, if_neg (by rw [w32_1]; decide)]
    exact fin s (fun _ _ _ _ => rfl) h2
end
