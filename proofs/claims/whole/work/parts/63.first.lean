/-! ways to choose; all that holds between calls; it holds at the first -/
def bin : Nat → Nat → Nat
  | _, 0 => 1
  | 0, _ + 1 => 0
  | n + 1, k + 1 => bin n k + bin n (k + 1)
def iv_H (s : hh_Sv) : Prop := s 242 50 = 0 ∨ (s 242 50 = 1 ∧ ∀ i j, i < 61 → j ≤ i → s 268 (64 * i + j) = (bin i j : Nat))
def Inv (s : hh_Sv) : Prop := InvA s ∧ iv_H s
theorem in_a {o1 : Nat → Int} {a b : Nat} (h : 8 ≤ a) : in_s o1 a b = cm_lk in_u2 a b := by
  unfold in_s
  rw [if_neg (by omega)]
theorem in_c0 : cm_lk in_u2 9 0 = 0 ∧ cm_lk in_u2 9 1 = 0 ∧ cm_lk in_u2 9 2 = 1 ∧ cm_lk in_u2 242 2 = 0 ∧ cm_lk in_u2 242 3 = 0 ∧ cm_lk in_u2 242 4 = 1 ∧ cm_lk in_u2 8 2 = 0 ∧ cm_lk in_u2 242 70 = 0 ∧ cm_lk in_u2 8 5 = 18 ∧ cm_lk in_u2 8 7 = 0 ∧ cm_lk in_u2 242 16 = 0 ∧ cm_lk in_u2 24 0 = 0 ∧ cm_lk in_u2 242 10 = 0 ∧ cm_lk in_u2 8 9 = -1 ∧ cm_lk in_u2 242 17 = -1 ∧ cm_lk in_u2 242 50 = 0 := by decide +kernel
theorem in_c1 : ∀ t, t < 12 → cm_lk in_u2 16 t = 90 + 5 * (t : Int) := by decide +kernel
theorem in_c2 : ∀ t, t < 4 → cm_lk in_u2 17 t = 150 + 5 * (t : Int) := by decide +kernel
theorem in_c3 : ∀ t, t < 16 → ∀ j, j < 3 → cm_lk in_u2 (90 + 5 * t) j = 0 := by decide +kernel
theorem in_c4 : ∀ k, k < 4 → ∀ t, t < 16 → cm_lk in_u2 (248 + k) t = 0 := by decide +kernel
theorem in_c5 : ∀ k, k < 4 → ∀ t, t < 60 → cm_lk in_u2 (11 + k) t = 0 := by decide +kernel
theorem in_q (o1 : Nat → Int) : ∀ t, t < 16 → ru_q (in_s o1) t = 90 + 5 * t := by
  intro t ht
  unfold ru_q
  by_cases h : t < 12
  · rw [if_pos h, in_a (by decide), in_c1 t h]
    omega
  · rw [if_neg h, if_pos ht, in_a (by decide), in_c2 (t - 12) (by omega)]
    omega
theorem in_q16 (o1 : Nat → Int) : ru_q (in_s o1) 16 = 18 := by
  unfold ru_q
  rw [if_neg (by decide), if_neg (by decide), in_a (by decide), in_c0.2.2.2.2.2.2.2.2.1]
  rfl
theorem in_Inv (o1 : Nat → Int) : Inv (in_s o1) := by
  obtain ⟨z1, z2, z3, z4, z5, z6, z7, z8, z9, z10, z11, z12, z13, z14, z15, z16⟩ := in_c0
  have g : ∀ {a b : Nat}, 8 ≤ a → in_s o1 a b = cm_lk in_u2 a b := fun h => in_a h
  refine ⟨⟨⟨fun j _ => rfl, fun j _ => rfl⟩, ?_, ?_, ?_, ?_, ?_⟩, Or.inl (by rw [g (by decide)]; exact z16)⟩
  · refine ⟨by rw [g (by decide), g (by decide), z1, z4], by rw [g (by decide), g (by decide), z2, z5], by rw [g (by decide), g (by decide), z3, z6], by rw [g (by decide), z4]; decide, by rw [g (by decide), z5]; decide, fun r hr => ?_, fun a r h1 h2 _ h4 => ?_⟩
    · rw [g (by decide), z5] at hr
      omega
    · rw [g (by omega), show 9 + a = 11 + (a - 2) by omega]
      exact in_c5 (a - 2) (by omega) r h4
  · refine ⟨by rw [g (by decide), g (by decide), z7, z8], by rw [g (by decide), z8]; decide, fun i hi => ?_⟩
    rw [g (by decide), z8] at hi
    omega
  · refine ⟨fun t ht => by rw [g (by decide), in_c1 t ht]; omega, fun t ht => by rw [g (by decide), in_c2 t ht]; omega, by rw [g (by decide), z9]; decide, fun t ht => ?_, fun t u ht hu e => ?_, fun t ht => ⟨[], by decide, (fun r hr => absurd hr List.not_mem_nil), by decide, ⟨?_, fun i r hr => by simp at hr⟩, ⟨?_, fun i r hr => by simp [ru_f] at hr⟩, ?_, ?_, ?_, ?_, ?_⟩⟩
    · by_cases h : t < 16
      · rw [in_q o1 t h]
        exact Or.inr ⟨t, h, rfl⟩
      · rw [show t = 16 by omega, in_q16]
        exact Or.inl rfl
    · by_cases h : t < 16
      · rw [in_q o1 t h] at e
        by_cases h2 : u < 16
        · rw [in_q o1 u h2] at e
          omega
        · rw [show u = 16 by omega, in_q16] at e
          omega
      · rw [show t = 16 by omega, in_q16] at e
        by_cases h2 : u < 16
        · rw [in_q o1 u h2] at e
          omega
        · omega
    · rw [in_q o1 t ht, g (by omega), in_c3 t ht 0 (by decide)]; rfl
    · have := in_c4 0 (by decide) t ht
      rw [g (by decide)]
      exact this
    · have := in_c4 1 (by decide) t ht
      rw [g (by decide)]
      exact this
    · rw [in_q o1 t ht, g (by omega), in_c3 t ht 1 (by decide)]; rfl
    · have := in_c4 2 (by decide) t ht
      rw [g (by decide)]
      exact this
    · rw [in_q o1 t ht, g (by omega), in_c3 t ht 2 (by decide)]; rfl
    · have := in_c4 3 (by decide) t ht
      rw [g (by decide)]
      exact this
  · refine ⟨by rw [g (by decide), g (by decide), z10, z11], by rw [g (by decide), z11]; decide, fun i hi => ?_⟩
    rw [g (by decide), z11] at hi
    omega
  · refine ⟨by rw [g (by decide), g (by decide), z12, z13], by rw [g (by decide), z13]; decide, fun j hj => ?_, by rw [g (by decide), g (by decide), z14, z15], by rw [g (by decide), z15]; exact ⟨by decide, by decide⟩⟩
    rw [g (by decide), z13] at hj
    omega
/-! sums and loops -/
def sg (f : Nat → Int) : Nat → Int
  | 0 => 0
  | n + 1 => sg f n + f n
theorem sg_congr {f g : Nat → Int} : ∀ {n : Nat}, (∀ k, k < n → f k = g k) → sg f n = sg g n
  | 0, _ => rfl
  | n + 1, h => by rw [sg, sg, sg_congr (fun k hk => h k (by omega)), h n (by omega)]
theorem sg_nn {f : Nat → Int} : ∀ {n : Nat}, (∀ k, k < n → 0 ≤ f k) → 0 ≤ sg f n
  | 0, _ => Int.le_refl _
  | n + 1, h => by
    rw [sg]
    have h1 := sg_nn (fun k hk => h k (by omega)) (n := n)
    have h2 := h n (by omega)
    omega
theorem sg_le {f : Nat → Int} {c : Int} : ∀ {n : Nat}, (∀ k, k < n → f k ≤ c) → sg f n ≤ c * n
  | 0, _ => by simp [sg]
  | n + 1, h => by
    rw [sg]
    have h1 := sg_le (fun k hk => h k (by omega)) (n := n)
    have h2 := h n (by omega)
    have h3 : c * ((n + 1 : Nat) : Int) = c * n + c := by rw [Int.natCast_add, Int.mul_add]; simp
    omega
theorem sg_mono {f : Nat → Int} {m n : Nat} (hmn : m ≤ n) (h : ∀ k, k < n → 0 ≤ f k) : sg f m ≤ sg f n := by
  induction n with
  | zero => rw [show m = 0 by omega]; exact Int.le_refl _
  | succ n ih =>
    by_cases e : m = n + 1
    · rw [e]; exact Int.le_refl _
    · have h1 := ih (by omega) (fun k hk => h k (by omega))
      have h2 := h n (by omega)
      rw [sg]
      omega
/-- a loop that adds -/
theorem lp_sum {L n : Nat} {f : Nat → Int} {s : hh_Sv} (B : Int → Int → Option hh_Rs) (h1 : ∀ (i : Nat) (z : Int), i < n → z = sg f i → B z (i : Int) = B (z + f i) ((i : Int) + 1)) (h2 : B (sg f n) (n : Int) = ok L (sg f n) s) : ∀ (k i : Nat), i + k = n → B (sg f i) (i : Int) = ok L (sg f n) s
  | 0, i, e => by
    rw [Nat.add_zero] at e
    subst e
    exact h2
  | k + 1, i, e => by
    rw [h1 i _ (by omega) rfl]
    have := lp_sum B h1 h2 k (i + 1) (by omega)
    rw [sg] at this
    exact this
