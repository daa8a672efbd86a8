/-! ways of all rows together: the numbers -/
theorem sg_rev {f : Nat → Int} : ∀ n, sg (fun i => f (n - i)) (n + 1) = sg f (n + 1)
  | 0 => rfl
  | n + 1 => by
    rw [sg_shift (n + 1)]
    have e : sg (fun j => f (n + 1 - (j + 1))) (n + 1) = sg (fun j => f (n - j)) (n + 1) := sg_congr (fun j _ => by rw [show n + 1 - (j + 1) = n - j by omega])
    rw [e, sg_rev n]
    have e2 : sg f (n + 1 + 1) = sg f (n + 1) + f (n + 1) := rfl
    rw [e2]
    show f (n + 1 - 0) + sg f (n + 1) = _
    rw [Nat.sub_zero]
    omega
theorem sg_addf {f g : Nat → Int} : ∀ {n : Nat}, sg (fun k => f k + g k) n = sg f n + sg g n
  | 0 => rfl
  | n + 1 => by
    rw [sg, sg, sg, sg_addf (n := n)]
    omega
theorem sg_zero {f : Nat → Int} : ∀ {n : Nat}, (∀ k, k < n → f k = 0) → sg f n = 0
  | 0, _ => rfl
  | n + 1, h => by rw [sg, sg_zero (fun k hk => h k (by omega)), h n (by omega)]; rfl
theorem sg_ext {f : Nat → Int} {m n : Nat} (hmn : m ≤ n) (h : ∀ k, m ≤ k → k < n → f k = 0) : sg f n = sg f m := by
  obtain ⟨d, rfl⟩ := Nat.exists_eq_add_of_le hmn
  rw [sg_add, sg_zero (f := fun k => f (m + k)) (fun k hk => h _ (by omega) (by omega)), Int.add_zero]
theorem vand : ∀ (a b c : Nat), sg (fun j => ((bin a j : Nat) : Int) * ((bin b (j + c) : Nat) : Int)) (a + 1) = ((bin (a + b) (a + c) : Nat) : Int)
  | 0, b, c => by
    rw [sg_shift]
    show ((bin 0 0 : Nat) : Int) * ((bin b (0 + c) : Nat) : Int) + 0 = _
    rw [bin_0, Nat.zero_add, Nat.zero_add]
    show (1 : Int) * _ + 0 = _
    rw [Int.one_mul, Int.add_zero]
  | a + 1, b, c => by
    have i1 := vand a b c
    have i2 := vand a b (c + 1)
    rw [sg_shift (a + 1)]
    have e1 : sg (fun j => ((bin (a + 1) (j + 1) : Nat) : Int) * ((bin b (j + 1 + c) : Nat) : Int)) (a + 1) = sg (fun j => ((bin a j : Nat) : Int) * ((bin b (j + (c + 1)) : Nat) : Int)) (a + 1) + sg (fun j => ((bin a (j + 1) : Nat) : Int) * ((bin b (j + 1 + c) : Nat) : Int)) (a + 1) := by
      rw [← sg_addf]
      refine sg_congr (fun j _ => ?_)
      rw [bin_s, Int.natCast_add, Int.add_mul, show j + (c + 1) = j + 1 + c by omega]
    have e2 : sg (fun j => ((bin a (j + 1) : Nat) : Int) * ((bin b (j + 1 + c) : Nat) : Int)) (a + 1) = sg (fun j => ((bin a (j + 1) : Nat) : Int) * ((bin b (j + 1 + c) : Nat) : Int)) a := by
      rw [sg, bin_gt a (a + 1) (by omega)]
      show _ + (0 : Int) * _ = _
      rw [Int.zero_mul, Int.add_zero]
    rw [sg_shift a] at i1
    rw [e1, e2, i2]
    have b0 : ∀ m, bin m 0 = 1 := bin_0
    rw [b0] at i1 ⊢
    have hs : bin (a + 1 + b) (a + 1 + c) = bin (a + b) (a + c) + bin (a + b) (a + (c + 1)) := by
      rw [show a + 1 + b = (a + b) + 1 by omega, show a + 1 + c = (a + c) + 1 by omega, bin_s]
      rfl
    rw [hs]
    omega
/-- in how many orders a row of n with h hits has i pairs -/
def pw (n h i : Nat) : Int := if h = 0 then (if i = 0 then 1 else 0) else if i < h then ((bin (h - 1) (h - i - 1) : Nat) : Int) * ((bin (n - h + 1) (h - i) : Nat) : Int) else 0
theorem pw_nn (n h i : Nat) : 0 ≤ pw n h i := by
  unfold pw
  split
  · split <;> omega
  · split
    · exact Int.mul_nonneg (by omega) (by omega)
    · omega
theorem pw_hi {n h i : Nat} (hi : h - 1 < i) : pw n h i = 0 := by
  unfold pw
  split
  · rw [if_neg (by omega)]
  · rw [if_neg (by omega)]
theorem pw_lo {n h i : Nat} (hi : i + (n - h + 1) < h) : pw n h i = 0 := by
  unfold pw
  rw [if_neg (by omega), if_pos (by omega), bin_gt (n - h + 1) (h - i) (by omega)]
  show _ * (0 : Int) = 0
  rw [Int.mul_zero]
theorem pw_sum {n h : Nat} (hn : h ≤ n) (m : Nat) : sg (pw n h) m ≤ ((bin n h : Nat) : Int) := by
  by_cases h0 : h = 0
  · subst h0
    rw [bin_0]
    cases m with
    | zero => show (0 : Int) ≤ 1; decide
    | succ m =>
      have e := sg_ext (f := pw n 0) (m := 1) (n := m + 1) (by omega) (fun k h1 h2 => pw_hi (by omega))
      rw [e]
      show (0 : Int) + pw n 0 0 ≤ 1
      have : pw n 0 0 = 1 := rfl
      omega
  · obtain ⟨a, rfl⟩ : ∃ a, h = a + 1 := ⟨h - 1, by omega⟩
    have v := vand a (n - a) 1
    rw [show a + (n - a) = n by omega] at v
    have r := sg_rev (f := fun j => ((bin a j : Nat) : Int) * ((bin (n - a) (j + 1) : Nat) : Int)) a
    have e : sg (pw n (a + 1)) (a + 1) = ((bin n (a + 1) : Nat) : Int) := by
      rw [← v, ← r]
      refine sg_congr (fun i hi => ?_)
      unfold pw
      rw [if_neg (by omega), if_pos hi, show a + 1 - 1 = a from rfl, show a + 1 - i - 1 = a - i by omega, show n - (a + 1) + 1 = n - a by omega, show a + 1 - i = a - i + 1 by omega]
    rcases Nat.lt_or_ge m (a + 1) with hm | hm
    · have := sg_mono (f := pw n (a + 1)) (m := m) (n := a + 1) (by omega) (fun k _ => pw_nn n (a + 1) k)
      omega
    · rw [sg_ext (f := pw n (a + 1)) hm (fun k h1 h2 => pw_hi (by omega)), e]
      exact Int.le_refl _
/-- joined: all ways to share k pairs -/
def cv (V p : Nat → Int) (k : Nat) : Int := sg (fun i => V (k - i) * p i) (k + 1)
theorem cv_bd {V p : Nat → Int} {A B : Int} (hV : ∀ k, 0 ≤ V k ∧ V k ≤ A) (hp : ∀ i, 0 ≤ p i) (hB : ∀ m, sg p m ≤ B) (hA : 0 ≤ A) (k : Nat) : 0 ≤ cv V p k ∧ cv V p k ≤ A * B := by
  unfold cv
  constructor
  · exact sg_nn (fun i _ => Int.mul_nonneg (hV _).1 (hp i))
  · have h1 := sg_lle (f := fun i => V (k - i) * p i) (g := fun i => A * p i) (n := k + 1) (fun i _ => Int.mul_le_mul_of_nonneg_right (hV _).2 (hp i))
    rw [sg_mul] at h1
    have h2 := Int.mul_le_mul_of_nonneg_left (hB (k + 1)) hA
    omega
theorem cv_top {V p : Nat → Int} {M H : Nat} (hV : ∀ k, M < k → V k = 0) (hp : ∀ i, H < i → p i = 0) {k : Nat} (hk : M + H < k) : cv V p k = 0 := by
  unfold cv
  refine sg_zero (fun i hi => ?_)
  by_cases e : H < i
  · rw [hp i e, Int.mul_zero]
  · rw [hV (k - i) (by omega), Int.zero_mul]
/-- rows of a thrower, one behind the other: all ways, pairs, the most pairs, ways by pairs; are they few enough -/
def yN (s : hh_Sv) (r : Nat) : Nat := (s 244 r).toNat
def yH (s : hh_Sv) (r : Nat) : Nat := pcf 32 (s 245 r).toNat
def yA (s : hh_Sv) (t : Int) : Nat → Int
  | 0 => 1
  | r + 1 => if s 243 r = t then yA s t r * ((bin (yN s r) (yH s r) : Nat) : Int) else yA s t r
def yP (s : hh_Sv) (t : Int) : Nat → Nat
  | 0 => 0
  | r + 1 => if s 243 r = t then yP s t r + cnt (gPair (s 245 r).toNat 1 1) (yN s r) else yP s t r
def yM (s : hh_Sv) (t : Int) : Nat → Nat
  | 0 => 0
  | r + 1 => if s 243 r = t then yM s t r + (yH s r - 1) else yM s t r
def yV (s : hh_Sv) (t : Int) : Nat → Nat → Int
  | 0 => fun k => if k = 0 then 1 else 0
  | r + 1 => if s 243 r = t then cv (yV s t r) (pw (yN s r) (yH s r)) else yV s t r
noncomputable def yO (s : hh_Sv) (t : Int) : Nat → Prop
  | 0 => True
  | r + 1 => yO s t r ∧ (s 243 r = t → yA s t r * ((bin (yN s r) (yH s r) : Nat) : Int) ≤ 4000000000000000000)
section
variable {s : hh_Sv}
theorem yrow (h : Inv s) {r : Nat} (hr : (r : Int) < s 242 3) : yH s r ≤ yN s r ∧ yN s r ≤ 24 ∧ (s 245 r).toNat < 2 ^ yN s r := by
  obtain ⟨x, n, x1, x2, n1, n2, n3, n4, n5⟩ := row_x h hr
  unfold yH yN
  rw [x1, n1, Int.toNat_natCast, Int.toNat_natCast]
  refine ⟨?_, n3, n4⟩
  rw [pcf_big n4 (by omega)]
  exact pcf_le n x
theorem yA_pos {t : Int} (h : Inv s) : ∀ {r : Nat}, (r : Int) ≤ s 242 3 → 1 ≤ yA s t r
  | 0, _ => by rw [yA]; decide
  | r + 1, hr => by
    have ih := yA_pos (t := t) h (r := r) (by omega)
    obtain ⟨y1, y2, y3⟩ := yrow h (r := r) (by omega)
    have hb := bin_pos (n := yN s r) (k := yH s r) y1
    rw [yA]
    split
    · have : 0 < yA s t r * ((bin (yN s r) (yH s r) : Nat) : Int) := Int.mul_pos (by omega) (by omega)
      omega
    · exact ih
theorem yA_bd {t : Int} (h : Inv s) : ∀ {r : Nat}, (r : Int) ≤ s 242 3 → yO s t r → yA s t r ≤ 4000000000000000000
  | 0, _, _ => by rw [yA]; decide
  | r + 1, hr, ho => by
    rw [yO] at ho
    have ih := yA_bd (t := t) h (r := r) (by omega) ho.1
    rw [yA]
    split
    next q => exact ho.2 q
    · exact ih
theorem yM_bd {t : Int} (h : Inv s) : ∀ {r : Nat}, (r : Int) ≤ s 242 3 → yM s t r ≤ 23 * r
  | 0, _ => by rw [yM]; omega
  | r + 1, hr => by
    have ih := yM_bd (t := t) h (r := r) (by omega)
    obtain ⟨y1, y2, y3⟩ := yrow h (r := r) (by omega)
    rw [yM]
    split <;> omega
theorem yP_bd {t : Int} (h : Inv s) : ∀ {r : Nat}, (r : Int) ≤ s 242 3 → yP s t r ≤ 24 * r
  | 0, _ => by rw [yP]; omega
  | r + 1, hr => by
    have ih := yP_bd (t := t) h (r := r) (by omega)
    obtain ⟨y1, y2, y3⟩ := yrow h (r := r) (by omega)
    have := cnt_le (f := gPair (s 245 r).toNat 1 1) (yN s r)
    rw [yP]
    split <;> omega
theorem yV_bd {t : Int} (h : Inv s) : ∀ {r : Nat}, (r : Int) ≤ s 242 3 → ∀ k, 0 ≤ yV s t r k ∧ yV s t r k ≤ yA s t r
  | 0, _ => fun k => by
    rw [yV, yA]
    show 0 ≤ (if k = 0 then (1 : Int) else 0) ∧ (if k = 0 then (1 : Int) else 0) ≤ 1
    split <;> omega
  | r + 1, hr => fun k => by
    have ih := yV_bd (t := t) h (r := r) (by omega)
    have hA := yA_pos (t := t) h (r := r) (by omega)
    obtain ⟨y1, y2, y3⟩ := yrow h (r := r) (by omega)
    rw [yV, yA]
    by_cases e : s 243 r = t
    · rw [if_pos e, if_pos e]
      exact cv_bd ih (pw_nn _ _) (pw_sum y1) (by omega) k
    · rw [if_neg e, if_neg e]
      exact ih k
theorem yV_top {t : Int} : ∀ {r k : Nat}, yM s t r < k → yV s t r k = 0
  | 0, k, hk => by
    rw [yV]
    rw [yM] at hk
    exact if_neg (by omega)
  | r + 1, k, hk => by
    rw [yM] at hk
    rw [yV]
    by_cases e : s 243 r = t
    · rw [if_pos e] at hk ⊢
      exact cv_top (M := yM s t r) (H := yH s r - 1) (fun k h => yV_top h) (fun i hi => pw_hi hi) hk
    · rw [if_neg e] at hk ⊢
      exact yV_top hk
end
