/-! give: the ways of a game, and their weights -/
theorem sg_two {f : Nat → Int} : ∀ n : Nat, sg f (2 * n) = sg (fun k => f (2 * k)) n + sg (fun k => f (2 * k + 1)) n
  | 0 => rfl
  | n + 1 => by
    have ih := sg_two (f := f) n
    rw [show 2 * (n + 1) = 2 * n + 1 + 1 by omega, sg, sg, ih, sg, sg]
    omega
def mn3 (y : Int) : Int := if y < 3 then y else 3
def gG (K : Int) (st : Bool → Nat → Int) : Bool := decide (0 < K ∧ K ≤ st true 0)
def gO (K : Int) (st : Bool → Nat → Int) (t : Nat) : Bool := gG K st || decide (t % 2 = 0)
def gX (K m : Int) (st : Bool → Nat → Int) : Int := if gG K st = true then m else 0
def am3 (rs : List Ru) (v : Nat → Int) (x : Int) : Nat → Int := s45 v (hdN rs v) (mn3 (gdN rs v (hdN rs v) + x))
def gA (R : Bool → List Ru) (K m : Int) (st : Bool → Nat → Int) (t : Nat) : Nat → Int := am3 (R (gO K st t)) (st (gO K st t)) (gX K m st)
def gC (R : Bool → List Ru) (K m : Int) (st : Bool → Nat → Int) (t : Nat) : Int := chV (R (gO K st t)) (gA R K m st t)
def gN (R : Bool → List Ru) (K m : Int) (st : Bool → Nat → Int) (t : Nat) (b : Bool) : Bool → Nat → Int := fun p => if p = gO K st t then goN (R p) (gA R K m st t) b else st p
def gE (R : Bool → List Ru) (K m : Int) : Nat → Nat → (Bool → Nat → Int) → Int
  | 0, _, _ => 0
  | n + 1, t, st => gC R K m st t * (100 ^ n + gE R K m n (t + 1) (gN R K m st t true)) + (100 - gC R K m st t) * gE R K m n (t + 1) (gN R K m st t false)
def gW (R : Bool → List Ru) (K m : Int) : Nat → Nat → (Bool → Nat → Int) → Nat → Int
  | 0, _, _, _ => 1
  | n + 1, t, st, w => (if w % 2 = 1 then gC R K m st t else 100 - gC R K m st t) * gW R K m n (t + 1) (gN R K m st t (decide (w % 2 = 1))) (w / 2)
theorem gC_bd {R : Bool → List Ru} {K m : Int} {st : Bool → Nat → Int} {t : Nat} : 0 ≤ gC R K m st t ∧ gC R K m st t ≤ 100 := chV_bd
theorem gW_0 {R : Bool → List Ru} {K m : Int} {n t : Nat} {st : Bool → Nat → Int} {k : Nat} : gW R K m (n + 1) t st (2 * k) = (100 - gC R K m st t) * gW R K m n (t + 1) (gN R K m st t false) k := by
  rw [gW, if_neg (by omega), decide_eq_false (by omega), show 2 * k / 2 = k by omega]
theorem gW_1 {R : Bool → List Ru} {K m : Int} {n t : Nat} {st : Bool → Nat → Int} {k : Nat} : gW R K m (n + 1) t st (2 * k + 1) = gC R K m st t * gW R K m n (t + 1) (gN R K m st t true) k := by
  rw [gW, if_pos (by omega), decide_eq_true (by omega), show (2 * k + 1) / 2 = k by omega]
theorem gW_sum {R : Bool → List Ru} {K m : Int} : ∀ (n t : Nat) (st : Bool → Nat → Int), sg (gW R K m n t st) (2 ^ n) = 100 ^ n
  | 0, t, st => rfl
  | n + 1, t, st => by
    have e0 := gW_sum (R := R) (K := K) (m := m) n (t + 1) (gN R K m st t false)
    have e1 := gW_sum (R := R) (K := K) (m := m) n (t + 1) (gN R K m st t true)
    rw [Nat.pow_succ', sg_two, sg_congr (fun k _ => gW_0), sg_congr (f := fun k => gW R K m (n + 1) t st (2 * k + 1)) (fun k _ => gW_1), sg_mul, sg_mul, e0, e1, ← Int.add_mul, show 100 - gC R K m st t + gC R K m st t = 100 by omega, Int.pow_succ']
theorem gW_hits {R : Bool → List Ru} {K m : Int} : ∀ (n t : Nat) (st : Bool → Nat → Int), sg (fun w => gW R K m n t st w * ((pcf n w : Nat) : Int)) (2 ^ n) = gE R K m n t st
  | 0, t, st => rfl
  | n + 1, t, st => by
    have h0 := gW_hits (R := R) (K := K) (m := m) n (t + 1) (gN R K m st t false)
    have h1 := gW_hits (R := R) (K := K) (m := m) n (t + 1) (gN R K m st t true)
    have e1 := gW_sum (R := R) (K := K) (m := m) n (t + 1) (gN R K m st t true)
    have q0 : ∀ k, k < 2 ^ n → gW R K m (n + 1) t st (2 * k) * ((pcf (n + 1) (2 * k) : Nat) : Int) = (100 - gC R K m st t) * (gW R K m n (t + 1) (gN R K m st t false) k * ((pcf n k : Nat) : Int)) := fun k _ => by
      rw [gW_0, pcf, show 2 * k % 2 = 0 by omega, show 2 * k / 2 = k by omega, Nat.zero_add, Int.mul_assoc]
    have q1 : ∀ k, k < 2 ^ n → gW R K m (n + 1) t st (2 * k + 1) * ((pcf (n + 1) (2 * k + 1) : Nat) : Int) = gC R K m st t * (gW R K m n (t + 1) (gN R K m st t true) k + gW R K m n (t + 1) (gN R K m st t true) k * ((pcf n k : Nat) : Int)) := fun k _ => by
      rw [gW_1, pcf, show (2 * k + 1) % 2 = 1 by omega, show (2 * k + 1) / 2 = k by omega, Int.mul_assoc, show ((1 + pcf n k : Nat) : Int) = 1 + ((pcf n k : Nat) : Int) by omega, Int.mul_add, Int.mul_one]
    rw [Nat.pow_succ', sg_two, sg_congr q0, sg_congr q1, sg_mul, sg_mul, sg_addf, h0, h1, e1, gE]
    omega
theorem gW_nn {R : Bool → List Ru} {K m : Int} : ∀ (n t : Nat) (st : Bool → Nat → Int) (w : Nat), 0 ≤ gW R K m n t st w ∧ gW R K m n t st w ≤ 100 ^ n
  | 0, _, _, _ => by rw [gW]; decide
  | n + 1, t, st, w => by
    have ih := gW_nn (R := R) (K := K) (m := m) n (t + 1) (gN R K m st t (decide (w % 2 = 1))) (w / 2)
    have hc := gC_bd (R := R) (K := K) (m := m) (st := st) (t := t)
    have hx : 0 ≤ (if w % 2 = 1 then gC R K m st t else 100 - gC R K m st t) ∧ (if w % 2 = 1 then gC R K m st t else 100 - gC R K m st t) ≤ 100 := by split <;> omega
    rw [gW, Int.pow_succ']
    exact ⟨Int.mul_nonneg hx.1 ih.1, Int.mul_le_mul hx.2 ih.2 ih.1 (by decide)⟩
theorem p100 : ∀ n : Nat, (0 : Int) < 100 ^ n
  | 0 => by decide
  | n + 1 => by rw [Int.pow_succ]; have := p100 n; omega
theorem gE_bd {R : Bool → List Ru} {K m : Int} : ∀ (n t : Nat) (st : Bool → Nat → Int), 0 ≤ gE R K m n t st ∧ gE R K m n t st ≤ n * 100 ^ n
  | 0, t, st => by rw [gE]; decide
  | n + 1, t, st => by
    have h0 := gE_bd (R := R) (K := K) (m := m) n (t + 1) (gN R K m st t false)
    have h1 := gE_bd (R := R) (K := K) (m := m) n (t + 1) (gN R K m st t true)
    have hc := gC_bd (R := R) (K := K) (m := m) (st := st) (t := t)
    have hp := p100 n
    have g1 : gE R K m n (t + 1) (gN R K m st t false) ≤ 100 ^ n + (n : Int) * 100 ^ n := by omega
    have g2 : 100 ^ n + gE R K m n (t + 1) (gN R K m st t true) ≤ 100 ^ n + (n : Int) * 100 ^ n := by omega
    have a1 := Int.mul_le_mul_of_nonneg_left g2 hc.1
    have a2 := Int.mul_le_mul_of_nonneg_left g1 (show 0 ≤ 100 - gC R K m st t by omega)
    have a3 := Int.mul_nonneg hc.1 (show 0 ≤ 100 ^ n + gE R K m n (t + 1) (gN R K m st t true) by omega)
    have a4 := Int.mul_nonneg (show 0 ≤ 100 - gC R K m st t by omega) h0.1
    have e : gC R K m st t * (100 ^ n + (n : Int) * 100 ^ n) + (100 - gC R K m st t) * (100 ^ n + (n : Int) * 100 ^ n) = ((n + 1 : Nat) : Int) * 100 ^ (n + 1) := by
      rw [← Int.add_mul, show gC R K m st t + (100 - gC R K m st t) = 100 by omega, Int.pow_succ', show ((n + 1 : Nat) : Int) = (n : Int) + 1 by omega, Int.add_mul, Int.one_mul, Int.mul_add, Int.mul_left_comm (n : Int)]
      omega
    rw [gE]
    constructor
    · omega
    · rw [← e]; omega
/-- bounds of both -/
def GB (st : Bool → Nat → Int) (t : Nat) : Prop := ∀ p, VB (st p) (100 + t) ∧ st p 0 ≤ t
theorem am3_bd {rs : List Ru} {v : Nat → Int} {x : Int} (hok : ∀ r ∈ rs, ru_ok r) (hx : 0 ≤ x ∧ x ≤ 3) : (0 ≤ hdN rs v ∧ hdN rs v ≤ 3) ∧ (0 ≤ gdN rs v (hdN rs v) ∧ gdN rs v (hdN rs v) ≤ 3) ∧ 0 ≤ mn3 (gdN rs v (hdN rs v) + x) ∧ mn3 (gdN rs v (hdN rs v) + x) ≤ 3 := by
  have b1 : 0 ≤ hdN rs v ∧ hdN rs v ≤ 3 := fo_3 (Or.inl rfl) hok
  have b2 : 0 ≤ gdN rs v (hdN rs v) ∧ gdN rs v (hdN rs v) ≤ 3 := fo_3 (Or.inr rfl) hok
  refine ⟨b1, b2, ?_⟩
  unfold mn3
  split <;> omega
theorem gX_bd {K m : Int} {st : Bool → Nat → Int} (hm : 0 ≤ m ∧ m ≤ 3) : 0 ≤ gX K m st ∧ gX K m st ≤ 3 := by
  unfold gX
  split <;> omega
theorem gA_VB {R : Bool → List Ru} {K m : Int} {st : Bool → Nat → Int} {t : Nat} (hok : ∀ p, ∀ r ∈ R p, ru_ok r) (hm : 0 ≤ m ∧ m ≤ 3) (h : GB st t) : VB (gA R K m st t) (100 + t) := by
  obtain ⟨b1, b2, b3⟩ := am3_bd (v := st (gO K st t)) (hok (gO K st t)) (gX_bd (K := K) (st := st) hm)
  exact (h (gO K st t)).1.p45 (by omega) (by omega)
theorem gN_GB {R : Bool → List Ru} {K m : Int} {st : Bool → Nat → Int} {t : Nat} {b : Bool} (hok : ∀ p, ∀ r ∈ R p, ru_ok r) (hm : 0 ≤ m ∧ m ≤ 3) (h : GB st t) : GB (gN R K m st t b) (t + 1) := fun p => by
  unfold gN
  by_cases e : p = gO K st t
  · rw [if_pos e]
    have hg := VB.go (b := b) (hok p) (by omega) (gA_VB (K := K) hok hm h)
    have e0 : goN (R p) (gA R K m st t) b 0 = if b = true then st (gO K st t) 0 + 1 else 0 := rfl
    have h0 := (h (gO K st t)).2
    refine ⟨fun k hk => ?_, ?_⟩
    · have := hg k hk
      omega
    · rw [e0]
      split <;> omega
  · rw [if_neg e]
    have hp := h p
    refine ⟨fun k hk => ?_, by omega⟩
    have := hp.1 k hk
    omega
