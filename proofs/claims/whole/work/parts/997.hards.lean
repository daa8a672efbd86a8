/-! by hard, in both; hards -/
/-- a number out of its bits -/
def nb (f : Nat → Bool) : Nat → Nat
  | 0 => 0
  | k + 1 => nb f k + (f k).toNat * 2 ^ k
theorem nb_lt {f : Nat → Bool} : ∀ k, nb f k < 2 ^ k
  | 0 => by rw [nb]; decide
  | k + 1 => by
    have ih := nb_lt (f := f) k
    have hb := Bool.toNat_le (f k)
    have h2 : (f k).toNat * 2 ^ k ≤ 1 * 2 ^ k := Nat.mul_le_mul_right _ hb
    rw [nb, Nat.pow_succ]
    omega
theorem nb_or {f : Nat → Bool} {k : Nat} (hk : k < 24) : bOr ((nb f k : Nat) : Int) ((((f k).toNat * 2 ^ k : Nat) : Int)) = ((nb f (k + 1) : Nat) : Int) := by
  have h1 := nb_lt (f := f) k
  have h2 := p2_24 (show k ≤ 24 by omega)
  have hb := Bool.toNat_le (f k)
  have h3 : (f k).toNat * 2 ^ k ≤ 1 * 2 ^ k := Nat.mul_le_mul_right _ hb
  rw [bOr_nat (by omega) (by omega), Nat.or_comm, Nat.mul_comm, ← Nat.two_pow_add_eq_or_of_lt h1, nb, Nat.mul_comm, Nat.add_comm]
theorem nb_tb {f : Nat → Bool} : ∀ (n k : Nat), (nb f n).testBit k = (decide (k < n) && f k)
  | 0, k => by
    rw [nb, Nat.zero_testBit, decide_eq_false (by omega), Bool.false_and]
  | n + 1, k => by
    rw [nb, Nat.add_comm, Nat.mul_comm, Nat.testBit_two_pow_mul_add _ (nb_lt n), nb_tb n k]
    by_cases h1 : k < n
    · rw [if_pos h1, decide_eq_true h1, decide_eq_true (show k < n + 1 by omega)]
    · rw [if_neg h1]
      by_cases h2 : k = n
      · subst h2
        rw [decide_eq_true (by omega), Nat.sub_self]
        cases f k <;> rfl
      · rw [decide_eq_false (show ¬ k < n + 1 by omega), Bool.false_and]
        have h3 : k - n ≠ 0 := by omega
        cases f n
        · exact Nat.zero_testBit _
        · show Nat.testBit 1 (k - n) = false
          rw [Bool.eq_false_iff]
          exact fun q => h3 (Nat.testBit_one_eq_true_iff_self_eq_zero.mp q)
/-- is a throw counted: so hard; w 0 hits, 1 all, 2 hits behind a hit, 3 all behind a hit -/
def hbw (x : Nat) (hd : Nat → Int) (q w k : Nat) : Bool := decide (hd k = (q : Int)) && ((decide (w % 2 = 1) || x.testBit k) && (decide (w < 2) || (decide (1 ≤ k) && x.testBit (k - 1))))
theorem rl_1 {x k : Nat} : decide (1 ≤ rl (ob x 1) k) = (decide (1 ≤ k) && x.testBit (k - 1)) := by
  cases k with
  | zero => rfl
  | succ k =>
    rw [rl, decide_eq_true (show 1 ≤ k + 1 by omega), Bool.true_and, show k + 1 - 1 = k from rfl]
    cases e : x.testBit k
    · rw [if_neg (by unfold ob; rw [e]; decide)]; rfl
    · rw [if_pos (by unfold ob; rw [e]; rfl), decide_eq_true (by omega)]
section
variable {L : Nat} {s : hh_Sv}
def hT (s : hh_Sv) (t : Int) (q w r : Nat) : Int := if s 243 r = t then ((cnt (hbw (s 245 r).toNat (fun k => s 246 (24 * r + k)) q w) (s 244 r).toNat : Nat) : Int) else 0
theorem hT_bd {t : Int} {q w n : Nat} (h : Inv s) (hn : (n : Int) ≤ s 242 3) : 0 ≤ sg (hT s t q w) n ∧ sg (hT s t q w) n ≤ 24 * n := by
  have hr : ∀ r, r < n → 0 ≤ hT s t q w r ∧ hT s t q w r ≤ 24 := fun r hr => by
    obtain ⟨x, m, -, -, n1, -, n3, -⟩ := row_x h (r := r) (by omega)
    unfold hT
    rw [n1, Int.toNat_natCast]
    have := cnt_le (f := hbw (s 245 r).toNat (fun k => s 246 (24 * r + k)) q w) m
    split <;> omega
  exact ⟨sg_nn (fun r h => (hr r h).1), sg_le (fun r h => (hr r h).2)⟩
theorem co_hardBits_ok {r x n q : Nat} {hd gd : Nat → Int} (hw : RW s r x n hd gd) (hq : q ≤ 3) : co_hardBits L (r : Int) (q : Int) s = ok L ((nb (fun k => decide (hd k = (q : Int))) n : Nat) : Int) s := by
  obtain ⟨a1, a2, a3, a4, a5, a6, a7, a8, a9, a10⟩ := hw
  have hin : (0 : Int) ≤ (r : Int) ∧ (r : Int) < 60 := by omega
  rw [co_hardBits_eq]
  have key : ∀ (j k : Nat), k + j = n → co_hardBits_b1 L (r : Int) (q : Int) ((nb (fun k => decide (hd k = (q : Int))) k : Nat) : Int) (k : Int) s = ok L ((nb (fun k => decide (hd k = (q : Int))) n : Nat) : Int) s := by
    intro j
    induction j with
    | zero =>
      intro k e
      rw [Nat.add_zero] at e
      subst e
      rw [co_hardBits_b1_eq, if_pos hin, Int.toNat_natCast, a6, if_neg (by omega)]
    | succ j ih =>
      intro k e
      have e1 := pk_look (k := k) (b := 2 * (k : Int)) a8 (by omega) (fun j hj => (a10 j hj).2.2.1) a2 (by omega)
      have hb := (a10 k (by omega)).2.2.1
      have hnx := ih (k + 1) (by omega)
      have b3 : ∀ z : Int, z = ((((fun k => decide (hd k = (q : Int))) k).toNat * 2 ^ k : Nat) : Int) → co_hardBits_b3 L (r : Int) (q : Int) (k : Int) ((nb (fun k => decide (hd k = (q : Int))) k : Nat) : Int) z s = ok L ((nb (fun k => decide (hd k = (q : Int))) n : Nat) : Int) s := fun z hz => by
        rw [co_hardBits_b3_eq, hz, nb_or (by omega)]
        exact hnx
      rw [co_hardBits_b1_eq, if_pos hin, Int.toNat_natCast, a6, if_pos (by rw [w32_id (by omega) (by omega), w32_id (by omega) (by omega)]; omega), if_pos hin, e1, w32_id (i := (q : Int)) (by omega) (by omega)]
      by_cases eq : hd k = (q : Int)
      · rw [if_pos (lCmp_eq.mpr (by rw [eq]))]
        refine b3 _ ?_
        rw [iShl_id rfl (by omega)]
        show (1 : Int) * 2 ^ k = (((decide (hd k = (q : Int))).toNat * 2 ^ k : Nat) : Int)
        rw [decide_eq_true eq, show true.toNat = 1 from rfl, Nat.one_mul, p2_c, Int.one_mul]
      · rw [if_neg (fun z => eq (by
          have := lCmp_eq.mp z
          rw [w64_id (by omega) (by omega), w64_id (by omega) (by omega)] at this
          exact this))]
        refine b3 _ ?_
        show (0 : Int) = (((decide (hd k = (q : Int))).toNat * 2 ^ k : Nat) : Int)
        rw [decide_eq_false eq, show false.toNat = 0 from rfl, Nat.zero_mul]
        rfl
  exact key n 0 (by omega)
theorem co_countHard_ok {t q w : Nat} (h : Inv s) (ht : t < 12) (hq : q ≤ 3) (hw4 : w ≤ 3) : co_countHard L (t : Int) (q : Int) (w : Int) s = ok L (sg (hT s t q w) (s 242 3).toNat) s := by
  obtain ⟨R1, R2, R3⟩ := h.R
  obtain ⟨R, hR, hR2⟩ := row_n h
  have hti : I32 (t : Int) := ⟨by omega, by omega⟩
  rw [co_countHard_eq, hR, Int.toNat_natCast]
  have main : ∀ (j r : Nat), r + j = R → co_countHard_b1 L (t : Int) (q : Int) (w : Int) (sg (hT s t q w) r) (r : Int) s = ok L (sg (hT s t q w) R) s := by
    intro j
    induction j with
    | zero =>
      intro r e
      rw [Nat.add_zero] at e
      subst e
      rw [co_countHard_b1_eq, if_neg (by rw [R1, hR]; omega)]
    | succ j ih =>
      intro r e
      have hr : (r : Int) < s 242 3 := by omega
      obtain ⟨x, n, hw⟩ := row_RW h hr
      obtain ⟨ex, en⟩ := hw.x
      have hin : (0 : Int) ≤ (r : Int) ∧ (r : Int) < 60 := by have := hw.1; omega
      have hnx := ih (r + 1) (by omega)
      have s1 : sg (hT s t q w) (r + 1) = sg (hT s t q w) r + hT s t q w r := rfl
      rw [s1] at hnx
      rw [co_countHard_b1_eq, if_pos (by rw [R1, hR, w32_id (by omega) (by omega), w32_id (by omega) (by omega)]; omega), co_isOf_ok h hti hr, ok_bind]
      dsimp only
      by_cases eo : s 243 r = (t : Int)
      case neg =>
        have e0 : hT s t q w r = 0 := by unfold hT; rw [if_neg eo]
        rw [e0, Int.add_zero] at hnx
        rw [if_pos (zb_w.mpr (fun z => by
          rcases z with z | z
          · omega
          · exact eo z))]
        exact hnx
      have hp := p2_24 hw.2.1
      have hx := hw.2.2.1
      have hn := hw.2.1
      have hnl : nb (fun k => decide (s 246 (24 * r + k) = (q : Int))) n < 2 ^ n := nb_lt n
      have hbl := bhb_lt (h := x) (n := n) (o := 1) (m := 1)
      have e0 : hT s t q w r = ((cnt (hbw x (fun k => s 246 (24 * r + k)) q w) n : Nat) : Int) := by unfold hT; rw [if_pos eo, ex, en]
      rw [e0] at hnx
      have b4 : ∀ y : Nat, y < 16777216 → (∀ k, y.testBit k = (decide (k < n) && hbw x (fun k => s 246 (24 * r + k)) q w k)) → co_countHard_b4 L (t : Int) (q : Int) (w : Int) (r : Int) (sg (hT s t q w) r) (y : Int) s = ok L (sg (hT s t q w) R) s := fun y hy ht => by
        rw [co_countHard_b4_eq, jin_bitCount_ok L (by omega), ok_bind, pcf_tb (by omega) ht]
        exact hnx
      have b2 : ∀ y : Nat, y < 16777216 → (∀ k, y.testBit k = (decide (k < n) && (decide ((fun k => s 246 (24 * r + k)) k = (q : Int)) && (decide (w < 2) || (decide (1 ≤ k) && x.testBit (k - 1)))))) → co_countHard_b2 L (t : Int) (q : Int) (w : Int) (sg (hT s t q w) r) (r : Int) (y : Int) s = ok L (sg (hT s t q w) R) s := fun y hy ht => by
        rw [co_countHard_b2_eq, w32_id (i := (w : Int)) (by omega) (by omega), tMod_nn (by omega) (by decide), w32_id (i := (w : Int) % 2) (by omega) (by omega)]
        by_cases ew : w % 2 = 0
        · rw [if_pos (by omega), if_pos hin, Int.toNat_natCast, hw.2.2.2.1, bAnd_nat (by omega) (by omega)]
          refine b4 _ (Nat.lt_of_le_of_lt Nat.and_le_left hy) (fun k => ?_)
          rw [Nat.testBit_and, ht k]
          unfold hbw
          rw [decide_eq_false (show ¬ w % 2 = 1 by omega), Bool.false_or]
          cases decide (k < n) <;> cases decide (s 246 (24 * r + k) = (q : Int)) <;> cases x.testBit k <;> cases (decide (w < 2) || (decide (1 ≤ k) && x.testBit (k - 1))) <;> rfl
        · rw [if_neg (by omega)]
          refine b4 y hy (fun k => ?_)
          rw [ht k]
          unfold hbw
          rw [decide_eq_true (show w % 2 = 1 by omega), Bool.true_or, Bool.true_and]
      rw [if_neg (fun z => zb_w.mp z (Or.inr eo)), co_hardBits_ok hw hq, ok_bind, w32_id (i := (w : Int)) (by omega) (by omega)]
      dsimp only
      by_cases ew : w < 2
      · rw [if_pos (by omega)]
        refine b2 _ (by omega) (fun k => ?_)
        rw [nb_tb, decide_eq_true ew, Bool.true_or, Bool.and_true]
      · have hbb : hx_behindBits L (x : Int) (n : Int) 1 1 s = ok L ((bhb x n 1 1 : Nat) : Int) s := hx_behindBits_ok (o := 1) (m := 1) hx hn (Or.inr rfl) (by decide)
        rw [if_neg (by omega), if_pos hin, if_pos hin, Int.toNat_natCast, hw.2.2.2.1, hw.2.2.2.2.2.1, hbb, ok_bind, bAnd_nat (by omega) (by omega)]
        dsimp only
        refine b2 _ (Nat.lt_of_le_of_lt Nat.and_le_left (by omega)) (fun k => ?_)
        rw [Nat.testBit_and, nb_tb, bhb_tb hx, rl_1, decide_eq_false ew, Bool.false_or]
        cases decide (k < n) <;> cases decide ((fun k => s 246 (24 * r + k)) k = (q : Int)) <;> cases (decide (1 ≤ k) && x.testBit (k - 1)) <;> rfl
  exact main R 0 (by omega)
end
