/-! chosen -/
theorem cnt_mono {f g : Nat → Bool} : ∀ {n : Nat}, (∀ k, f k = true → g k = true) → cnt f n ≤ cnt g n
  | 0, _ => Nat.le_refl _
  | n + 1, h => by
    have ih := cnt_mono (n := n) h
    have hh := h n
    rw [cnt, cnt]
    cases e1 : f n
    · have : (false : Bool).toNat = 0 := rfl
      omega
    · rw [hh e1]
      omega
section
variable {L : Nat} {s : hh_Sv}
theorem hT_31 {t : Int} {q n : Nat} : sg (hT s t q 3) n ≤ sg (hT s t q 1) n := by
  refine sg_lle (fun r _ => ?_)
  unfold hT
  split
  · have := cnt_mono (f := hbw (s 245 r).toNat (fun k => s 246 (24 * r + k)) q 3) (g := hbw (s 245 r).toNat (fun k => s 246 (24 * r + k)) q 1) (n := (s 244 r).toNat) (fun k hk => by
      unfold hbw at hk ⊢
      rw [Bool.and_eq_true] at hk
      rw [hk.1]
      rfl)
    omega
  · exact Int.le_refl _
/-- behind, their hard, others, their hard: of the first q -/
def cB (c : Nat → Nat → Int) (q : Nat) : Int := sg (fun q => c q 3) q
def cH (c : Nat → Nat → Int) (q : Nat) : Int := sg (fun q => (q : Int) * c q 3) q
def cO (c : Nat → Nat → Int) (q : Nat) : Int := sg (fun q => c q 1 - c q 3) q
def cP (c : Nat → Nat → Int) (q : Nat) : Int := sg (fun q => (q : Int) * (c q 1 - c q 3)) q
theorem c_chosen {a1 a2 : Int} (h1 : I32 a1) (h2 : I32 a2) (h : Inv s) : Cal L s (hx_chosen L a1 a2) (md_chosen L a1 a2) w64 := by
  obtain ⟨T1, T2, T3⟩ := h.T
  obtain ⟨R1, R2, R3⟩ := h.R
  have hX := hx_chosen_eq L a1 a2 s
  have hY := md_chosen_eq L a1 a2 s
  rw [tst (co_hasThrower_ok h1 (by omega))] at hX
  rw [tst (md_isThrower_ok h1 (by omega))] at hY
  by_cases e1 : 0 ≤ a1 ∧ a1 < s 242 2
  case neg => exact Cal.pure (hX.trans (if_neg (by omega))) (hY.trans (if_neg e1)) rfl h
  rw [if_pos (by omega)] at hX
  rw [if_pos e1] at hY
  dsimp only at hX hY
  rw [tst (hx_isIn_ok h2 i_lit i_lit)] at hX
  rw [tst (md_isIn_ok h2 i_lit i_lit)] at hY
  by_cases e2 : 0 ≤ a2 ∧ a2 ≤ 1
  case neg => exact Cal.pure (hX.trans (if_neg e2)) (hY.trans (if_neg e2)) rfl h
  rw [if_pos e2] at hX hY
  dsimp only at hX hY
  obtain ⟨t, rfl⟩ := Int.eq_ofNat_of_zero_le e1.1
  obtain ⟨c, hcd⟩ : ∃ c : Nat → Nat → Int, ∀ q w, c q w = sg (hT s t q w) (s 242 3).toNat := ⟨_, fun _ _ => rfl⟩
  have hc : ∀ q w, 0 ≤ c q w ∧ c q w ≤ 1440 := fun q w => by
    have := hT_bd (t := (t : Int)) (q := q) (w := w) (n := (s 242 3).toNat) h (by omega)
    rw [hcd]
    omega
  have h31 : ∀ q, c q 3 ≤ c q 1 := fun q => by rw [hcd, hcd]; exact hT_31
  obtain ⟨y, y1, y2, y3⟩ := md_counts_ok (L := L) h (show t < 12 by omega)
  have k0 := hc 0
  have k1 := hc 1
  have k2 := hc 2
  have k3 := hc 3
  have bB : 0 ≤ cB c 4 ∧ cB c 4 ≤ 5760 := ⟨sg_nn (fun q _ => (hc q 3).1), by have := sg_le (f := fun q => c q 3) (c := 1440) (n := 4) (fun q _ => (hc q 3).2); unfold cB; omega⟩
  have bO : 0 ≤ cO c 4 ∧ cO c 4 ≤ 5760 := ⟨sg_nn (fun q _ => by have := h31 q; show 0 ≤ c q 1 - c q 3; omega), by have := sg_le (f := fun q => c q 1 - c q 3) (c := 1440) (n := 4) (fun q _ => by have := hc q 1; have := hc q 3; show c q 1 - c q 3 ≤ 1440; omega); unfold cO; omega⟩
  have hq3 : ∀ q : Nat, q < 4 → ∀ z : Int, 0 ≤ z → z ≤ 1440 → 0 ≤ (q : Int) * z ∧ (q : Int) * z ≤ 4320 := fun q hq z z0 z1 => by
    have a := Int.mul_le_mul_of_nonneg_right (a := (q : Int)) (b := 3) (c := z) (by omega) z0
    have b := Int.mul_nonneg (a := (q : Int)) (b := z) (by omega) z0
    omega
  have bH : 0 ≤ cH c 4 ∧ cH c 4 ≤ 17280 := ⟨sg_nn (fun q hq => (hq3 q hq _ (hc q 3).1 (hc q 3).2).1), by have := sg_le (f := fun q : Nat => (q : Int) * c q 3) (c := 4320) (n := 4) (fun q hq => (hq3 q hq _ (hc q 3).1 (hc q 3).2).2); unfold cH; omega⟩
  have bP : 0 ≤ cP c 4 ∧ cP c 4 ≤ 17280 := ⟨sg_nn (fun q hq => (hq3 q hq _ (by have := h31 q; omega) (by have := hc q 1; have := hc q 3; omega)).1), by have := sg_le (f := fun q : Nat => (q : Int) * (c q 1 - c q 3)) (c := 4320) (n := 4) (fun q hq => (hq3 q hq _ (by have := h31 q; omega) (by have := hc q 1; have := hc q 3; omega)).2); unfold cP; omega⟩
  have kX : ∀ (j q : Nat), q + j = 4 → hx_chosen_b3 L (t : Int) a2 (cB c q) (cH c q) (cO c q) (cP c q) (q : Int) s = hx_chosen_b3 L (t : Int) a2 (cB c 4) (cH c 4) (cO c 4) (cP c 4) 4 s := by
    intro j
    induction j with
    | zero =>
      intro q e
      rw [Nat.add_zero] at e
      subst e
      rfl
    | succ j ih =>
      intro q e
      have g1 : co_countHard L (t : Int) (q : Int) 1 s = ok L (c q 1) s := by rw [hcd]; exact co_countHard_ok (w := 1) h (by omega) (by omega) (by decide)
      have g3 : co_countHard L (t : Int) (q : Int) 3 s = ok L (c q 3) s := by rw [hcd]; exact co_countHard_ok (w := 3) h (by omega) (by omega) (by decide)
      have c1 := hc q 1
      have c3 := hc q 3
      have m3 := hq3 q (by omega) (c q 3) c3.1 c3.2
      have m1 := hq3 q (by omega) (c q 1 - c q 3) (by have := h31 q; omega) (by omega)
      rw [← ih (q + 1) (by omega), hx_chosen_b3_eq, if_neg (by rw [w32_id (by omega) (by omega)]; omega), g3, ok_bind]
      dsimp only
      rw [g1, ok_bind, w32_id (i := c q 3) (by omega) (by omega), Int.mul_comm (c q 3), w32_id (i := (q : Int) * c q 3) (by omega) (by omega)]
      dsimp only
      rw [w32_id (i := c q 1 - c q 3) (by omega) (by omega), Int.mul_comm (c q 1 - c q 3), w32_id (i := (q : Int) * (c q 1 - c q 3)) (by omega) (by omega)]
      rfl
  have kY : ∀ (j q : Nat), q + j = 4 → md_chosen_b3 L a2 (cH c q) (cB c q) (cP c q) (cO c q) (q : Int) y = md_chosen_b3 L a2 (cH c 4) (cB c 4) (cP c 4) (cO c 4) 4 y := by
    intro j
    induction j with
    | zero =>
      intro q e
      rw [Nat.add_zero] at e
      subst e
      rfl
    | succ j ih =>
      intro q e
      have g1 : y 277 (4 * q + 1) = c q 1 := by rw [hcd]; exact y3 q 1 (by omega) (by decide)
      have g3 : y 277 (4 * q + 3) = c q 3 := by rw [hcd]; exact y3 q 3 (by omega) (by decide)
      have c1 := hc q 1
      have c3 := hc q 3
      have m3 := hq3 q (by omega) (c q 3) c3.1 c3.2
      have m1 := hq3 q (by omega) (c q 1 - c q 3) (by have := h31 q; omega) (by omega)
      rw [← ih (q + 1) (by omega), md_chosen_b3_eq, if_pos (by rw [w32_id (by omega) (by omega)]; omega), if_pos (by omega), if_pos (by omega), show (4 * (q : Int) + 3).toNat = 4 * q + 3 by omega, show (4 * (q : Int) + 1).toNat = 4 * q + 1 by omega, g1, g3, w32_id (i := c q 3) (by omega) (by omega), w32_id (i := (q : Int) * c q 3) (by omega) (by omega), w32_id (i := c q 1 - c q 3) (by omega) (by omega), w32_id (i := (q : Int) * (c q 1 - c q 3)) (by omega) (by omega)]
      rfl
  have kx := kX 4 0 (by omega)
  have kx : hx_chosen_b3 L (t : Int) a2 0 0 0 0 0 s = _ := kx
  have ky := kY 4 0 (by omega)
  have ky : md_chosen_b3 L a2 0 0 0 0 0 y = _ := ky
  rw [kx, hx_chosen_b3_eq, if_pos (by rw [w32_id (by decide) (by decide)]; decide)] at hX
  rw [y1, ok_bind] at hY
  dsimp only at hY
  rw [ky, md_chosen_b3_eq, if_neg (by rw [w32_id (by decide) (by decide)]; decide)] at hY
  have n1 : 0 ≤ cH c 4 * cO c 4 ∧ cH c 4 * cO c 4 ≤ 17280 * 5760 := ⟨Int.mul_nonneg bH.1 bO.1, Int.mul_le_mul bH.2 bO.2 bO.1 (by decide)⟩
  have n2 : 0 ≤ cP c 4 * cB c 4 ∧ cP c 4 * cB c 4 ≤ 17280 * 5760 := ⟨Int.mul_nonneg bP.1 bB.1, Int.mul_le_mul bP.2 bB.2 bB.1 (by decide)⟩
  have n3 : 0 ≤ cB c 4 * cO c 4 ∧ cB c 4 * cO c 4 ≤ 5760 * 5760 := ⟨Int.mul_nonneg bB.1 bO.1, Int.mul_le_mul bB.2 bO.2 bO.1 (by decide)⟩
  by_cases z1 : cB c 4 = 0
  · rw [if_pos ((lc_zero ⟨by omega, by omega⟩).mpr z1)] at hY
    rw [hx_part_no (by rw [z1, Int.zero_mul]; decide), ok_bind] at hX
    exact Cal.q hX hY rfl Eqh.rf y2.q h
  rw [if_neg (fun q => z1 ((lc_zero ⟨by omega, by omega⟩).mp q))] at hY
  by_cases z2 : cO c 4 = 0
  · rw [if_pos ((lc_zero ⟨by omega, by omega⟩).mpr z2)] at hY
    rw [hx_part_no (by rw [z2, Int.mul_zero]; decide), ok_bind] at hX
    exact Cal.q hX hY rfl Eqh.rf y2.q h
  have n4 : 0 < cB c 4 * cO c 4 := Int.mul_pos (by omega) (by omega)
  rw [if_neg (fun q => z2 ((lc_zero ⟨by omega, by omega⟩).mp q)), md_is_ok (by omega) (by omega), ok_bind] at hY
  rw [hx_part_ok (by omega) (by omega) h2, ok_bind] at hX
  dsimp only at hX hY
  rw [md_tells_ok h2, ok_bind, frc_w] at hY
  exact Cal.q hX hY rfl Eqh.rf (y2.q.tr up01) h
end
