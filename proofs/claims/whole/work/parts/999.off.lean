/-! fractions scaled; off, chosen -/
theorem frc_mul {a b : Int} (hb : 0 < b) : ∃ g : Nat, 0 < g ∧ a = (g : Int) * frc a b 0 ∧ b = (g : Int) * frc a b 1 := by
  have hg : 0 < Nat.gcd a.natAbs b.toNat := Nat.gcd_pos_of_pos_right _ (by omega)
  refine ⟨Nat.gcd a.natAbs b.toNat, hg, ?_, ?_⟩
  · unfold frc
    rw [if_pos rfl, Int.mul_comm]
    have hd : ((Nat.gcd a.natAbs b.toNat : Nat) : Int) ∣ a := Int.ofNat_dvd_left.mpr (Nat.gcd_dvd_left _ _)
    exact (Int.tdiv_mul_cancel hd).symm
  · unfold frc
    rw [if_neg (by decide), Int.mul_comm]
    have hd : ((Nat.gcd a.natAbs b.toNat : Nat) : Int) ∣ b := Int.ofNat_dvd_left.mpr (by
      rw [show b.natAbs = b.toNat by omega]
      exact Nat.gcd_dvd_right _ _)
    exact (Int.tdiv_mul_cancel hd).symm
theorem frc_scale {g : Nat} {a b w : Int} (hg : 0 < g) (hb : 0 < b) : frc ((g : Int) * a) ((g : Int) * b) w = frc a b w := by
  have hgb : 0 < Nat.gcd a.natAbs b.toNat := Nat.gcd_pos_of_pos_right _ (by omega)
  have e1 : ((g : Int) * a).natAbs = g * a.natAbs := by rw [Int.natAbs_mul, Int.natAbs_natCast]
  have e2 : ((g : Int) * b).toNat = g * b.toNat := by
    have : (g : Int) * b = ((g * b.toNat : Nat) : Int) := by rw [Int.natCast_mul]; congr 1; omega
    rw [this, Int.toNat_natCast]
  unfold frc
  rw [e1, e2, Nat.gcd_mul_left, Int.natCast_mul]
  have hp : (0 : Int) < (g : Int) := by omega
  rw [Int.mul_tdiv_mul_of_pos _ _ hp, Int.mul_tdiv_mul_of_pos _ _ hp]
/-- the upper and lower numbers of off, not yet in lowest terms -/
def oU (c : Nat → Nat → Int) : Nat → Int × Int
  | 0 => (0, 1)
  | q + 1 => if 0 < c q 1 then ((oU c q).1 * c q 1 + (c q 2 * c q 1 - c q 3 * c q 0) * (oU c q).2, (oU c q).2 * c q 1) else oU c q
def bM : Nat → Int
  | 0 => 1
  | q + 1 => 1440 * bM q
def bK : Nat → Int
  | 0 => 0
  | q + 1 => 1440 * bK q + 2073600 * bM q
theorem bM_pos : ∀ q, 1 ≤ bM q
  | 0 => by rw [bM]; decide
  | q + 1 => by rw [bM]; have := bM_pos q; omega
theorem bK_nn : ∀ q, 0 ≤ bK q
  | 0 => by rw [bK]; decide
  | q + 1 => by rw [bK]; have := bM_pos q; have := bK_nn q; omega
theorem oU_bd {c : Nat → Nat → Int} (hc : ∀ q w, 0 ≤ c q w ∧ c q w ≤ 1440) : ∀ q, (1 ≤ (oU c q).2 ∧ (oU c q).2 ≤ bM q) ∧ -(bK q) ≤ (oU c q).1 ∧ (oU c q).1 ≤ bK q
  | 0 => by rw [oU]; decide
  | q + 1 => by
    obtain ⟨⟨h1, h2⟩, h3, h4⟩ := oU_bd hc q
    have hM := bM_pos q
    have hK := bK_nn q
    have c0 := hc q 0
    have c1 := hc q 1
    have c2 := hc q 2
    have c3 := hc q 3
    rw [oU, bM, bK]
    by_cases e : 0 < c q 1
    · rw [if_pos e]
      show (1 ≤ (oU c q).2 * c q 1 ∧ (oU c q).2 * c q 1 ≤ 1440 * bM q) ∧ -(1440 * bK q + 2073600 * bM q) ≤ (oU c q).1 * c q 1 + (c q 2 * c q 1 - c q 3 * c q 0) * (oU c q).2 ∧ (oU c q).1 * c q 1 + (c q 2 * c q 1 - c q 3 * c q 0) * (oU c q).2 ≤ 1440 * bK q + 2073600 * bM q
      have a1 : 1 * 1 ≤ (oU c q).2 * c q 1 := Int.mul_le_mul h1 (by omega) (by decide) (by omega)
      have a2 : (oU c q).2 * c q 1 ≤ bM q * 1440 := Int.mul_le_mul h2 c1.2 c1.1 (by omega)
      have a3 : (oU c q).1 * c q 1 ≤ bK q * c q 1 := Int.mul_le_mul_of_nonneg_right h4 c1.1
      have a4 : bK q * c q 1 ≤ bK q * 1440 := Int.mul_le_mul_of_nonneg_left c1.2 hK
      have a5 : -(bK q) * c q 1 ≤ (oU c q).1 * c q 1 := Int.mul_le_mul_of_nonneg_right h3 c1.1
      rw [Int.neg_mul] at a5
      have b1 : 0 ≤ c q 2 * c q 1 := Int.mul_nonneg c2.1 c1.1
      have b2 : c q 2 * c q 1 ≤ 1440 * 1440 := Int.mul_le_mul c2.2 c1.2 c1.1 (by decide)
      have b3 : 0 ≤ c q 3 * c q 0 := Int.mul_nonneg c3.1 c0.1
      have b4 : c q 3 * c q 0 ≤ 1440 * 1440 := Int.mul_le_mul c3.2 c0.2 c0.1 (by decide)
      have d1 : (c q 2 * c q 1 - c q 3 * c q 0) * (oU c q).2 ≤ 2073600 * (oU c q).2 := Int.mul_le_mul_of_nonneg_right (by omega) (by omega)
      have d2 : (-2073600) * (oU c q).2 ≤ (c q 2 * c q 1 - c q 3 * c q 0) * (oU c q).2 := Int.mul_le_mul_of_nonneg_right (by omega) (by omega)
      refine ⟨⟨by omega, by omega⟩, by omega, by omega⟩
    · rw [if_neg e]
      refine ⟨⟨h1, by omega⟩, by omega, by omega⟩
theorem oU_4 {c : Nat → Nat → Int} (hc : ∀ q w, 0 ≤ c q w ∧ c q w ≤ 1440) {q : Nat} (hq : q ≤ 4) : (1 ≤ (oU c q).2 ∧ (oU c q).2 < 9000000000000000000) ∧ -9000000000000000000 < (oU c q).1 ∧ (oU c q).1 < 9000000000000000000 := by
  have h := oU_bd hc q
  have hb : bM q ≤ 4299816960000 ∧ bK q ≤ 24766945689600000 := by
    have hq : q = 0 ∨ q = 1 ∨ q = 2 ∨ q = 3 ∨ q = 4 := by omega
    rcases hq with rfl | rfl | rfl | rfl | rfl <;> decide
  omega
section
variable {L : Nat} {s : hh_Sv}
theorem hx_off_lp {t : Nat} {a2 : Int} {c : Nat → Nat → Int} (h : Inv s) (ht : t < 12) (h2 : I32 a2) (hc : ∀ q w, 0 ≤ c q w ∧ c q w ≤ 1440) (hcs : ∀ q w, q ≤ 3 → w ≤ 3 → c q w = sg (hT s t q w) (s 242 3).toNat) : ∀ (j q : Nat), q + j = 4 → hx_off_b3 L (t : Int) a2 (oU c q).1 (oU c q).2 (q : Int) s = ok L (frc (oU c 4).1 (oU c 4).2 a2) s := by
  intro j
  induction j with
  | zero =>
    intro q e
    rw [Nat.add_zero] at e
    subst e
    have hb := oU_4 hc (q := 4) (by decide)
    rw [hx_off_b3_eq, if_pos (by rw [w32_id (by decide) (by decide)]; decide), hx_part_ok (by omega) (by omega) h2, ok_bind]
  | succ j ih =>
    intro q e
    have hnx := ih (q + 1) (by omega)
    have k1 : co_countHard L (t : Int) (q : Int) 1 s = ok L (c q 1) s := by rw [hcs q 1 (by omega) (by decide)]; exact co_countHard_ok (w := 1) h ht (by omega) (by decide)
    have k2 : co_countHard L (t : Int) (q : Int) 2 s = ok L (c q 2) s := by rw [hcs q 2 (by omega) (by decide)]; exact co_countHard_ok (w := 2) h ht (by omega) (by decide)
    have k3 : co_countHard L (t : Int) (q : Int) 3 s = ok L (c q 3) s := by rw [hcs q 3 (by omega) (by decide)]; exact co_countHard_ok (w := 3) h ht (by omega) (by decide)
    have k0 : co_countHard L (t : Int) (q : Int) 0 s = ok L (c q 0) s := by rw [hcs q 0 (by omega) (by decide)]; exact co_countHard_ok (w := 0) h ht (by omega) (by decide)
    have c0 := hc q 0
    have c1 := hc q 1
    have c2 := hc q 2
    have c3 := hc q 3
    rw [hx_off_b3_eq, if_neg (by rw [w32_id (by omega) (by omega)]; omega), k1, ok_bind]
    dsimp only
    rw [w32_id (i := c q 1) (by omega) (by omega)]
    rw [oU] at hnx
    by_cases ep : 0 < c q 1
    · rw [if_pos ep] at hnx
      rw [if_pos ((lc_pos ⟨by omega, by omega⟩).mpr ep), k2, ok_bind]
      dsimp only
      rw [k3, ok_bind]
      dsimp only
      rw [k0, ok_bind, w32_id (i := c q 2) (by omega) (by omega), w32_id (i := c q 3) (by omega) (by omega)]
      dsimp only
      rw [w32_id (i := c q 0) (by omega) (by omega)]
      exact hnx
    · rw [if_neg ep] at hnx
      rw [if_neg (fun z => ep ((lc_pos ⟨by omega, by omega⟩).mp z))]
      exact hnx
/-- two fields alone have changed -/
def F01 (s u : hh_Sv) : Prop := ∀ k j, ¬ (k = 242 ∧ (j = 0 ∨ j = 1)) → u k j = s k j
theorem F01.up {u : hh_Sv} {x y : Int} (h : F01 s u) : F01 s (up (up u 242 0 x) 242 1 y) := fun k j hn => by
  by_cases e : k = 242
  · subst e
    rw [up_j (by omega), up_j (by omega)]
    exact h _ _ hn
  · rw [up_k e, up_k e]
    exact h _ _ hn
theorem F01.q {u : hh_Sv} (h : F01 s u) : Eqh s u := fun k j hn => h k j (fun ⟨e1, e2⟩ => hn (by subst e1; exact scr_f (by omega)))
theorem md_off_lp {a2 : Int} {c : Nat → Nat → Int} (h2 : I32 a2) (hc : ∀ q w, 0 ≤ c q w ∧ c q w ≤ 1440) (hcs : ∀ q w, q ≤ 3 → w ≤ 3 → s 277 (4 * q + w) = c q w) : ∀ (j q : Nat) (u : hh_Sv), q + j = 4 → F01 s u → u 242 0 = frc (oU c q).1 (oU c q).2 0 → u 242 1 = frc (oU c q).1 (oU c q).2 1 → ∃ y, md_off_b3 L a2 ((4 * q : Nat) : Int) u = ok L (frc (oU c 4).1 (oU c 4).2 a2) y ∧ F01 s y := by
  intro j
  induction j with
  | zero =>
    intro q u e g p1 p2
    rw [Nat.add_zero] at e
    subst e
    rw [md_off_b3_eq, if_neg (by rw [w32_id (by decide) (by decide)]; decide)]
    have e1 : md_tells L a2 u = ok L (frc (oU c 4).1 (oU c 4).2 a2) u := by
      rw [md_tells_eq, h2.w, p1, p2, ← frc_w (w := a2)]
      by_cases e : a2 = 0
      · rw [if_pos e, if_pos e]
      · rw [if_neg e, if_neg e]
    rw [e1, ok_bind]
    exact ⟨u, rfl, g⟩
  | succ j ih =>
    intro q u e g p1 p2
    have c0 := hc q 0
    have c1 := hc q 1
    have c2 := hc q 2
    have c3 := hc q 3
    have hb := oU_4 hc (q := q) (by omega)
    have hb2 := oU_4 hc (q := q + 1) (by omega)
    have f0 : u 277 (4 * q) = c q 0 := by rw [g _ _ (by omega)]; exact hcs q 0 (by omega) (by decide)
    have f1 : u 277 (4 * q + 1) = c q 1 := by rw [g _ _ (by omega)]; exact hcs q 1 (by omega) (by decide)
    have f2 : u 277 (4 * q + 2) = c q 2 := by rw [g _ _ (by omega)]; exact hcs q 2 (by omega) (by decide)
    have f3 : u 277 (4 * q + 3) = c q 3 := by rw [g _ _ (by omega)]; exact hcs q 3 (by omega) (by decide)
    rw [md_off_b3_eq, if_pos (by rw [w32_id (by omega) (by omega)]; omega), if_pos (by omega), show (((4 * q : Nat) : Int) + 1).toNat = 4 * q + 1 by omega, f1, w32_id (i := c q 1) (by omega) (by omega)]
    by_cases ep : 0 < c q 1
    · rw [if_pos ((lc_pos ⟨by omega, by omega⟩).mpr ep), if_pos (by omega), if_pos (by omega), if_pos (by omega), show (((4 * q : Nat) : Int) + 2).toNat = 4 * q + 2 by omega, show (((4 * q : Nat) : Int) + 3).toNat = 4 * q + 3 by omega, Int.toNat_natCast, f0, f2, f3, w32_id (i := c q 2) (by omega) (by omega), w32_id (i := c q 3) (by omega) (by omega), w32_id (i := c q 0) (by omega) (by omega), p1, p2]
      obtain ⟨gg, g0, g1, g2⟩ := frc_mul (a := (oU c q).1) (b := (oU c q).2) (by omega)
      have eN : oU c (q + 1) = ((oU c q).1 * c q 1 + (c q 2 * c q 1 - c q 3 * c q 0) * (oU c q).2, (oU c q).2 * c q 1) := by rw [oU, if_pos ep]
      have eU : (oU c (q + 1)).1 = (gg : Int) * (frc (oU c q).1 (oU c q).2 0 * c q 1 + (c q 2 * c q 1 - c q 3 * c q 0) * frc (oU c q).1 (oU c q).2 1) := by
        rw [eN]
        show (oU c q).1 * c q 1 + (c q 2 * c q 1 - c q 3 * c q 0) * (oU c q).2 = _
        rw [Int.mul_add, ← Int.mul_assoc, ← g1, Int.mul_left_comm, ← g2]
      have eL : (oU c (q + 1)).2 = (gg : Int) * (frc (oU c q).1 (oU c q).2 1 * c q 1) := by
        rw [eN]
        show (oU c q).2 * c q 1 = _
        rw [← Int.mul_assoc, ← g2]
      have pos1 : 0 < frc (oU c q).1 (oU c q).2 1 := by
        apply Classical.byContradiction
        intro hn
        have := Int.mul_nonneg (a := (gg : Int)) (b := -(frc (oU c q).1 (oU c q).2 1)) (by omega) (by omega)
        rw [Int.mul_neg, ← g2] at this
        omega
      have posL : 0 < frc (oU c q).1 (oU c q).2 1 * c q 1 := Int.mul_pos pos1 ep
      generalize hA : frc (oU c q).1 (oU c q).2 0 * c q 1 + (c q 2 * c q 1 - c q 3 * c q 0) * frc (oU c q).1 (oU c q).2 1 = A at *
      generalize hBB : frc (oU c q).1 (oU c q).2 1 * c q 1 = B at *
      have hBle : B ≤ (oU c (q + 1)).2 := by
        rw [eL]
        have := Int.mul_le_mul_of_nonneg_right (a := 1) (b := (gg : Int)) (c := B) (by omega) (by omega)
        omega
      have hAle : -9000000000000000000 < A ∧ A < 9000000000000000000 := by
        have h1 : 0 ≤ A → A ≤ (oU c (q + 1)).1 := fun q0 => by
          rw [eU]
          have := Int.mul_le_mul_of_nonneg_right (a := 1) (b := (gg : Int)) (c := A) (by omega) q0
          omega
        have h2 : A ≤ 0 → (oU c (q + 1)).1 ≤ A := fun q0 => by
          rw [eU]
          have := Int.mul_le_mul_of_nonneg_right (a := 1) (b := (gg : Int)) (c := -A) (by omega) (by omega)
          rw [Int.mul_neg, Int.mul_neg] at this
          omega
        by_cases hs : 0 ≤ A
        · have := h1 hs
          omega
        · have := h2 (by omega)
          omega
      have s0 : ∀ w, frc A B w = frc (oU c (q + 1)).1 (oU c (q + 1)).2 w := fun w => by rw [eU, eL, frc_scale g0 posL]
      rw [md_is_ok (by omega) (by omega), ok_bind]
      dsimp only
      rw [show ((4 * q : Nat) : Int) + 4 = ((4 * (q + 1) : Nat) : Int) by omega]
      exact ih (q + 1) _ (by omega) g.up (by rw [up_j (by decide), up_s, s0]) (by rw [up_s, s0])
    · have eN : oU c (q + 1) = oU c q := by rw [oU, if_neg ep]
      rw [if_neg (fun z => ep ((lc_pos ⟨by omega, by omega⟩).mp z)), show ((4 * q : Nat) : Int) + 4 = ((4 * (q + 1) : Nat) : Int) by omega]
      exact ih (q + 1) u (by omega) g (by rw [eN]; exact p1) (by rw [eN]; exact p2)
theorem c_off {a1 a2 : Int} (h1 : I32 a1) (h2 : I32 a2) (h : Inv s) : Cal L s (hx_off L a1 a2) (md_off L a1 a2) w64 := by
  obtain ⟨T1, T2, T3⟩ := h.T
  obtain ⟨R1, R2, R3⟩ := h.R
  have hX := hx_off_eq L a1 a2 s
  have hY := md_off_eq L a1 a2 s
  rw [tst (co_hasThrower_ok h1 (by omega))] at hX
  rw [tst (md_isThrower_ok h1 (by omega))] at hY
  by_cases e1 : 0 ≤ a1 ∧ a1 < s 242 2
  case neg => exact Cal.pure (hX.trans (if_neg (by omega))) (hY.trans (if_neg e1)) rfl h
  rw [if_pos (by omega)] at hX
  rw [if_pos e1] at hY
  dsimp only at hX hY
  rw [tst (hx_isIn_ok h2 i_lit i_lit)] at hX
  rw [tst (md_isIn_ok h2 i_lit i_lit)] at hY
  by_cases e2 : 0 ≤ a2 ∧ a2 ≤ 1
  case neg => exact Cal.pure (hX.trans (if_neg e2)) (hY.trans (if_neg e2)) rfl h
  rw [if_pos e2] at hX hY
  dsimp only at hX hY
  obtain ⟨t, rfl⟩ := Int.eq_ofNat_of_zero_le e1.1
  have hc : ∀ q w, 0 ≤ (fun q w => sg (hT s t q w) (s 242 3).toNat) q w ∧ (fun q w => sg (hT s t q w) (s 242 3).toNat) q w ≤ 1440 := fun q w => by
    have := hT_bd (t := (t : Int)) (q := q) (w := w) (n := (s 242 3).toNat) h (by omega)
    show 0 ≤ sg (hT s t q w) (s 242 3).toNat ∧ sg (hT s t q w) (s 242 3).toNat ≤ 1440
    omega
  obtain ⟨y, y1, y2, y3⟩ := md_counts_ok (L := L) h (show t < 12 by omega)
  have kX := hx_off_lp (L := L) (a2 := a2) (c := fun q w => sg (hT s t q w) (s 242 3).toNat) h (show t < 12 by omega) h2 hc (fun _ _ _ _ => rfl) 4 0 (by omega)
  have kX : hx_off_b3 L (t : Int) a2 0 1 0 s = _ := kX
  obtain ⟨z, z1, z2⟩ := md_off_lp (L := L) (s := y) (a2 := a2) (c := fun q w => sg (hT s t q w) (s 242 3).toNat) h2 hc (fun q w hq hw => y3 q w hq hw) 4 0 (up (up y 242 0 (frc 0 1 0)) 242 1 (frc 0 1 1)) (by omega) (F01.up (fun _ _ _ => rfl)) (by rw [up_j (by decide), up_s]; rfl) (by rw [up_s]; rfl)
  have z1 : md_off_b3 L a2 0 (up (up y 242 0 (frc 0 1 0)) 242 1 (frc 0 1 1)) = _ := z1
  rw [kX] at hX
  rw [y1, ok_bind] at hY
  dsimp only at hY
  rw [md_is_ok (by decide) (by decide), ok_bind] at hY
  dsimp only at hY
  rw [z1] at hY
  exact Cal.q hX hY rfl Eqh.rf (y2.q.tr z2.q) h
end
