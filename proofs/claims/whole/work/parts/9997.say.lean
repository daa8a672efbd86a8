/-! together, say: the calls -/
section
variable {L : Nat} {s : hh_Sv}
theorem y_cg {u : hh_Sv} {t : Int} (g : ∀ k j, 243 ≤ k ∧ k ≤ 245 → u k j = s k j) : ∀ r, yA u t r = yA s t r ∧ yP u t r = yP s t r ∧ yM u t r = yM s t r ∧ yV u t r = yV s t r ∧ (yO u t r ↔ yO s t r)
  | 0 => ⟨rfl, rfl, rfl, rfl, Iff.rfl⟩
  | r + 1 => by
    obtain ⟨h1, h2, h3, h4, h5⟩ := y_cg g r
    have e1 : yN u r = yN s r := by unfold yN; rw [g _ _ (by decide)]
    have e2 : yH u r = yH s r := by unfold yH; rw [g _ _ (by decide)]
    refine ⟨?_, ?_, ?_, ?_, ?_⟩
    · rw [yA, yA, h1, e1, e2, g 243 r (by decide)]
    · rw [yP, yP, h2, e1, g 243 r (by decide), g 245 r (by decide)]
    · rw [yM, yM, h3, e2, g 243 r (by decide)]
    · rw [yV, yV, h4, e1, e2, g 243 r (by decide)]
    · rw [yO, yO, h5, h1, e1, e2, g 243 r (by decide)]
theorem FT.I {u : hh_Sv} (h : FT s u) (hI : Inv s) : Inv u := ⟨hI.1.eqv h.v, h.2⟩
theorem c_together {a1 a2 : Int} (h1 : I32 a1) (h2 : I32 a2) (h : Inv s) : Cal L s (hx_together L a1 a2) (md_together L a1 a2) w64 := by
  obtain ⟨T1, T2, T3⟩ := h.T
  obtain ⟨R1, R2, R3⟩ := h.R
  have hX := hx_together_eq L a1 a2 s
  have hY := fun z => md_together_eq L a1 a2 z
  have hY0 := hY s
  rw [tst (co_hasThrower_ok h1 (by omega))] at hX
  rw [tst (md_isThrower_ok h1 (by omega))] at hY0
  by_cases e1 : 0 ≤ a1 ∧ a1 < s 242 2
  case neg => exact Cal.pure (hX.trans (if_neg (by omega))) (hY0.trans (if_neg e1)) rfl h
  rw [if_pos (by omega)] at hX
  rw [if_pos e1] at hY0
  dsimp only at hX hY0
  rw [tst (hx_isIn_ok h2 i_lit i_lit)] at hX
  rw [tst (md_isIn_ok h2 i_lit i_lit)] at hY0
  by_cases e2 : 0 ≤ a2 ∧ a2 ≤ 2
  case neg => exact Cal.pure (hX.trans (if_neg e2)) (hY0.trans (if_neg e2)) rfl h
  rw [if_pos e2] at hX
  dsimp only at hX
  obtain ⟨t, rfl⟩ := Int.eq_ofNat_of_zero_le e1.1
  have goY : ∀ y, FS s y → ∃ z, Eqv y z ∧ iv_H z ∧ ((yO s t (s 242 3).toNat → md_together L (t : Int) a2 y = ok L (if a2 = 0 then sg (fun i => yV s t (s 242 3).toNat (yP s t (s 242 3).toNat + i)) (yM s t (s 242 3).toNat + 1 - yP s t (s 242 3).toNat) else if a2 = 1 then yA s t (s 242 3).toNat else ((yP s t (s 242 3).toNat : Nat) : Int)) z) ∧ (¬ yO s t (s 242 3).toNat → md_together L (t : Int) a2 y = ok L (-1) z)) := by
    intro y g
    have hI := g.q.I h
    have gg : ∀ k j, 243 ≤ k ∧ k ≤ 245 → y k j = s k j := fun k j hk => g k j (by omega) (by omega) (by omega)
    have e3 : y 242 3 = s 242 3 := g _ _ (by decide) (by decide) (by decide)
    obtain ⟨c1, c2, c3, c4, c5⟩ := y_cg (t := (t : Int)) gg (s 242 3).toNat
    have hYy := hY y
    rw [tst (md_isThrower_ok h1 (by rw [g _ _ (by decide) (by decide) (by decide)]; omega)), if_pos (by rw [g _ _ (by decide) (by decide) (by decide)]; exact e1)] at hYy
    dsimp only at hYy
    rw [tst (md_isIn_ok h2 i_lit i_lit), if_pos e2] at hYy
    dsimp only at hYy
    obtain ⟨z, z0, z1⟩ := md_togethers_ok (L := L) hI (show t < 12 by omega)
    rw [e3, c1, c2, c3, c4, c5] at z1
    refine ⟨z, z0.v, z0.2, fun ho => ?_, fun hn => ?_⟩
    · rcases z1 with ⟨-, q1, q2, q3, q4, q5⟩ | ⟨q, -⟩
      · rw [q1, ok_bind] at hYy
        dsimp only at hYy
        rw [if_neg (by rw [w32_1]; decide), h2.w] at hYy
        have hMb := yM_bd (t := (t : Int)) h (r := (s 242 3).toNat) (by omega)
        have hPb := yP_bd (t := (t : Int)) h (r := (s 242 3).toNat) (by omega)
        by_cases w0 : a2 = 0
        · rw [if_pos w0, md_least_ok q3 q4 (by omega) (by omega) q5, ok_bind] at hYy
          rw [if_pos w0]
          exact hYy
        · rw [if_neg w0] at hYy ⊢
          by_cases w1 : a2 = 1
          · rw [if_pos w1, q2] at hYy
            rw [if_pos w1]
            exact hYy
          · rw [if_neg w1, q3, w32_id (by omega) (by omega)] at hYy
            rw [if_neg w1]
            exact hYy
      · exact absurd ho q
    · rcases z1 with ⟨q, -⟩ | ⟨-, q1⟩
      · exact absurd q hn
      · rw [q1, ok_bind] at hYy
        dsimp only at hYy
        rw [if_pos w32_0] at hYy
        exact hYy
  obtain ⟨y, y0, y1⟩ := su_reckon_ok (L := L) h (show t < 12 by omega)
  have hMb := yM_bd (t := (t : Int)) h (r := (s 242 3).toNat) (by omega)
  have hPb := yP_bd (t := (t : Int)) h (r := (s 242 3).toNat) (by omega)
  rcases y1 with ⟨ho, q1, q2, q3⟩ | ⟨hn, q1⟩
  · rw [q1, ok_bind] at hX
    dsimp only at hX
    rw [if_neg (by rw [w32_1]; decide), h2.w] at hX
    have gg : ∀ k j, 243 ≤ k ∧ k ≤ 245 → y k j = s k j := fun k j hk => y0 k j (by omega) (by omega) (by omega)
    obtain ⟨c1, c2, c3, c4, c5⟩ := y_cg (t := (t : Int)) gg (s 242 3).toNat
    by_cases w0 : a2 = 0
    · obtain ⟨x, x1, x2, x3⟩ := su_atLeast_ok (L := L) (y0.q.I h) (show t < 12 by omega) q3 (by omega)
      rw [y0 242 3 (by decide) (by decide) (by decide), c3, c4] at x1
      rw [if_pos w0, x1, ok_bind] at hX
      obtain ⟨z, z1, z2, z3, -⟩ := goY x (y0.tr x2)
      have z3 := z3 ho
      rw [if_pos w0] at z3
      exact Cal.qy hX z3 rfl (y0.tr x2).q.v z1 h z2
    · rw [if_neg w0] at hX
      obtain ⟨z, z1, z2, z3, -⟩ := goY y y0
      have z3 := z3 ho
      rw [if_neg w0] at z3
      by_cases w1 : a2 = 1
      · rw [if_pos w1, q2] at hX
        rw [if_pos w1] at z3
        exact Cal.qy hX z3 rfl y0.q.v z1 h z2
      · rw [if_neg w1, q3, w32_id (by omega) (by omega)] at hX
        rw [if_neg w1] at z3
        exact Cal.qy hX z3 rfl y0.q.v z1 h z2
  · rw [q1, ok_bind] at hX
    dsimp only at hX
    rw [if_pos w32_0] at hX
    obtain ⟨z, z1, z2, -, z3⟩ := goY y y0
    exact Cal.qy hX (z3 hn) rfl y0.q.v z1 h z2
/-- the longest row of a thrower -/
def lgR (s : hh_Sv) (t : Int) : Nat → Nat
  | 0 => 0
  | r + 1 => if s 243 r = t then (if lgR s t r < (s 244 r).toNat then (s 244 r).toNat else lgR s t r) else lgR s t r
theorem lgR_bd {t : Int} (h : Inv s) : ∀ {r : Nat}, (r : Int) ≤ s 242 3 → lgR s t r ≤ 24
  | 0, _ => by rw [lgR]; omega
  | r + 1, hr => by
    have ih := lgR_bd (t := t) h (r := r) (by omega)
    obtain ⟨x, n, x1, x2, n1, n2, n3, n4, n5⟩ := row_x h (r := r) (by omega)
    rw [lgR, n1, Int.toNat_natCast]
    (repeat' split) <;> omega
theorem lgR_cg {u : hh_Sv} {t : Int} (g : ∀ k j, 243 ≤ k ∧ k ≤ 245 → u k j = s k j) : ∀ r, lgR u t r = lgR s t r
  | 0 => rfl
  | r + 1 => by rw [lgR, lgR, lgR_cg g r, g 243 r (by decide), g 244 r (by decide)]
theorem co_longestRow_ok {t : Nat} (h : Inv s) (ht : t < 12) : co_longestRow L (t : Int) s = ok L ((lgR s t (s 242 3).toNat : Nat) : Int) s := by
  obtain ⟨R1, R2, R3⟩ := h.R
  obtain ⟨R, hR, hR2⟩ := row_n h
  have hti : I32 (t : Int) := ⟨by omega, by omega⟩
  rw [co_longestRow_eq, hR, Int.toNat_natCast]
  have main : ∀ (j r : Nat), r + j = R → co_longestRow_b1 L (t : Int) ((lgR s t r : Nat) : Int) (r : Int) s = ok L ((lgR s t R : Nat) : Int) s := by
    intro j
    induction j with
    | zero =>
      intro r e
      rw [Nat.add_zero] at e
      subst e
      rw [co_longestRow_b1_eq, if_neg (by rw [R1, hR]; omega)]
    | succ j ih =>
      intro r e
      have hr : (r : Int) < s 242 3 := by omega
      obtain ⟨x, n, x1, x2, n1, n2, n3, n4, n5⟩ := row_x h hr
      have hb := lgR_bd (t := (t : Int)) h (r := r) (by omega)
      have hnx := ih (r + 1) (by omega)
      rw [lgR, n1, Int.toNat_natCast] at hnx
      rw [co_longestRow_b1_eq, if_pos (by rw [R1, hR, w32_id (by omega) (by omega), w32_id (by omega) (by omega)]; omega), co_isOf_ok h hti hr, ok_bind]
      dsimp only
      by_cases eo : s 243 r = (t : Int)
      · rw [if_pos eo] at hnx
        rw [if_neg (fun q => zb_w.mp q (Or.inr eo)), if_pos (by omega), Int.toNat_natCast, n2, jma_max_ok ⟨by omega, by omega⟩ ⟨by omega, by omega⟩, ok_bind]
        dsimp only
        by_cases el : lgR s t r < n
        · rw [if_pos el] at hnx
          rw [if_pos (by omega)]
          exact hnx
        · rw [if_neg el] at hnx
          rw [if_neg (by omega)]
          exact hnx
      · rw [if_neg eo] at hnx
        rw [if_pos (zb_w.mpr (fun q => by
          rcases q with q | q
          · omega
          · exact eo q))]
        exact hnx
  exact main R 0 (by omega)
theorem md_say_lp {t : Nat} {a2 a3 : Int} (h : Inv s) (ht : t < 12) {R : Nat} (hR : s 242 3 = (R : Int)) : ∀ (j r : Nat), r + j = R → md_say_b3 L (t : Int) a2 a3 ((lgR s t r : Nat) : Int) (r : Int) s = md_say_b3 L (t : Int) a2 a3 ((lgR s t R : Nat) : Int) (R : Int) s := by
  intro j
  have hR2 := h.R
  induction j with
  | zero =>
    intro r e
    rw [Nat.add_zero] at e
    subst e
    rfl
  | succ j ih =>
    intro r e
    have hr : (r : Int) < s 242 3 := by omega
    obtain ⟨x, n, x1, x2, n1, n2, n3, n4, n5⟩ := row_x h hr
    have hrow := h.row hr
    have hb := lgR_bd (t := (t : Int)) h (r := r) (by omega)
    have hnx := ih (r + 1) (by omega)
    rw [lgR, n1, Int.toNat_natCast] at hnx
    rw [md_say_b3_eq, if_pos (by rw [hR, w32_id (by omega) (by omega), w32_id (by omega) (by omega)]; omega), if_pos (by omega), Int.toNat_natCast]
    by_cases eo : s 243 r = (t : Int)
    · rw [if_pos eo] at hnx
      rw [if_pos (by rw [eo]), if_pos (by omega), n1, jma_max_ok ⟨by omega, by omega⟩ ⟨by omega, by omega⟩, ok_bind]
      dsimp only
      by_cases el : lgR s t r < n
      · rw [if_pos el] at hnx
        rw [if_pos (by omega)]
        exact hnx
      · rw [if_neg el] at hnx
        rw [if_neg (by omega)]
        exact hnx
    · rw [if_neg eo] at hnx
      rw [if_neg (by rw [w32_id (by have := hrow.2.2.2.1; omega) (by have := hrow.2.2.2.1; omega), w32_id (by omega) (by omega)]; exact eo)]
      exact hnx
theorem hun_cg {u : hh_Sv} {t : Int} (g : ∀ k j, 243 ≤ k ∧ k ≤ 245 → u k j = s k j) (g3 : u 242 3 = s 242 3) : hun u t = hun s t := by
  have f1 : fThrows u t = fThrows s t := by
    funext k
    unfold fThrows
    rw [g _ _ (by decide), g _ _ (by decide)]
  have f2 : fHits u t = fHits s t := by
    funext k
    unfold fHits
    rw [g _ _ (by decide), g _ _ (by decide)]
  unfold hun
  rw [f1, f2, g3]
theorem ten_bd {x : Int} (h : -1 ≤ x ∧ x ≤ 144000) : 0 ≤ tDiv (w32 x) 10 ∧ tDiv (w32 x) 10 ≤ 144000 := by
  rw [w32_id (by omega) (by omega)]
  by_cases e : 0 ≤ x
  · rw [tDiv_nn e (by decide)]
    omega
  · rw [show x = -1 by omega]
    unfold tDiv
    rw [opq_eq]
    decide
theorem c_say {a1 a2 a3 : Int} (h1 : I32 a1) (h2 : I32 a2) (h3 : I32 a3) (h : Inv s) : Cal L s (hx_say L a1 a2 a3) (md_say L a1 a2 a3) w32 := by
  obtain ⟨T1, T2, T3⟩ := h.T
  obtain ⟨R1, R2, R3⟩ := h.R
  have hX := hx_say_eq L a1 a2 a3 s
  have hY := fun z => md_say_eq L a1 a2 a3 z
  have hY0 := hY s
  rw [tst (co_hasThrower_ok h1 (by omega))] at hX
  rw [tst (md_isThrower_ok h1 (by omega))] at hY0
  by_cases e1 : 0 ≤ a1 ∧ a1 < s 242 2
  case neg => exact Cal.pure (hX.trans (if_neg (by omega))) (hY0.trans (if_neg e1)) rfl h
  rw [if_pos (by omega)] at hX
  rw [if_pos e1] at hY0
  dsimp only at hX hY0
  rw [tst (hx_isIn_ok h2 i_lit i_lit)] at hX
  rw [tst (md_isIn_ok h2 i_lit i_lit)] at hY0
  by_cases e2 : 1 ≤ a2 ∧ a2 ≤ 9
  case neg => exact Cal.pure (hX.trans (if_neg e2)) (hY0.trans (if_neg e2)) rfl h
  rw [if_pos e2] at hX hY0
  dsimp only at hX hY0
  rw [tst (hx_isIn_ok h3 i_lit i_lit)] at hX
  rw [tst (md_isIn_ok h3 i_lit i_lit)] at hY0
  by_cases e3 : 1 ≤ a3 ∧ a3 ≤ 99
  case neg => exact Cal.pure (hX.trans (if_neg e3)) (hY0.trans (if_neg e3)) rfl h
  rw [if_pos e3] at hX
  dsimp only at hX
  obtain ⟨t, rfl⟩ := Int.eq_ofNat_of_zero_le e1.1
  obtain ⟨R, hR, hR2⟩ := row_n h
  have hlb := lgR_bd (t := (t : Int)) h (r := R) (by omega)
  have hMb := yM_bd (t := (t : Int)) h (r := R) (by omega)
  have hPb := yP_bd (t := (t : Int)) h (r := R) (by omega)
  have hhb := hun_bd h (t : Int)
  have htb := ten_bd hhb
  rw [co_longestRow_ok h (by omega), ok_bind, hR, Int.toNat_natCast] at hX
  dsimp only at hX
  rw [w32_id (i := ((lgR s t R : Nat) : Int)) (by omega) (by omega)] at hX
  -- the reference up to its sum
  have goY : ∀ y, Eqh s y → md_say L (t : Int) a2 a3 y = md_say_b3 L (t : Int) a2 a3 ((lgR s t R : Nat) : Int) (R : Int) y := fun y g => by
    have gg : ∀ k j, ¬ scr2 k j → y k j = s k j := g
    have g5 : ∀ k j, 243 ≤ k ∧ k ≤ 245 → y k j = s k j := fun k j hk => gg k j (by unfold scr2 scr; omega)
    have g3 : y 242 3 = s 242 3 := gg _ _ (by unfold scr2 scr; omega)
    have g2 : y 242 2 = s 242 2 := gg _ _ (by unfold scr2 scr; omega)
    rw [hY y, tst (md_isThrower_ok h1 (by rw [g2]; omega)), if_pos (by rw [g2]; exact e1)]
    dsimp only
    rw [tst (md_isIn_ok h2 i_lit i_lit), if_pos e2]
    dsimp only
    rw [tst (md_isIn_ok h3 i_lit i_lit), if_pos e3]
    dsimp only
    have k := md_say_lp (L := L) (a2 := a2) (a3 := a3) (g.I h) (show t < 12 by omega) (R := R) (by rw [g3]; exact hR) R 0 (by omega)
    rw [lgR_cg g5 R] at k
    exact k
  by_cases el : ((lgR s t R : Nat) : Int) < 2
  · rw [if_pos el] at hX
    have hYs := goY s Eqh.rf
    rw [md_say_b3_eq, if_neg (by rw [hR]; omega), if_pos (by rw [w32_id (by omega) (by omega)]; exact el)] at hYs
    exact Cal.pure hX hYs rfl h
  rw [if_neg el] at hX
  have tog : ∀ y, Eqh s y → ∃ z, FT y z ∧ ((yO s t R ∧ md_togethers L (t : Int) y = ok L 1 z ∧ z 242 53 = yA s t R ∧ md_togetherLeast L z = ok L (sg (fun i => yV s t R (yP s t R + i)) (yM s t R + 1 - yP s t R)) z) ∨ (¬ yO s t R ∧ md_togethers L (t : Int) y = ok L 0 z)) := fun y g => by
    have gg : ∀ k j, ¬ scr2 k j → y k j = s k j := g
    have g5 : ∀ k j, 243 ≤ k ∧ k ≤ 245 → y k j = s k j := fun k j hk => gg k j (by unfold scr2 scr; omega)
    have g3 : y 242 3 = s 242 3 := gg _ _ (by unfold scr2 scr; omega)
    obtain ⟨c1, c2, c3, c4, c5⟩ := y_cg (t := (t : Int)) g5 R
    obtain ⟨z, z0, z1⟩ := md_togethers_ok (L := L) (g.I h) (show t < 12 by omega)
    rw [g3, hR, Int.toNat_natCast, c1, c2, c3, c4, c5] at z1
    refine ⟨z, z0, ?_⟩
    rcases z1 with ⟨ho, q1, q2, q3, q4, q5⟩ | ⟨hn, q1⟩
    · exact Or.inl ⟨ho, q1, q2, md_least_ok q3 q4 (by omega) (by omega) q5⟩
    · exact Or.inr ⟨hn, q1⟩
  obtain ⟨y, y0, y1⟩ := su_reckon_ok (L := L) h (show t < 12 by omega)
  rw [hR, Int.toNat_natCast] at y1
  rcases y1 with ⟨ho, q1, q2, q3⟩ | ⟨hn, q1⟩
  case inr =>
    rw [q1, ok_bind] at hX
    dsimp only at hX
    rw [if_pos w32_0] at hX
    obtain ⟨z, z0, z1⟩ := tog y y0.q
    rcases z1 with ⟨q, -⟩ | ⟨-, z1⟩
    · exact absurd q hn
    · have hYy := goY y y0.q
      rw [md_say_b3_eq, if_neg (by rw [y0 _ _ (by decide) (by decide) (by decide), hR]; omega), if_neg (by rw [w32_id (by omega) (by omega)]; exact el), z1, ok_bind] at hYy
      dsimp only at hYy
      rw [if_pos w32_0] at hYy
      exact Cal.qy hX hYy rfl y0.q.v z0.v h z0.2
  have g5 : ∀ k j, 243 ≤ k ∧ k ≤ 245 → y k j = s k j := fun k j hk => y0 k j (by omega) (by omega) (by omega)
  obtain ⟨c1, c2, c3, c4, c5⟩ := y_cg (t := (t : Int)) g5 R
  obtain ⟨x, x1, x2, x3⟩ := su_atLeast_ok (L := L) (y0.q.I h) (show t < 12 by omega) q3 (by omega)
  rw [y0 242 3 (by decide) (by decide) (by decide), hR, Int.toNat_natCast, c3, c4] at x1
  have gx := y0.tr x2
  have hIx := gx.q.I h
  have gx5 : ∀ k j, 243 ≤ k ∧ k ≤ 245 → x k j = s k j := fun k j hk => gx k j (by omega) (by omega) (by omega)
  have ehx : hun x t = hun s t := hun_cg gx5 (gx _ _ (by decide) (by decide) (by decide))
  rw [q1, ok_bind] at hX
  dsimp only at hX
  rw [if_neg (by rw [w32_1]; decide), x1, ok_bind] at hX
  dsimp only at hX
  obtain ⟨S, hS⟩ : ∃ S, S = sg (fun i => yV s t R (yP s t R + i)) (yM s t R + 1 - yP s t R) := ⟨_, rfl⟩
  obtain ⟨Ln, hLn⟩ : ∃ Ln, Ln = tDiv (w64 (yA s t R)) 100 * w32 a3 + tDiv (w64 (tMod (w64 (yA s t R)) 100 * w32 a3)) 100 := ⟨_, rfl⟩
  -- the reference from a state behind the class
  have goZ : ∀ w, Eqh s w → ∃ z, FT w z ∧ (0 < w32 (lCmp S Ln) → md_say L (t : Int) a2 a3 w = (md_hundredthsOf L (t : Int) z).bind (fun r4 => (jma_min L 9 (tDiv (w32 r4.1) 10) r4.2.2).bind (fun r5 => (jma_max L 1 r5.1 r5.2.2).bind (fun r6 => (jma_min L 12 ((lgR s t R : Nat) : Int) r6.2.2).bind (fun r7 => (md_isStrong L r7.1 r6.1 a2 a3 50 r7.2.2).bind (fun r8 => (md_one L r8.1 r8.2.2).bind (fun r9 => ok L r9.1 r9.2.2))))))) ∧ (¬ 0 < w32 (lCmp S Ln) → md_say L (t : Int) a2 a3 w = ok L 2 z) := fun w g => by
    obtain ⟨z, z0, z1⟩ := tog w g
    rcases z1 with ⟨-, z1, z2, z3⟩ | ⟨q, -⟩
    · have g3 : w 242 3 = s 242 3 := g _ _ (by unfold scr2 scr; omega)
      refine ⟨z, z0, fun ec => ?_, fun ec => ?_⟩
      · rw [goY w g, md_say_b3_eq, if_neg (by rw [g3, hR]; omega), if_neg (by rw [w32_id (by omega) (by omega)]; exact el), z1, ok_bind]
        dsimp only
        rw [if_neg (by rw [w32_1]; decide), z3, ok_bind]
        dsimp only
        rw [if_pos (by rw [z2, ← hS, ← hLn]; exact ec)]
      · rw [goY w g, md_say_b3_eq, if_neg (by rw [g3, hR]; omega), if_neg (by rw [w32_id (by omega) (by omega)]; exact el), z1, ok_bind]
        dsimp only
        rw [if_neg (by rw [w32_1]; decide), z3, ok_bind]
        dsimp only
        rw [if_neg (by rw [z2, ← hS, ← hLn]; exact ec)]
    · exact absurd ho q
  by_cases ec : 0 < w32 (lCmp S Ln)
  case neg =>
    rw [if_neg (by rw [q2, ← hS, ← hLn]; exact ec)] at hX
    obtain ⟨z, z0, -, z1⟩ := goZ x gx.q
    exact Cal.qy hX (z1 ec) rfl gx.q.v z0.v h z0.2
  obtain ⟨p, hp⟩ : ∃ p : Int, p = if 1 < (if tDiv (w32 (hun s t)) 10 < 9 then tDiv (w32 (hun s t)) 10 else 9) then (if tDiv (w32 (hun s t)) 10 < 9 then tDiv (w32 (hun s t)) 10 else 9) else 1 := ⟨_, rfl⟩
  have hpb : 1 ≤ p ∧ p ≤ 9 := by rw [hp]; (repeat' split) <;> omega
  obtain ⟨m, hm⟩ : ∃ m : Nat, m = min (lgR s t R) 12 := ⟨_, rfl⟩
  have m9 : ∀ z : hh_Sv, jma_min L 9 (tDiv (w32 (hun s t)) 10) z = ok L (if tDiv (w32 (hun s t)) 10 < 9 then tDiv (w32 (hun s t)) 10 else 9) z := fun z => jma_min_ok i_lit ⟨by omega, by omega⟩
  have m1 : ∀ z : hh_Sv, jma_max L 1 (if tDiv (w32 (hun s t)) 10 < 9 then tDiv (w32 (hun s t)) 10 else 9) z = ok L p z := fun z => by
    rw [jma_max_ok i_lit (by split <;> exact ⟨by omega, by omega⟩), hp]
  obtain ⟨o, o1, o2⟩ := tr_isSeen_ok (L := L) (s := x) (n := m) (p := p) (e := a2) (w := a3) (v := 50) hIx.1.1 (by omega) (by omega) (by omega)
  have j1 : jma_min L ((lgR s t R : Nat) : Int) 12 x = ok L (m : Int) x := by
    rw [jma_min_ok ⟨by omega, by omega⟩ i_lit]
    congr 1
    split <;> omega
  rw [if_pos (by rw [q2, ← hS, ← hLn]; exact ec), hx_hundredthsOf_ok hIx h1, ok_bind, ehx] at hX
  dsimp only at hX
  rw [m9, ok_bind] at hX
  dsimp only at hX
  rw [m1, ok_bind] at hX
  dsimp only at hX
  rw [j1, ok_bind] at hX
  dsimp only at hX
  rw [o1, ok_bind] at hX
  dsimp only at hX
  have go := gx.q.tr o2
  obtain ⟨z, z0, z1, -⟩ := goZ o go
  have z1 := z1 ec
  have hIz : Inv z := z0.I (go.I h)
  have gz5 : ∀ k j, 243 ≤ k ∧ k ≤ 245 → z k j = s k j := fun k j hk => by rw [z0.1 k j (by omega) (by omega)]; exact go k j (by unfold scr2 scr; omega)
  have gz3 : z 242 3 = s 242 3 := by rw [z0.1 _ _ (by decide) (by decide)]; exact go _ _ (by unfold scr2 scr; omega)
  obtain ⟨w, w1, w2, -⟩ := md_hundredthsOf_ok (L := L) hIz h1 e1.1
  rw [hun_cg gz5 gz3] at w1
  obtain ⟨v, v1, v2⟩ := md_isStrong_ok (L := L) (s := w) (n := m) (p := p) (e := a2) (w := a3) (v := 50) (by omega) (by omega) (by omega)
  have j2 : jma_min L 12 ((lgR s t R : Nat) : Int) w = ok L (m : Int) w := by
    rw [jma_min_ok i_lit ⟨by omega, by omega⟩]
    congr 1
    split <;> omega
  rw [w1, ok_bind] at z1
  dsimp only at z1
  rw [m9, ok_bind] at z1
  dsimp only at z1
  rw [m1, ok_bind] at z1
  dsimp only at z1
  rw [j2, ok_bind] at z1
  dsimp only at z1
  rw [v1, ok_bind] at z1
  dsimp only at z1
  rw [md_one_eq] at z1
  have vH : iv_H v := (w2.tr v2).H z0.2
  have ev : Eqv o v := z0.v.tr (w2.tr v2).v
  by_cases ew : w32 (seen p a2 a3 50 m) = 0
  · rw [if_pos ew] at hX z1
    rw [ok_bind] at z1
    exact Cal.qy hX z1 rfl go.v ev h vH
  · rw [if_neg ew] at hX z1
    rw [ok_bind] at z1
    exact Cal.qy hX z1 rfl go.v ev h vH
end
