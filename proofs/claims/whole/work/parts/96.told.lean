/-! told, next -/
section
variable {L : Nat} {s : hh_Sv}
theorem c_told {a1 a2 a3 : Int} (h1 : I32 a1) (h2 : I32 a2) (h3 : I32 a3) (h : Inv s) : Cal L s (hx_told L a1 a2 a3) (md_told L a1 a2 a3) w32 := by
  obtain ⟨R1, R2, R3⟩ := h.R
  have hX := hx_told_eq L a1 a2 a3 s
  have hY := fun z => md_told_eq L a1 a2 a3 z
  rw [tst (co_hasRow_ok h1 (by omega))] at hX
  by_cases e1 : 0 ≤ a1 ∧ a1 < s 242 3
  case neg => exact Cal.pure (hX.trans (if_neg (by omega))) ((hY s).trans (by rw [tst (md_isRow_ok h1 (by omega)), if_neg e1])) rfl h
  rw [if_pos (by omega)] at hX
  dsimp only at hX
  obtain ⟨r, rfl⟩ := Int.eq_ofNat_of_zero_le e1.1
  have hin : (0 : Int) ≤ (r : Int) ∧ (r : Int) < 60 := by omega
  obtain ⟨x, n, hw⟩ := row_RW h e1.2
  obtain ⟨t, t1, t2, t3⟩ := h.owner e1.2
  obtain ⟨rs, hS⟩ := h.law (t := t) (by omega)
  have hw' := hw
  obtain ⟨w1, w2, w3, w4, w5, w6, w7, w8, w9, w10⟩ := hw'
  have hp := p2_24 w2
  have hI : ∀ z : hh_Sv, Eqh s z → md_isIn L a2 (-1) ((z 244 r) - 1) z = ok L (zb (-1 ≤ a2 ∧ a2 ≤ (n : Int) - 1)) z := fun z hz => by
    rw [show z 244 r = (n : Int) from (hz _ _ (by unfold scr2 scr; omega)).trans w7]
    exact md_isIn_ok h2 i_lit ⟨by omega, by omega⟩
  rw [h2.w] at hX
  by_cases ek : a2 = -1
  · have hYs := hY s
    rw [tst (md_isRow_ok h1 (by rw [(Eqh.rf (s := s)) 242 3 (by unfold scr2 scr; omega)]; omega)), if_pos (by rw [(Eqh.rf (s := s)) 242 3 (by unfold scr2 scr; omega)]; exact e1)] at hYs
    dsimp only at hYs
    rw [if_pos hin, Int.toNat_natCast, tst (hI s (Eqh.rf (s := s)))] at hYs
    rw [if_pos (by omega), h2.w, if_pos ek, h3.w] at hYs
    dsimp only at hYs
    rw [if_pos ek, hx_toldOfRow_eq, h3.w] at hX
    by_cases q0 : a3 = 0
    · rw [if_pos q0, if_pos hin, ok_bind, Int.toNat_natCast, t2] at hX
      rw [if_pos q0, if_pos hin, t3] at hYs
      exact Cal.pure hX hYs rfl h
    · rw [if_neg q0] at hX hYs
      by_cases q1 : a3 = 1
      · rw [if_pos q1, if_pos hin, ok_bind, Int.toNat_natCast, w6] at hX
        rw [if_pos q1, if_pos hin, w7] at hYs
        exact Cal.pure hX hYs rfl h
      · rw [if_neg q1] at hX hYs
        by_cases q2 : a3 = 2
        · rw [if_pos q2, if_pos hin, Int.toNat_natCast, w4, jin_bitCount_ok L (by omega), ok_bind] at hX
          rw [if_pos q2, if_pos hin, w5, md_bits_all L (by omega), ok_bind] at hYs
          exact Cal.pure hX hYs rfl h
        · rw [if_neg q2] at hX hYs
          exact Cal.pure hX hYs rfl h
  rw [if_neg ek] at hX
  by_cases en : a2 < 0
  · rw [if_pos en] at hX
    have hYs := hY s
    rw [tst (md_isRow_ok h1 (by rw [(Eqh.rf (s := s)) 242 3 (by unfold scr2 scr; omega)]; omega)), if_pos (by rw [(Eqh.rf (s := s)) 242 3 (by unfold scr2 scr; omega)]; exact e1)] at hYs
    dsimp only at hYs
    rw [if_pos hin, Int.toNat_natCast, tst (hI s (Eqh.rf (s := s)))] at hYs
    exact Cal.pure hX (hYs.trans (if_neg (by omega))) rfl h
  rw [if_neg en, if_pos hin, Int.toNat_natCast] at hX
  by_cases el : a2 < (n : Int)
  case neg =>
    have hYs := hY s
    rw [tst (md_isRow_ok h1 (by rw [(Eqh.rf (s := s)) 242 3 (by unfold scr2 scr; omega)]; omega)), if_pos (by rw [(Eqh.rf (s := s)) 242 3 (by unfold scr2 scr; omega)]; exact e1)] at hYs
    dsimp only at hYs
    rw [if_pos hin, Int.toNat_natCast, tst (hI s (Eqh.rf (s := s)))] at hYs
    exact Cal.pure (hX.trans (if_neg (by rw [w6, w32_id (i := (n : Int)) (by omega) (by omega)]; exact el))) (hYs.trans (if_neg (by omega))) rfl h
  rw [if_pos (by rw [w6, w32_id (i := (n : Int)) (by omega) (by omega)]; exact el)] at hX
  obtain ⟨k, rfl⟩ := Int.eq_ofNat_of_zero_le (show 0 ≤ a2 by omega)
  have hk : k < n := by omega
  obtain ⟨u, u1, u2, u3⟩ := hx_walkTo_ok (L := L) h hw t1 t2 hS (show k ≤ n by omega)
  rw [if_pos hk] at u3
  have uq := u2.q (by decide)
  have hIu := uq.I h
  have hwu := hw.q uq
  obtain ⟨Su, eu⟩ := hS.q h.lw uq (show t < 16 by omega)
  obtain ⟨y, y1, y2, y3⟩ := md_ahead_ok (L := L) hIu.lw hwu.m t1 (by rw [u2 _ _ (by decide)]; exact t3) Su (show k ≤ n by omega)
  have yq := y2.q
  have hwy := hwu.q yq
  obtain ⟨Sy, ey⟩ := Su.q hIu.lw yq (show t < 16 by omega)
  have hb := wk_bd (x := x) hS.ok (i := k) (fun j hj => (w10 j (by omega)).2.2)
  have hrk : (0 ≤ s 246 (24 * r + k) ∧ s 246 (24 * r + k) ≤ 3) ∧ 0 ≤ s 247 (24 * r + k) ∧ s 247 (24 * r + k) ≤ 3 := (w10 k hk).2.2
  have hYu := hY u
  rw [tst (md_isRow_ok h1 (by rw [uq 242 3 (by unfold scr2 scr; omega)]; omega)), if_pos (by rw [uq 242 3 (by unfold scr2 scr; omega)]; exact e1)] at hYu
  dsimp only at hYu
  rw [if_pos hin, Int.toNat_natCast, tst (hI u uq)] at hYu
  rw [if_pos (by omega), h2.w, if_neg ek] at hYu
  dsimp only at hYu
  rw [y1, ok_bind] at hYu
  dsimp only at hYu
  rw [u1, ok_bind] at hX
  dsimp only at hX
  rw [h3.w] at hX hYu
  obtain ⟨a0, a1', a2', a3', a4', a5', a6'⟩ := u3
  have t01 := Bool.toNat_le (x.testBit k)
  by_cases q0 : a3 = 0
  · rw [if_pos q0, co_hit hwu (by omega), ok_bind] at hX
    rw [if_pos q0, md_hit hwy.m (by omega), ok_bind] at hYu
    dsimp only at hX hYu
    rw [md_one_ok (by omega), ok_bind] at hYu
    by_cases qb : x.testBit k = true
    · rw [if_neg (by rw [qb]; exact bw_t)] at hX
      rw [qb] at hYu
      exact Cal.q hX hYu rfl uq yq h
    · rw [if_pos (by rw [Bool.eq_false_iff.mpr qb]; exact bw_f)] at hX
      rw [Bool.eq_false_iff.mpr qb] at hYu
      exact Cal.q hX hYu rfl uq yq h
  rw [if_neg q0] at hX hYu
  by_cases q1 : a3 = 1
  · rw [if_pos q1, a4'] at hX
    rw [if_pos q1, md_hardAt_ok hwy.m hk, ok_bind] at hYu
    exact Cal.q hX hYu rfl uq yq h
  rw [if_neg q1] at hX hYu
  by_cases q2 : a3 = 2
  · rw [if_pos q2, a5'] at hX
    rw [if_pos q2, md_guardAt_ok hwy.m hk, ok_bind] at hYu
    exact Cal.q hX hYu rfl uq yq h
  rw [if_neg q2] at hX hYu
  by_cases q3 : a3 = 3
  · rw [if_pos q3, a2'] at hX
    rw [if_pos q3, if_pos (by decide), y3 2 (by decide)] at hYu
    exact Cal.q hX hYu rfl uq yq h
  rw [if_neg q3] at hX hYu
  by_cases q4 : a3 = 4
  · have kq := ru_kd (L := L) (hIu.cell (t := t) (by omega))
    have hv45 := hb.p45 (h := s 246 (24 * r + k)) (g := s 247 (24 * r + k)) (by omega) (by omega)
    rw [if_pos q4, hx_lawOf_ok hIu w1 t1 (by rw [u2 _ _ (by decide)]; exact t2), ok_bind] at hX
    dsimp only at hX
    rw [Int.toNat_natCast, if_pos kq, ru_chanceOf_ok hIu.lw (by omega) Su as_29 ⟨a0, a1', a2', a3', a4', a5', a6'⟩ hv45 (by omega), ok_bind] at hX
    obtain ⟨z, z1, z2, z3⟩ := md_chanceNow_ok (L := L) (yq.I hIu).lw (show t < 16 by omega) Sy y3 hb (by omega) (a := s 246 (24 * r + k)) (b := s 247 (24 * r + k)) (by omega) (by omega)
    rw [if_pos q4, if_pos hin, md_hardAt_ok hwy.m hk, ok_bind] at hYu
    dsimp only at hYu
    rw [md_guardAt_ok hwy.m hk, ok_bind, y2 _ _ (by decide) (by decide), u2 _ _ (by decide), t3] at hYu
    dsimp only at hYu
    rw [z1, ok_bind] at hYu
    exact Cal.q hX hYu rfl uq (yq.tr z2.q) h
  rw [if_neg q4] at hX hYu
  by_cases q5 : a3 = 5
  · rw [if_pos q5, a0] at hX
    rw [if_pos q5, if_pos (by decide), y3 0 (by decide)] at hYu
    exact Cal.q hX hYu rfl uq yq h
  rw [if_neg q5] at hX hYu
  by_cases q6 : a3 = 6
  · rw [if_pos q6, a1'] at hX
    rw [if_pos q6, if_pos (by decide), y3 1 (by decide)] at hYu
    exact Cal.q hX hYu rfl uq yq h
  rw [if_neg q6] at hX hYu
  by_cases q7 : a3 = 7
  · rw [if_pos q7, a6'] at hX
    rw [if_pos q7, if_pos (by decide), y3 6 (by decide)] at hYu
    exact Cal.q hX hYu rfl uq yq h
  rw [if_neg q7] at hX hYu
  exact Cal.q hX hYu rfl uq yq h
theorem c_next {a1 a2 : Int} (h1 : I32 a1) (h2 : I32 a2) (h : Inv s) : Cal L s (hx_next L a1 a2) (md_next L a1 a2) w32 := by
  obtain ⟨R1, R2, R3⟩ := h.R
  have hX := hx_next_eq L a1 a2 s
  have hY := fun z => md_next_eq L a1 a2 z
  rw [tst (co_hasRow_ok h1 (by omega))] at hX
  by_cases e1 : 0 ≤ a1 ∧ a1 < s 242 3
  case neg => exact Cal.pure (hX.trans (if_neg (by omega))) ((hY s).trans (by rw [tst (md_isRow_ok h1 (by omega)), if_neg e1])) rfl h
  rw [if_pos (by omega)] at hX
  dsimp only at hX
  obtain ⟨r, rfl⟩ := Int.eq_ofNat_of_zero_le e1.1
  have hin : (0 : Int) ≤ (r : Int) ∧ (r : Int) < 60 := by omega
  obtain ⟨x, n, hw⟩ := row_RW h e1.2
  obtain ⟨t, t1, t2, t3⟩ := h.owner e1.2
  obtain ⟨rs, hS⟩ := h.law (t := t) (by omega)
  have hw' := hw
  obtain ⟨w1, w2, w3, w4, w5, w6, w7, w8, w9, w10⟩ := hw'
  have kq := ru_kd (L := L) (h.cell (t := t) (by omega))
  obtain ⟨u, u1, u2, u3⟩ := hx_walkTo_ok (L := L) h hw t1 t2 hS (Nat.le_refl n)
  rw [if_neg (by omega)] at u3
  have uq := u2.q (by decide)
  have hIu := uq.I h
  obtain ⟨Su, eu⟩ := hS.q h.lw uq (show t < 16 by omega)
  have hb := wk_bd (x := x) hS.ok (i := n) (fun j hj => (w10 j (by omega)).2.2)
  obtain ⟨p, p1, p2, p3⟩ := ru_aim_ok (L := L) hIu.lw (show t < 16 by omega) Su as_29 (by decide) u3 hb (by omega)
  rw [eu] at p1
  have g := u2.tr p2
  have pq := g.q (by decide)
  have hIp := pq.I h
  obtain ⟨Sp, ep⟩ := hS.q h.lw pq (show t < 16 by omega)
  have b1 := fo_3 (v := s45 (wk rs x (fun k => s 246 (24 * r + k)) (fun k => s 247 (24 * r + k)) n) 0 0) (Or.inl rfl) hS.ok
  have b1 : 0 ≤ hdN rs (wk rs x (fun k => s 246 (24 * r + k)) (fun k => s 247 (24 * r + k)) n) ∧ hdN rs (wk rs x (fun k => s 246 (24 * r + k)) (fun k => s 247 (24 * r + k)) n) ≤ 3 := b1
  have b2 := fo_3 (v := s45 (wk rs x (fun k => s 246 (24 * r + k)) (fun k => s 247 (24 * r + k)) n) (hdN rs (wk rs x (fun k => s 246 (24 * r + k)) (fun k => s 247 (24 * r + k)) n)) 0) (Or.inr rfl) hS.ok
  have b2 : 0 ≤ gdN rs (wk rs x (fun k => s 246 (24 * r + k)) (fun k => s 247 (24 * r + k)) n) (hdN rs (wk rs x (fun k => s 246 (24 * r + k)) (fun k => s 247 (24 * r + k)) n)) ∧ gdN rs (wk rs x (fun k => s 246 (24 * r + k)) (fun k => s 247 (24 * r + k)) n) (hdN rs (wk rs x (fun k => s 246 (24 * r + k)) (fun k => s 247 (24 * r + k)) n)) ≤ 3 := b2
  rw [hx_lawOf_ok h w1 t1 t2, ok_bind] at hX
  dsimp only at hX
  rw [if_pos hin, Int.toNat_natCast, w6, u1, ok_bind, Int.toNat_natCast] at hX
  dsimp only at hX
  rw [if_pos kq, p1, ok_bind, h2.w] at hX
  dsimp only at hX
  generalize hv : wk rs x (fun k => s 246 (24 * r + k)) (fun k => s 247 (24 * r + k)) n = v at *
  by_cases e2 : 0 ≤ a2 ∧ a2 ≤ 3
  case neg =>
    rw [if_neg (by omega), if_neg (by omega), if_neg (by omega), if_neg (by omega)] at hX
    refine Cal.q (v2 := -1) (s2 := p) hX ?_ rfl pq Eqh.rf h
    rw [hY p, tst (md_isRow_ok h1 (by rw [g _ _ (by decide)]; omega)), if_pos (by rw [g _ _ (by decide)]; exact e1)]
    dsimp only
    rw [tst (md_isIn_ok h2 i_lit i_lit), if_neg e2]
  have hwp := hw.q pq
  obtain ⟨y, y1, y2, y3⟩ := md_ahead_ok (L := L) hIp.lw hwp.m t1 (by rw [g _ _ (by decide)]; exact t3) Sp (Nat.le_refl n)
  rw [hv] at y3
  have yq := y2.q
  obtain ⟨Sy, ey⟩ := Sp.q hIp.lw yq (show t < 16 by omega)
  have hIy := yq.I hIp
  obtain ⟨z, z1, z2, z3⟩ := md_hardNow_ok (L := L) hIy.lw (show t < 16 by omega) Sy y3 hb (by omega)
  have zq := z2.q
  obtain ⟨Sz, ez⟩ := Sy.q hIy.lw zq (show t < 16 by omega)
  have hIz := zq.I hIy
  obtain ⟨m, m1, m2, m3⟩ := md_guardNow_ok (L := L) hIz.lw (show t < 16 by omega) Sz z3 (hb.p45 (by omega) (by omega)) (by omega) (a := hdN rs v) (by omega)
  have eg : gdN rs (s45 v 0 0) (hdN rs v) = gdN rs v (hdN rs v) := by unfold gdN; rw [s45_s45]
  rw [eg] at m1
  rw [s45_s45] at m3
  have mq := m2.q
  obtain ⟨Sm, em⟩ := Sz.q hIz.lw mq (show t < 16 by omega)
  have hIm := mq.I hIz
  have gall := (y2.tr z2).tr m2
  have hYp := hY p
  rw [tst (md_isRow_ok h1 (by rw [g _ _ (by decide)]; omega)), if_pos (by rw [g _ _ (by decide)]; exact e1)] at hYp
  dsimp only at hYp
  rw [tst (md_isIn_ok h2 i_lit i_lit), if_pos e2] at hYp
  dsimp only at hYp
  rw [if_pos hin, Int.toNat_natCast, hwp.2.2.2.2.2.2.1, y1, ok_bind] at hYp
  dsimp only at hYp
  rw [if_pos hin, y2 _ _ (by decide) (by decide), g _ _ (by decide), t3, z1, ok_bind] at hYp
  dsimp only at hYp
  rw [if_pos hin, z2 _ _ (by decide) (by decide), y2 _ _ (by decide) (by decide), g _ _ (by decide), t3, m1, ok_bind, h2.w] at hYp
  dsimp only at hYp
  have qa := gall.q
  obtain ⟨a0, a1', a2', a3', a4', a5', a6'⟩ := p3
  by_cases q0 : a2 = 0
  · rw [if_pos q0, a4'] at hX
    rw [if_pos q0] at hYp
    exact Cal.q hX hYp rfl pq qa h
  rw [if_neg q0] at hX hYp
  by_cases q1 : a2 = 1
  · rw [if_pos q1, a5'] at hX
    rw [if_pos q1] at hYp
    exact Cal.q hX hYp rfl pq qa h
  rw [if_neg q1] at hX hYp
  by_cases q2 : a2 = 2
  · obtain ⟨o, o1, o2, o3⟩ := md_chanceNow_ok (L := L) hIm.lw (show t < 16 by omega) Sm m3 (hb.p45 (by omega) (by omega)) (by omega) (a := hdN rs v) (b := gdN rs v (hdN rs v)) (by omega) (by omega)
    rw [s45_s45] at o1
    rw [if_pos q2, if_pos kq, ← ep, ru_chanceOf_ok hIp.lw (by omega) Sp as_29 ⟨a0, a1', a2', a3', a4', a5', a6'⟩ (hb.p45 (by omega) (by omega)) (by omega), ok_bind] at hX
    rw [if_pos q2, if_pos hin, gall _ _ (by decide) (by decide), g _ _ (by decide), t3, o1, ok_bind] at hYp
    exact Cal.q hX hYp rfl pq (qa.tr o2.q) h
  rw [if_neg q2, if_pos (by omega), a2'] at hX
  rw [if_neg q2, if_pos (by decide), m3 2 (by decide)] at hYp
  exact Cal.q hX hYp rfl pq qa h
end
