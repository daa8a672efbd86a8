/-! foretold: the reference, the call -/
section
variable {L : Nat} {s : hh_Sv}
theorem md_foretold_lp {t : Nat} {rs : List Ru} {a2 a3 a4 : Int} (h : Inv s) (ht : t < 12) (hS : ru_S s t rs) (h2 : I32 a2) (h3 : I32 a3) (h4 : I32 a4) (h4' : 0 ≤ a4 ∧ a4 ≤ 2) {R : Nat} (hR : s 242 3 = (R : Int)) : ∀ (j r : Nat) (u : hh_Sv), r + j = R → FM s u → ∃ y, md_foretold_b3 L (t : Int) a2 a3 a4 (sg (rF s rs t (ftF rs a2 a3 0)) r) (sg (rF s rs t (ftF rs a2 a3 1)) r) (sg (rF s rs t (ftF rs a2 a3 2)) r) (r : Int) u = ok L (sg (rF s rs t (ftF rs a2 a3 a4)) R) y ∧ FM s y := by
  obtain ⟨R1, R2, R3⟩ := h.R
  have t16 : t < 16 := by omega
  intro j
  induction j with
  | zero =>
    intro r u e g
    rw [Nat.add_zero] at e
    subst e
    rw [md_foretold_b3_eq, if_neg (by rw [g _ _ (by decide) (by decide), hR]; omega), h4.w]
    have h4c : a4 = 0 ∨ a4 = 1 ∨ a4 = 2 := by omega
    rcases h4c with rfl | rfl | rfl
    · rw [if_pos rfl]
      exact ⟨u, rfl, g⟩
    · rw [if_neg (by decide), if_pos rfl]
      exact ⟨u, rfl, g⟩
    · rw [if_neg (by decide), if_neg (by decide)]
      exact ⟨u, rfl, g⟩
  | succ j ih =>
    intro r u e g
    have hr : (r : Int) < s 242 3 := by omega
    obtain ⟨x, n, hw⟩ := row_RW h hr
    obtain ⟨ex, en⟩ := hw.x
    obtain ⟨b1, b2, b3, b4, b5, b6, b7, b8, b9⟩ := h.row hr
    have w10 := hw.2.2.2.2.2.2.2.2.2
    have hn := hw.2.1
    have hin : (0 : Int) ≤ (r : Int) ∧ (r : Int) < 60 := by have := hw.1; omega
    have sn : ∀ f, sg (rF s rs t f) (r + 1) = sg (rF s rs t f) r + rF s rs t f r := fun f => rfl
    rw [md_foretold_b3_eq, if_pos (by rw [g _ _ (by decide) (by decide), hR, w32_id (by omega) (by omega), w32_id (by omega) (by omega)]; omega)]
    have hnx := fun u' g' => ih (r + 1) u' (by omega) g'
    rw [sn, sn, sn] at hnx
    by_cases eo : s 243 r = (t : Int)
    case neg =>
      have e0 : ∀ f, rF s rs t f r = 0 := fun f => by unfold rF; rw [if_neg eo]
      rw [e0, e0, e0, Int.add_zero, Int.add_zero, Int.add_zero] at hnx
      rw [md_foretold_b4_eq, if_pos hin, Int.toNat_natCast]
      have ew : ¬ w32 (u 243 r) = w32 (t : Int) := by
        rw [g _ _ (by decide) (by decide), w32_id (by omega) (by omega), w32_id (by omega) (by omega)]
        exact eo
      by_cases en0 : w32 0 < w32 (u 244 r)
      · rw [if_pos en0, if_pos hin, if_neg ew]
        exact hnx u g
      · rw [if_neg en0]
        exact hnx u g
    have inner : ∀ (j k : Nat) (u : hh_Sv), k + j = n → FM s u → ∃ u', FM s u' ∧ md_foretold_b4 L (t : Int) a2 a3 a4 (sg (rF s rs t (ftF rs a2 a3 0)) r + sg (gF s rs (ftF rs a2 a3 0) r) k) (sg (rF s rs t (ftF rs a2 a3 1)) r + sg (gF s rs (ftF rs a2 a3 1) r) k) (sg (rF s rs t (ftF rs a2 a3 2)) r + sg (gF s rs (ftF rs a2 a3 2) r) k) (r : Int) (k : Int) u = md_foretold_b4 L (t : Int) a2 a3 a4 (sg (rF s rs t (ftF rs a2 a3 0)) r + sg (gF s rs (ftF rs a2 a3 0) r) n) (sg (rF s rs t (ftF rs a2 a3 1)) r + sg (gF s rs (ftF rs a2 a3 1) r) n) (sg (rF s rs t (ftF rs a2 a3 2)) r + sg (gF s rs (ftF rs a2 a3 2) r) n) (r : Int) (n : Int) u' := by
      intro j
      induction j with
      | zero =>
        intro k u e g
        rw [Nat.add_zero] at e
        subst e
        exact ⟨u, g, rfl⟩
      | succ j ih2 =>
        intro k u e g
        have hwu := hw.m.q g.q
        obtain ⟨Su, -⟩ := hS.q h.lw g.q t16
        obtain ⟨y, y1, y2, y3⟩ := md_ahead_ok (L := L) (g.q.lw h.lw) hwu ht (by rw [g _ _ (by decide) (by decide)]; exact eo) Su (show k ≤ n by omega)
        have gy := g.tr y2
        have hwy := hw.m.q gy.q
        obtain ⟨Sy, -⟩ := hS.q h.lw gy.q t16
        have hb := wk_bd (x := x) hS.ok (i := k) (fun j hj => (w10 j (by omega)).2.2)
        have hrk : (0 ≤ s 246 (24 * r + k) ∧ s 246 (24 * r + k) ≤ 3) ∧ 0 ≤ s 247 (24 * r + k) ∧ s 247 (24 * r + k) ≤ 3 := (w10 k (by omega)).2.2
        have ev : s45 (wk rs x (fun k => s 246 (24 * r + k)) (fun k => s 247 (24 * r + k)) k) (s 246 (24 * r + k)) (s 247 (24 * r + k)) = v45 s rs r k := by unfold v45; rw [ex]
        obtain ⟨z, z1, z2, z3⟩ := md_chanceNow_ok (L := L) (gy.q.lw h.lw) t16 Sy y3 hb (by omega) (a := s 246 (24 * r + k)) (b := s 247 (24 * r + k)) (by omega) (by omega)
        rw [ev] at z1
        have gz := gy.tr z2
        have hwz := hw.m.q gz.q
        obtain ⟨u', q1, q2⟩ := ih2 (k + 1) z (by omega) gz
        refine ⟨u', q1, ?_⟩
        have e4 : ∀ w, gF s rs (ftF rs a2 a3 w) r k = ftF rs a2 a3 w (v45 s rs r k) (x.testBit k) := fun w => by unfold gF; rw [ex]
        have sk : ∀ w, sg (gF s rs (ftF rs a2 a3 w) r) (k + 1) = sg (gF s rs (ftF rs a2 a3 w) r) k + ftF rs a2 a3 w (v45 s rs r k) (x.testBit k) := fun w => by rw [sg, e4]
        rw [sk, sk, sk] at q2
        have hcb := chV_bd (rs := rs) (v := v45 s rs r k)
        rw [← q2, md_foretold_b4_eq, if_pos hin, Int.toNat_natCast, if_pos (by rw [hwu.2.2.2.2.1, w32_id (by omega) (by omega), w32_id (by omega) (by omega)]; omega), if_pos hin, if_pos (by rw [g _ _ (by decide) (by decide), eo]), y1, ok_bind]
        dsimp only
        rw [md_hardAt_ok hwy (by omega), ok_bind]
        dsimp only
        rw [md_guardAt_ok hwy (by omega), ok_bind]
        dsimp only
        rw [z1, ok_bind]
        dsimp only
        rw [md_isIn_ok ⟨by omega, by omega⟩ h2 h3, ok_bind]
        dsimp only
        by_cases ei : a2 ≤ chV rs (v45 s rs r k) ∧ chV rs (v45 s rs r k) ≤ a3
        case neg =>
          have ez : ∀ w, ftF rs a2 a3 w (v45 s rs r k) (x.testBit k) = 0 := fun w => by unfold ftF; rw [if_neg ei]
          rw [if_pos (zb_w.mpr ei), ez, ez, ez, Int.add_zero, Int.add_zero, Int.add_zero]
          rfl
        have f0 : ftF rs a2 a3 0 (v45 s rs r k) (x.testBit k) = chV rs (v45 s rs r k) := by unfold ftF; rw [if_pos ei, if_pos rfl]
        have f1 : ftF rs a2 a3 1 (v45 s rs r k) (x.testBit k) = (((x.testBit k).toNat : Nat) : Int) := by unfold ftF; rw [if_pos ei, if_neg (by decide), if_neg (by decide)]
        have f2 : ftF rs a2 a3 2 (v45 s rs r k) (x.testBit k) = 1 := by unfold ftF; rw [if_pos ei, if_neg (by decide), if_pos rfl]
        rw [if_neg (fun q => zb_w.mp q ei), md_hit hwz (by omega), ok_bind, f0, f1, f2]
        dsimp only
        rw [md_one_ok (by have := Bool.toNat_le (x.testBit k); omega), ok_bind]
        simp only [Int.add_assoc]
        rfl
    obtain ⟨u', q1, q2⟩ := inner n 0 u (by omega) g
    have q2 : md_foretold_b4 L (t : Int) a2 a3 a4 (sg (rF s rs t (ftF rs a2 a3 0)) r + 0) (sg (rF s rs t (ftF rs a2 a3 1)) r + 0) (sg (rF s rs t (ftF rs a2 a3 2)) r + 0) (r : Int) 0 u = _ := q2
    rw [Int.add_zero, Int.add_zero, Int.add_zero] at q2
    have e0 : ∀ f, rF s rs t f r = sg (gF s rs f r) n := fun f => by unfold rF; rw [if_pos eo, en]
    rw [e0, e0, e0] at hnx
    rw [q2, md_foretold_b4_eq, if_pos hin, Int.toNat_natCast, if_neg (by rw [(hw.m.q q1.q).2.2.2.2.1]; omega)]
    exact hnx u' q1
theorem rF_cg {u : hh_Sv} {rs : List Ru} {t : Int} {f : (Nat → Int) → Bool → Int} (g : ∀ k j, 243 ≤ k ∧ k ≤ 247 → u k j = s k j) : rF u rs t f = rF s rs t f := by
  funext r
  have e6 : (fun k => u 246 (24 * r + k)) = (fun k => s 246 (24 * r + k)) := funext fun k => g _ _ (by decide)
  have e7 : (fun k => u 247 (24 * r + k)) = (fun k => s 247 (24 * r + k)) := funext fun k => g _ _ (by decide)
  have e8 : gF u rs f r = gF s rs f r := by
    funext k
    unfold gF v45
    rw [g 245 r (by decide), e6, e7, g 246 _ (by decide), g 247 _ (by decide)]
  unfold rF
  rw [g 243 r (by decide), g 244 r (by decide), e8]
theorem c_foretold {a1 a2 a3 a4 : Int} (h1 : I32 a1) (h2 : I32 a2) (h3 : I32 a3) (h4 : I32 a4) (h : Inv s) : Cal L s (hx_foretold L a1 a2 a3 a4) (md_foretold L a1 a2 a3 a4) w32 := by
  obtain ⟨T1, T2, T3⟩ := h.T
  have hX := hx_foretold_eq L a1 a2 a3 a4 s
  have hY := fun z => md_foretold_eq L a1 a2 a3 a4 z
  have hY0 := hY s
  rw [tst (co_hasThrower_ok h1 (by omega))] at hX
  rw [tst (md_isThrower_ok h1 (by omega))] at hY0
  by_cases e1 : 0 ≤ a1 ∧ a1 < s 242 2
  case neg => exact Cal.pure (hX.trans (if_neg (by omega))) (hY0.trans (if_neg e1)) rfl h
  rw [if_pos (by omega)] at hX
  rw [if_pos e1] at hY0
  dsimp only at hX hY0
  rw [tst (hx_isIn_ok h2 i_lit i_lit)] at hX
  rw [tst (md_isIn_ok h2 i_lit i_lit)] at hY0
  by_cases e2 : 0 ≤ a2 ∧ a2 ≤ 100
  case neg => exact Cal.pure (hX.trans (if_neg e2)) (hY0.trans (if_neg e2)) rfl h
  rw [if_pos e2] at hX hY0
  dsimp only at hX hY0
  rw [tst (hx_isIn_ok h3 i_lit i_lit)] at hX
  rw [tst (md_isIn_ok h3 i_lit i_lit)] at hY0
  by_cases e3 : 0 ≤ a3 ∧ a3 ≤ 100
  case neg => exact Cal.pure (hX.trans (if_neg e3)) (hY0.trans (if_neg e3)) rfl h
  rw [if_pos e3] at hX hY0
  dsimp only at hX hY0
  rw [tst (hx_isIn_ok h4 i_lit i_lit)] at hX
  rw [tst (md_isIn_ok h4 i_lit i_lit)] at hY0
  by_cases e4 : 0 ≤ a4 ∧ a4 ≤ 2
  case neg => exact Cal.pure (hX.trans (if_neg e4)) (hY0.trans (if_neg e4)) rfl h
  rw [if_pos e4] at hX
  dsimp only at hX
  obtain ⟨t, rfl⟩ := Int.eq_ofNat_of_zero_le e1.1
  obtain ⟨R, hR, hR2⟩ := row_n h
  obtain ⟨rs, hS⟩ := h.law (t := t) (by omega)
  obtain ⟨y, y1, y2⟩ := hx_foretold_lp (L := L) h (show t < 12 by omega) hS h2 h3 h4 e4 hR R 0 s (by omega) FA.rf
  have y1 : hx_foretold_b3 L (t : Int) a2 a3 a4 0 0 s = _ := y1
  rw [y1] at hX
  have yq := y2.q (by decide)
  obtain ⟨z, z1, z2⟩ := md_foretold_lp (L := L) (yq.I h) (show t < 12 by omega) (hS.q h.lw yq (by omega)).1 h2 h3 h4 e4 (R := R) (by rw [y2 _ _ (by decide)]; exact hR) R 0 y (by omega) FM.rf
  rw [rF_cg (s := s) (fun k j hk => y2 _ _ (by omega)), rF_cg (s := s) (fun k j hk => y2 _ _ (by omega)), rF_cg (s := s) (fun k j hk => y2 _ _ (by omega)), rF_cg (s := s) (fun k j hk => y2 _ _ (by omega))] at z1
  have z1 : md_foretold_b3 L (t : Int) a2 a3 a4 0 0 0 0 y = _ := z1
  have hYy := hY y
  rw [tst (md_isThrower_ok h1 (by rw [y2 _ _ (by decide)]; omega)), if_pos (by rw [y2 _ _ (by decide)]; exact e1)] at hYy
  dsimp only at hYy
  rw [tst (md_isIn_ok h2 i_lit i_lit), if_pos e2] at hYy
  dsimp only at hYy
  rw [tst (md_isIn_ok h3 i_lit i_lit), if_pos e3] at hYy
  dsimp only at hYy
  rw [tst (md_isIn_ok h4 i_lit i_lit), if_pos e4] at hYy
  dsimp only at hYy
  rw [z1] at hYy
  exact Cal.q hX hYy rfl yq z2.q h
end
