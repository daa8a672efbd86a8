/-! bets of the class -/
/-- what a throw brings to the count w: 0 on a hit, 1 right of these, 2 on a miss, 3 right of these -/
def btF (bs : List Ru) (w : Nat) (v : Nat → Int) (b : Bool) : Int := if fk v bs = (if w < 2 then 0 else 4) ∧ (w % 2 = 1 → b = decide (w < 2)) then 1 else 0
theorem btF_bd {bs : List Ru} {w : Nat} (v : Nat → Int) (b : Bool) : 0 ≤ btF bs w v b ∧ btF bs w v b ≤ 1 := by
  unfold btF
  split <;> omega
section
variable {L : Nat} {s : hh_Sv}
theorem hx_isWatcher_ok {a : Int} (ha : I32 a) : hx_isWatcher L a s = ok L (zb (0 ≤ a ∧ a ≤ 3)) s := by
  rw [hx_isWatcher_eq, hx_isIn_ok ha i_lit i_lit, ok_bind]
  first
    | rfl
    | (rw [if_pos zb_01])
theorem md_isWatcher_ok {a : Int} (ha : I32 a) : md_isWatcher L a s = ok L (zb (0 ≤ a ∧ a ≤ 3)) s := by
  rw [md_isWatcher_eq, md_isIn_ok ha i_lit i_lit, ok_bind]
  first
    | rfl
    | (rw [if_pos zb_01])
theorem hx_countBets_ok {t wt : Nat} {rs bs : List Ru} {o p : Nat} (h : Inv s) (ht : t < 12) (hwt : wt < 4) (hS : ru_S s t rs) (hB : ru_S s (12 + wt) bs) (ho : o = 0 ∨ o = 1) (hp : p = 0 ∨ p = 1) : ∃ y, hx_countBets L (wt : Int) (t : Int) (o : Int) (p : Int) s = ok L (sg (rF s rs t (btF bs (2 * (1 - o) + p))) (s 242 3).toNat) y ∧ FA 29 s y := by
  obtain ⟨R1, R2, R3⟩ := h.R
  obtain ⟨R, hR, hR2⟩ := row_n h
  have kq := ru_kd (L := L) (h.cell (t := t) (by omega))
  have kb := ru_kd (L := L) (h.cell (t := 12 + wt) (by omega))
  have eq : ru_q s t = (s 16 t).toNat := by unfold ru_q; rw [if_pos ht]
  have eqb : ru_q s (12 + wt) = (s 17 wt).toNat := by unfold ru_q; rw [if_neg (by omega), if_pos (by omega), Nat.add_sub_cancel_left]
  have hin : (0 : Int) ≤ (t : Int) ∧ (t : Int) < 12 := by omega
  have hinb : (0 : Int) ≤ (wt : Int) ∧ (wt : Int) < 4 := by omega
  have hti : I32 (t : Int) := ⟨by omega, by omega⟩
  have wo : w32 (o : Int) = (o : Int) := w32_id (by omega) (by omega)
  have wp : w32 (p : Int) = (p : Int) := w32_id (by omega) (by omega)
  generalize hW : 2 * (1 - o) + p = W
  have hW2 : (W < 2 ↔ o = 1) ∧ (W % 2 = 1 ↔ p = 1) := by rcases ho with rfl | rfl <;> rcases hp with rfl | rfl <;> omega
  rw [hx_countBets_eq, hR, Int.toNat_natCast]
  have main : ∀ (j r : Nat) (u : hh_Sv), r + j = R → FA 29 s u → ∃ y, hx_countBets_b1 L (wt : Int) (t : Int) (o : Int) (p : Int) (sg (rF s rs t (btF bs W)) r) (r : Int) u = ok L (sg (rF s rs t (btF bs W)) R) y ∧ FA 29 s y := by
    intro j
    induction j with
    | zero =>
      intro r u e g
      rw [Nat.add_zero] at e
      subst e
      rw [hx_countBets_b1_eq, if_neg (by rw [g _ _ (by decide), R1, hR]; omega)]
      exact ⟨u, rfl, g⟩
    | succ j ih =>
      intro r u e g
      have hr : (r : Int) < s 242 3 := by omega
      obtain ⟨x, n, hw⟩ := row_RW h hr
      obtain ⟨ex, en⟩ := hw.x
      have w10 := hw.2.2.2.2.2.2.2.2.2
      have hn := hw.2.1
      have hIu := (g.q (by decide)).I h
      have s1 : sg (rF s rs t (btF bs W)) (r + 1) = sg (rF s rs t (btF bs W)) r + rF s rs t (btF bs W) r := rfl
      rw [hx_countBets_b1_eq, if_pos (by rw [g _ _ (by decide), R1, hR, w32_id (by omega) (by omega), w32_id (by omega) (by omega)]; omega), co_isOf_ok hIu hti (by rw [g _ _ (by decide)]; exact hr), ok_bind]
      dsimp only
      by_cases eo : s 243 r = (t : Int)
      case neg =>
        have e0 : rF s rs t (btF bs W) r = 0 := by unfold rF; rw [if_neg eo]
        rw [if_pos (zb_w.mpr (fun q => by
          rcases q with q | q
          · omega
          · rw [g _ _ (by decide)] at q
            exact eo q))]
        have := ih (r + 1) u (by omega) g
        rw [s1, e0, Int.add_zero] at this
        exact this
      rw [if_neg (fun q => zb_w.mp q (Or.inr (by rw [g _ _ (by decide)]; exact eo)))]
      obtain ⟨c, c1, c2, c3⟩ := as_clear_ok (L := L) (s := u) as_29 (by decide)
      rw [c1, ok_bind]
      dsimp only
      have inner : ∀ (j k : Nat) (u : hh_Sv), k + j = n → FA 29 s u → asC u 29 (wk rs x (fun k => s 246 (24 * r + k)) (fun k => s 247 (24 * r + k)) k) → ∃ u', FA 29 s u' ∧ hx_countBets_b2 L (wt : Int) (t : Int) (o : Int) (p : Int) (sg (rF s rs t (btF bs W)) r + sg (gF s rs (btF bs W) r) k) (r : Int) (k : Int) u = hx_countBets_b2 L (wt : Int) (t : Int) (o : Int) (p : Int) (sg (rF s rs t (btF bs W)) r + sg (gF s rs (btF bs W) r) n) (r : Int) (n : Int) u' := by
        intro j
        induction j with
        | zero =>
          intro k u e g a
          rw [Nat.add_zero] at e
          subst e
          exact ⟨u, g, rfl⟩
        | succ j ih2 =>
          intro k u e g a
          have hwu := hw.q (g.q (by decide))
          obtain ⟨w, w1, w2, w3⟩ := co_show_ok (L := L) hwu (show k < n by omega) a
          have gw := g.tr w2
          have wq := gw.q (by decide)
          have hww := hw.q wq
          obtain ⟨Bw, ew⟩ := hB.q h.lw wq (show 12 + wt < 16 by omega)
          have hb := wk_bd (x := x) hS.ok (i := k) (fun j hj => (w10 j (by omega)).2.2)
          have hrk : (0 ≤ s 246 (24 * r + k) ∧ s 246 (24 * r + k) ≤ 3) ∧ 0 ≤ s 247 (24 * r + k) ∧ s 247 (24 * r + k) ≤ 3 := (w10 k (by omega)).2.2
          have ev : s45 (wk rs x (fun k => s 246 (24 * r + k)) (fun k => s 247 (24 * r + k)) k) (s 246 (24 * r + k)) (s 247 (24 * r + k)) = v45 s rs r k := by unfold v45; rw [ex]
          have w3 : asC w 29 (s45 (wk rs x (fun k => s 246 (24 * r + k)) (fun k => s 247 (24 * r + k)) k) (s 246 (24 * r + k)) (s 247 (24 * r + k))) := w3
          have hv45 := hb.p45 (h := s 246 (24 * r + k)) (g := s 247 (24 * r + k)) (by omega) (by omega)
          have bo := ru_betOn_ok (L := L) (wq.lw h.lw) (show 12 + wt < 16 by omega) Bw as_29 w3 hv45 (by omega)
          rw [ew, ev] at bo
          obtain ⟨y, y1, y2, y3⟩ := cl_step (L := L) h hw (show t < 16 by omega) hS (show k < n by omega) gw w3
          obtain ⟨u', q1, q2⟩ := ih2 (k + 1) y (by omega) y2 y3
          refine ⟨u', q1, ?_⟩
          have ek : (w 16 t).toNat = ru_q s t := by rw [gw _ _ (by decide), ← eq]
          have ekb : (w 17 wt).toNat = ru_q s (12 + wt) := by rw [gw _ _ (by decide), ← eqb]
          have e4 : gF s rs (btF bs W) r k = btF bs W (v45 s rs r k) (x.testBit k) := by unfold gF; rw [ex]
          have b6 : ∀ z : Int, z = sg (rF s rs t (btF bs W)) r + sg (gF s rs (btF bs W) r) k + btF bs W (v45 s rs r k) (x.testBit k) → hx_countBets_b6 L (wt : Int) (t : Int) (o : Int) (p : Int) z (r : Int) (k : Int) (((x.testBit k).toNat : Nat) : Int) w = hx_countBets_b2 L (wt : Int) (t : Int) (o : Int) (p : Int) (sg (rF s rs t (btF bs W)) r + sg (gF s rs (btF bs W) r) n) (r : Int) (n : Int) u' := fun z hz => by
            rw [← q2, hx_countBets_b6_eq, if_pos hin, Int.toNat_natCast, if_pos (by rw [ek]; exact kq), ek, y1, ok_bind, hz, sg, e4, Int.add_assoc]
            rfl
          have b4 : ∀ kk : Nat, (kk = if W < 2 then 0 else 4) → hx_countBets_b4 L (wt : Int) (t : Int) (o : Int) (p : Int) (sg (rF s rs t (btF bs W)) r + sg (gF s rs (btF bs W) r) k) (r : Int) (k : Int) (((x.testBit k).toNat : Nat) : Int) (ru_k (fk (v45 s rs r k) bs)) (ru_k kk) w = hx_countBets_b2 L (wt : Int) (t : Int) (o : Int) (p : Int) (sg (rF s rs t (btF bs W)) r + sg (gF s rs (btF bs W) r) n) (r : Int) (n : Int) u' := fun kk hkk => by
            have hk7 : kk ≤ 7 := by rw [hkk]; split <;> omega
            have hfk := fk_le (v := v45 s rs r k) hB.ok
            have p1 : (fk (v45 s rs r k) bs = (if W < 2 then 0 else 4) ∧ (W % 2 = 1 → x.testBit k = decide (W < 2))) → btF bs W (v45 s rs r k) (x.testBit k) = 1 := fun q => if_pos q
            have p0 : ¬ (fk (v45 s rs r k) bs = (if W < 2 then 0 else 4) ∧ (W % 2 = 1 → x.testBit k = decide (W < 2))) → btF bs W (v45 s rs r k) (x.testBit k) = 0 := fun q => if_neg q
            rw [hx_countBets_b4_eq, ru_k_w _ hfk, ru_k_w _ hk7, wo, wp]
            by_cases ef : fk (v45 s rs r k) bs = kk
            · rw [if_pos (by rw [ef])]
              by_cases ep : p = 0
              · rw [if_pos (by omega), hx_countBets_b5_eq]
                refine b6 _ ?_
                rw [p1 ⟨ef.trans hkk, fun q => by have := hW2.2.mp q; omega⟩]
              · rw [if_neg (by omega), w32_id (i := (((x.testBit k).toNat : Nat) : Int)) (by omega) (by have := Bool.toNat_le (x.testBit k); omega)]
                have hbo : ((((x.testBit k).toNat : Nat) : Int) = (o : Int)) ↔ x.testBit k = decide (W < 2) := by
                  rcases ho with rfl | rfl
                  · have : ¬ W < 2 := fun q => by have := hW2.1.mp q; omega
                    rw [decide_eq_false this]
                    cases x.testBit k <;> decide
                  · rw [decide_eq_true (hW2.1.mpr rfl)]
                    cases x.testBit k <;> decide
                by_cases eb : x.testBit k = decide (W < 2)
                · rw [if_pos (hbo.mpr eb), hx_countBets_b5_eq]
                  refine b6 _ ?_
                  rw [p1 ⟨ef.trans hkk, fun _ => eb⟩]
                · rw [if_neg (fun q => eb (hbo.mp q))]
                  refine b6 _ ?_
                  rw [p0 (fun q => eb (q.2 (hW2.2.mpr (by omega)))), Int.add_zero]
            · rw [if_neg (fun q => ef (ru_k_inj _ hfk _ hk7 q))]
              refine b6 _ ?_
              rw [p0 (fun q => ef (q.1.trans hkk.symm)), Int.add_zero]
          rw [hx_countBets_b2_eq, if_pos (by have := hw.1; omega), Int.toNat_natCast, hwu.2.2.2.2.2.1, if_pos (by rw [w32_id (by omega) (by omega), w32_id (by omega) (by omega)]; omega), w1, ok_bind]
          dsimp only
          rw [co_hit hww (by omega), ok_bind, if_pos hinb]
          dsimp only
          rw [Int.toNat_natCast, if_pos (by rw [ekb]; exact kb), ekb, bo, ok_bind, wo]
          dsimp only
          rcases ho with rfl | rfl
          · rw [if_pos (show ((0 : Nat) : Int) = 0 from rfl)]
            exact b4 4 (by rw [if_neg (fun q => by have := hW2.1.mp q; omega)])
          · rw [if_neg (show ¬ ((1 : Nat) : Int) = 0 by decide)]
            exact b4 0 (by rw [if_pos (hW2.1.mpr rfl)])
      obtain ⟨u', q1, q2⟩ := inner n 0 c (by omega) (g.tr c2) c3
      have q2 : hx_countBets_b2 L (wt : Int) (t : Int) (o : Int) (p : Int) (sg (rF s rs t (btF bs W)) r + 0) (r : Int) 0 c = _ := q2
      rw [Int.add_zero] at q2
      have e0 : rF s rs t (btF bs W) r = sg (gF s rs (btF bs W) r) n := by unfold rF; rw [if_pos eo, en]
      have hnx := ih (r + 1) u' (by omega) q1
      rw [s1, e0] at hnx
      rw [q2, hx_countBets_b2_eq, if_pos (by have := hw.1; omega), Int.toNat_natCast, (hw.q (q1.q (by decide))).2.2.2.2.2.1, if_neg (by omega)]
      exact hnx
  exact main R 0 s (by omega) FA.rf
end
