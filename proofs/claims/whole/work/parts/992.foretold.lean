/-! foretold -/
section
variable {L : Nat} {s : hh_Sv}
/-- what is asked ahead of the throw k of row r, with its hard and guards -/
def v45 (s : hh_Sv) (rs : List Ru) (r k : Nat) : Nat → Int := s45 (wk rs (s 245 r).toNat (fun k => s 246 (24 * r + k)) (fun k => s 247 (24 * r + k)) k) (s 246 (24 * r + k)) (s 247 (24 * r + k))
def gF (s : hh_Sv) (rs : List Ru) (f : (Nat → Int) → Bool → Int) (r k : Nat) : Int := f (v45 s rs r k) ((s 245 r).toNat.testBit k)
def rF (s : hh_Sv) (rs : List Ru) (t : Int) (f : (Nat → Int) → Bool → Int) (r : Nat) : Int := if s 243 r = t then sg (gF s rs f r) (s 244 r).toNat else 0
theorem rF_bd {rs : List Ru} {t c : Int} {f : (Nat → Int) → Bool → Int} (h : Inv s) (hc : 0 ≤ c) (hf : ∀ v b, 0 ≤ f v b ∧ f v b ≤ c) {n : Nat} (hn : (n : Int) ≤ s 242 3) : 0 ≤ sg (rF s rs t f) n ∧ sg (rF s rs t f) n ≤ c * 24 * n := by
  have hrow : ∀ r, r < n → 0 ≤ rF s rs t f r ∧ rF s rs t f r ≤ c * 24 := fun r hr => by
    obtain ⟨x, m, -, -, n1, -, n3, -⟩ := row_x h (r := r) (by omega)
    unfold rF
    rw [n1, Int.toNat_natCast]
    have a := sg_nn (f := gF s rs f r) (n := m) (fun k _ => (hf _ _).1)
    have b := sg_le (f := gF s rs f r) (c := c) (n := m) (fun k _ => (hf _ _).2)
    have b2 : c * (m : Int) ≤ c * 24 := Int.mul_le_mul_of_nonneg_left (by omega) hc
    have b3 : 0 ≤ c * 24 := Int.mul_nonneg hc (by decide)
    split <;> omega
  exact ⟨sg_nn (fun r hr => (hrow r hr).1), sg_le (fun r hr => (hrow r hr).2)⟩
noncomputable def ftF (rs : List Ru) (a2 a3 w : Int) (v : Nat → Int) (b : Bool) : Int := if a2 ≤ chV rs v ∧ chV rs v ≤ a3 then (if w = 0 then chV rs v else if w = 2 then 1 else ((b.toNat : Nat) : Int)) else 0
theorem ftF_bd {rs : List Ru} {a2 a3 w : Int} (v : Nat → Int) (b : Bool) : 0 ≤ ftF rs a2 a3 w v b ∧ ftF rs a2 a3 w v b ≤ 100 := by
  have := chV_bd (rs := rs) (v := v)
  have := Bool.toNat_le b
  unfold ftF
  (repeat' split) <;> omega
theorem RW.x {r x n : Nat} {hd gd : Nat → Int} (h : RW s r x n hd gd) : (s 245 r).toNat = x ∧ (s 244 r).toNat = n := by
  rw [h.2.2.2.2.1, h.2.2.2.2.2.2.1]
  exact ⟨rfl, rfl⟩
theorem hx_foretold_lp {t : Nat} {rs : List Ru} {a2 a3 a4 : Int} (h : Inv s) (ht : t < 12) (hS : ru_S s t rs) (h2 : I32 a2) (h3 : I32 a3) (h4 : I32 a4) (h4' : 0 ≤ a4 ∧ a4 ≤ 2) {R : Nat} (hR : s 242 3 = (R : Int)) : ∀ (j r : Nat) (u : hh_Sv), r + j = R → FA 29 s u → ∃ y, hx_foretold_b3 L (t : Int) a2 a3 a4 (sg (rF s rs t (ftF rs a2 a3 a4)) r) (r : Int) u = ok L (sg (rF s rs t (ftF rs a2 a3 a4)) R) y ∧ FA 29 s y := by
  obtain ⟨R1, R2, R3⟩ := h.R
  have kq := ru_kd (L := L) (h.cell (t := t) (by omega))
  have eq : ru_q s t = (s 16 t).toNat := by unfold ru_q; rw [if_pos ht]
  have hin : (0 : Int) ≤ (t : Int) ∧ (t : Int) < 12 := by omega
  have hti : I32 (t : Int) := ⟨by omega, by omega⟩
  intro j
  induction j with
  | zero =>
    intro r u e g
    rw [Nat.add_zero] at e
    subst e
    rw [hx_foretold_b3_eq, if_neg (by rw [g _ _ (by decide), R1, hR]; omega)]
    exact ⟨u, rfl, g⟩
  | succ j ih =>
    intro r u e g
    have hr : (r : Int) < s 242 3 := by omega
    obtain ⟨x, n, hw⟩ := row_RW h hr
    obtain ⟨ex, en⟩ := hw.x
    have w10 := hw.2.2.2.2.2.2.2.2.2
    have hn := hw.2.1
    have hIu := (g.q (by decide)).I h
    have s1 : sg (rF s rs t (ftF rs a2 a3 a4)) (r + 1) = sg (rF s rs t (ftF rs a2 a3 a4)) r + rF s rs t (ftF rs a2 a3 a4) r := rfl
    rw [hx_foretold_b3_eq, if_pos (by rw [g _ _ (by decide), R1, hR, w32_id (by omega) (by omega), w32_id (by omega) (by omega)]; omega), co_isOf_ok hIu hti (by rw [g _ _ (by decide)]; exact hr), ok_bind]
    dsimp only
    by_cases eo : s 243 r = (t : Int)
    case neg =>
      have e0 : rF s rs t (ftF rs a2 a3 a4) r = 0 := by unfold rF; rw [if_neg eo]
      rw [if_pos (zb_w.mpr (fun q => by
        rcases q with q | q
        · omega
        · rw [g _ _ (by decide)] at q
          exact eo q))]
      have := ih (r + 1) u (by omega) g
      rw [s1, e0, Int.add_zero] at this
      exact this
    rw [if_neg (fun q => zb_w.mp q (Or.inr (by rw [g _ _ (by decide)]; exact eo)))]
    obtain ⟨c, c1, c2, c3⟩ := as_clear_ok (L := L) (s := u) as_29 (by decide)
    rw [c1, ok_bind]
    dsimp only
    have inner : ∀ (j k : Nat) (u : hh_Sv), k + j = n → FA 29 s u → asC u 29 (wk rs x (fun k => s 246 (24 * r + k)) (fun k => s 247 (24 * r + k)) k) → ∃ u', FA 29 s u' ∧ hx_foretold_b4 L (t : Int) a2 a3 a4 (sg (rF s rs t (ftF rs a2 a3 a4)) r + sg (gF s rs (ftF rs a2 a3 a4) r) k) (r : Int) (k : Int) u = hx_foretold_b4 L (t : Int) a2 a3 a4 (sg (rF s rs t (ftF rs a2 a3 a4)) r + sg (gF s rs (ftF rs a2 a3 a4) r) n) (r : Int) (n : Int) u' := by
      intro j
      induction j with
      | zero =>
        intro k u e g a
        rw [Nat.add_zero] at e
        subst e
        exact ⟨u, g, rfl⟩
      | succ j ih2 =>
        intro k u e g a
        have hwu := hw.q (g.q (by decide))
        obtain ⟨w, w1, w2, w3⟩ := co_show_ok (L := L) hwu (show k < n by omega) a
        have gw := g.tr w2
        have wq := gw.q (by decide)
        have hww := hw.q wq
        obtain ⟨Sw, ew⟩ := hS.q h.lw wq (show t < 16 by omega)
        have hb := wk_bd (x := x) hS.ok (i := k) (fun j hj => (w10 j (by omega)).2.2)
        have hrk : (0 ≤ s 246 (24 * r + k) ∧ s 246 (24 * r + k) ≤ 3) ∧ 0 ≤ s 247 (24 * r + k) ∧ s 247 (24 * r + k) ≤ 3 := (w10 k (by omega)).2.2
        have ev : s45 (wk rs x (fun k => s 246 (24 * r + k)) (fun k => s 247 (24 * r + k)) k) (s 246 (24 * r + k)) (s 247 (24 * r + k)) = v45 s rs r k := by unfold v45; rw [ex]
        have w3 : asC w 29 (s45 (wk rs x (fun k => s 246 (24 * r + k)) (fun k => s 247 (24 * r + k)) k) (s 246 (24 * r + k)) (s 247 (24 * r + k))) := w3
        have hv45 := hb.p45 (h := s 246 (24 * r + k)) (g := s 247 (24 * r + k)) (by omega) (by omega)
        have ch := ru_chanceOf_ok (L := L) (wq.lw h.lw) (show t < 16 by omega) Sw as_29 w3 hv45 (by omega)
        rw [ew, ev] at ch
        obtain ⟨y, y1, y2, y3⟩ := cl_step (L := L) h hw (show t < 16 by omega) hS (show k < n by omega) gw w3
        obtain ⟨u', q1, q2⟩ := ih2 (k + 1) y (by omega) y2 y3
        refine ⟨u', q1, ?_⟩
        have ek : (w 16 t).toNat = ru_q s t := by rw [gw _ _ (by decide), ← eq]
        have e4 : gF s rs (ftF rs a2 a3 a4) r k = ftF rs a2 a3 a4 (v45 s rs r k) (x.testBit k) := by unfold gF; rw [ex]
        have b9 : ∀ z : Int, z = sg (rF s rs t (ftF rs a2 a3 a4)) r + sg (gF s rs (ftF rs a2 a3 a4) r) k + gF s rs (ftF rs a2 a3 a4) r k → hx_foretold_b9 L (t : Int) a2 a3 a4 z (r : Int) (k : Int) (((x.testBit k).toNat : Nat) : Int) w = hx_foretold_b4 L (t : Int) a2 a3 a4 (sg (rF s rs t (ftF rs a2 a3 a4)) r + sg (gF s rs (ftF rs a2 a3 a4) r) n) (r : Int) (n : Int) u' := fun z hz => by
          rw [← q2, hx_foretold_b9_eq, if_pos hin, Int.toNat_natCast, if_pos (by rw [ek]; exact kq), ek, y1, ok_bind, hz, sg, Int.add_assoc]
          rfl
        have hcb := chV_bd (rs := rs) (v := v45 s rs r k)
        rw [hx_foretold_b4_eq, if_pos (by have := hw.1; omega), Int.toNat_natCast, hwu.2.2.2.2.2.1, if_pos (by rw [w32_id (by omega) (by omega), w32_id (by omega) (by omega)]; omega), w1, ok_bind]
        dsimp only
        rw [co_hit hww (by omega), ok_bind, if_pos hin]
        dsimp only
        rw [Int.toNat_natCast, if_pos (by rw [ek]; exact kq), ek, ch, ok_bind]
        dsimp only
        rw [hx_isIn_ok ⟨by omega, by omega⟩ h2 h3, ok_bind, h4.w]
        dsimp only
        by_cases ei : a2 ≤ chV rs (v45 s rs r k) ∧ chV rs (v45 s rs r k) ≤ a3
        case neg =>
          rw [if_pos (zb_w.mpr ei)]
          refine b9 _ ?_
          rw [e4]
          unfold ftF
          rw [if_neg ei, Int.add_zero]
        rw [if_neg (fun q => zb_w.mp q ei)]
        have e5 : ftF rs a2 a3 a4 (v45 s rs r k) (x.testBit k) = if a4 = 0 then chV rs (v45 s rs r k) else if a4 = 2 then 1 else (((x.testBit k).toNat : Nat) : Int) := by unfold ftF; rw [if_pos ei]
        rw [e4, e5] at b9
        by_cases q0 : a4 = 0
        · rw [if_pos q0, hx_foretold_b8_eq]
          exact b9 _ (by rw [if_pos q0])
        · rw [if_neg q0]
          by_cases q2 : a4 = 2
          · rw [if_pos q2, hx_foretold_b8_eq]
            exact b9 _ (by rw [if_neg q0, if_pos q2])
          · rw [if_neg q2]
            rw [if_neg q0, if_neg q2] at b9
            cases hb2 : x.testBit k
            · rw [hb2] at b9
              rw [if_pos bw_f, hx_foretold_b8_eq]
              exact b9 _ rfl
            · rw [hb2] at b9
              rw [if_neg bw_t, hx_foretold_b8_eq]
              exact b9 _ rfl
    obtain ⟨u', q1, q2⟩ := inner n 0 c (by omega) (g.tr c2) c3
    have q2 : hx_foretold_b4 L (t : Int) a2 a3 a4 (sg (rF s rs t (ftF rs a2 a3 a4)) r + 0) (r : Int) 0 c = _ := q2
    rw [Int.add_zero] at q2
    have e0 : rF s rs t (ftF rs a2 a3 a4) r = sg (gF s rs (ftF rs a2 a3 a4) r) n := by unfold rF; rw [if_pos eo, en]
    have hnx := ih (r + 1) u' (by omega) q1
    rw [s1, e0] at hnx
    rw [q2, hx_foretold_b4_eq, if_pos (by have := hw.1; omega), Int.toNat_natCast, (hw.q (q1.q (by decide))).2.2.2.2.2.1, if_neg (by omega)]
    exact hnx
end
