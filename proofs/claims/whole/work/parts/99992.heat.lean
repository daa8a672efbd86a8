/-! heat -/
theorem bAnd_not {a b : Nat} (ha : a < 9223372036854775808) (hb : b < 9223372036854775808) : bAnd (a : Int) (bXor (b : Int) (-1)) = ((a ^^^ (a &&& b) : Nat) : Int) := by
  have hl : a ^^^ (a &&& b) < 9223372036854775808 := Nat.xor_lt_two_pow (n := 63) ha (Nat.lt_of_le_of_lt Nat.and_le_left ha)
  unfold bAnd bXor
  rw [opq_eq, opq_eq, BitVec.ofInt_toInt, b_of ha, b_of hb]
  refine b_to ?_ hl
  apply Nat.eq_of_testBit_eq
  intro i
  rw [Nat.testBit_xor, Nat.testBit_and, BitVec.testBit_toNat, BitVec.getLsbD_and, BitVec.getLsbD_xor, BitVec.getLsbD_ofNat, BitVec.getLsbD_ofNat]
  have e : (BitVec.ofInt 64 (-1)).getLsbD i = decide (i < 64) := by
    rw [show BitVec.ofInt 64 (-1) = BitVec.allOnes 64 from rfl, BitVec.getLsbD_allOnes]
  rw [e]
  by_cases h1 : i < 64
  · rw [decide_eq_true h1]
    cases a.testBit i <;> cases b.testBit i <;> rfl
  · rw [decide_eq_false h1, Nat.testBit_lt_two_pow (Nat.lt_of_lt_of_le (show a < 2 ^ 64 by omega) (Nat.pow_le_pow_right (by decide) (by omega)))]
    rfl
theorem mx_congr {f g : Nat → Bool} : ∀ {n : Nat}, (∀ k, k < n → f k = g k) → mx f n = mx g n
  | 0, _ => rfl
  | n + 1, h => by rw [mx, mx, mx_congr (fun k hk => h k (by omega)), rl_congr (fun k hk => h k (by omega))]
def gNew (f : Nat → Bool) (k : Nat) : Bool := f k && decide (rl f k = 0)
theorem gNew_eq {f : Nat → Bool} {k : Nat} : gNew f k = (f k && !(decide (1 ≤ k) && f (k - 1))) := by
  unfold gNew
  cases k with
  | zero => rfl
  | succ k =>
    rw [rl, decide_eq_true (show 1 ≤ k + 1 by omega), Bool.true_and, show k + 1 - 1 = k from rfl]
    cases e : f k
    · rw [if_neg (by decide)]; rfl
    · rw [if_pos rfl, decide_eq_false (by omega)]; rfl
section
variable {L : Nat} {s : hh_Sv}
def hot (s : hh_Sv) (rs : List Ru) (r k : Nat) : Bool := decide (0 < wk rs (s 245 r).toNat (fun k => s 246 (24 * r + k)) (fun k => s 247 (24 * r + k)) k 2)
def hTA (s : hh_Sv) (rs : List Ru) (t : Int) (F : (Nat → Bool) → Nat → Nat → Bool) (r : Nat) : Int := if s 243 r = t then ((cnt (F (hot s rs r) (s 245 r).toNat) (s 244 r).toNat : Nat) : Int) else 0
def hF0 (f : Nat → Bool) (_ k : Nat) : Bool := f k
def hF1 (f : Nat → Bool) (x k : Nat) : Bool := f k && x.testBit k
def hFN (f : Nat → Bool) (_ k : Nat) : Bool := gNew f k
def hTL (s : hh_Sv) (rs : List Ru) (t : Int) : Nat → Nat
  | 0 => 0
  | r + 1 => if s 243 r = t then max (hTL s rs t r) (mx (hot s rs r) (s 244 r).toNat) else hTL s rs t r
theorem hTL_bd {rs : List Ru} {t : Int} (h : Inv s) : ∀ {r : Nat}, (r : Int) ≤ s 242 3 → hTL s rs t r ≤ 24
  | 0, _ => by rw [hTL]; omega
  | r + 1, hr => by
    have ih := hTL_bd (rs := rs) (t := t) h (r := r) (by omega)
    obtain ⟨x, n, x1, x2, n1, n2, n3, n4, n5⟩ := row_x h (r := r) (by omega)
    have := mx_le (f := hot s rs r) n
    rw [hTL, n1, Int.toNat_natCast]
    split <;> omega
theorem hx_hotBits_ok {r x n t : Nat} {rs : List Ru} {u : hh_Sv} (h : Inv s) (hw : RW s r x n (fun k => s 246 (24 * r + k)) (fun k => s 247 (24 * r + k))) (ht : t < 12) (ho : s 10 r = (t : Int)) (hS : ru_S s t rs) (g : FA 29 s u) : ∃ y, hx_hotBits L (r : Int) u = ok L ((nb (hot s rs r) n : Nat) : Int) y ∧ FA 29 s y := by
  have ex := hw.x.1
  have w10 := hw.2.2.2.2.2.2.2.2.2
  have hn := hw.2.1
  have hr60 := hw.1
  have gq := g.q (by decide)
  have kq := ru_kd (L := L) (h.cell (t := t) (by omega))
  obtain ⟨Su, eu⟩ := hS.q h.lw gq (show t < 16 by omega)
  obtain ⟨c, c1, c2, c3⟩ := as_clear_ok (L := L) (s := u) as_29 (by decide)
  rw [hx_hotBits_eq, hx_lawOf_ok (gq.I h) hr60 ht (by rw [g _ _ (by decide)]; exact ho), ok_bind]
  dsimp only
  rw [c1, ok_bind, Int.toNat_natCast, eu]
  dsimp only
  have key : ∀ (j k : Nat) (u : hh_Sv), k + j = n → FA 29 s u → asC u 29 (wk rs x (fun k => s 246 (24 * r + k)) (fun k => s 247 (24 * r + k)) k) → ∃ y, hx_hotBits_b1 L (r : Int) (ru_q s t) ((nb (hot s rs r) k : Nat) : Int) (k : Int) u = ok L ((nb (hot s rs r) n : Nat) : Int) y ∧ FA 29 s y := by
    intro j
    induction j with
    | zero =>
      intro k u e g a
      rw [Nat.add_zero] at e
      subst e
      rw [hx_hotBits_b1_eq, if_pos (by omega), Int.toNat_natCast, (hw.q (g.q (by decide))).2.2.2.2.2.1, if_neg (by omega)]
      exact ⟨u, rfl, g⟩
    | succ j ih =>
      intro k u e g a
      have hwu := hw.q (g.q (by decide))
      obtain ⟨w, w1, w2, w3⟩ := co_show_ok (L := L) hwu (show k < n by omega) a
      have gw := g.tr w2
      have hb := wk_bd (x := x) hS.ok (i := k) (fun j hj => (w10 j (by omega)).2.2)
      have hb2 := hb 2 (by decide)
      have e2 : w 29 2 = wk rs x (fun k => s 246 (24 * r + k)) (fun k => s 247 (24 * r + k)) k 2 := w3.2.2.1
      obtain ⟨y, y1, y2, y3⟩ := cl_step (L := L) h hw (show t < 16 by omega) hS (show k < n by omega) gw w3
      have hnx := ih (k + 1) y (by omega) y2 y3
      have b3 : ∀ z : Int, z = ((((hot s rs r) k).toNat * 2 ^ k : Nat) : Int) → ∃ y, hx_hotBits_b3 L (r : Int) (ru_q s t) (k : Int) ((nb (hot s rs r) k : Nat) : Int) z w = ok L ((nb (hot s rs r) n : Nat) : Int) y ∧ FA 29 s y := fun z hz => by
        rw [hx_hotBits_b3_eq, co_hit (hw.q (gw.q (by decide))) (by omega), ok_bind, if_pos kq]
        dsimp only
        rw [y1, ok_bind, hz, nb_or (by omega)]
        exact hnx
      rw [hx_hotBits_b1_eq, if_pos (by omega), Int.toNat_natCast, hwu.2.2.2.2.2.1, if_pos (by rw [w32_id (by omega) (by omega), w32_id (by omega) (by omega)]; omega), w1, ok_bind]
      dsimp only
      have ew : w32 (w 29 2) = wk rs x (fun k => s 246 (24 * r + k)) (fun k => s 247 (24 * r + k)) k 2 := by rw [e2]; exact w32_id (by omega) (by omega)
      by_cases q : 0 < wk rs x (fun k => s 246 (24 * r + k)) (fun k => s 247 (24 * r + k)) k 2
      · have eh : hot s rs r k = true := by unfold hot; rw [ex]; exact decide_eq_true q
        rw [if_pos (by rw [ew]; exact q)]
        refine b3 _ ?_
        rw [eh, iShl_id rfl (by omega)]
        show (1 : Int) * 2 ^ k = ((1 * 2 ^ k : Nat) : Int)
        rw [Nat.one_mul, p2_c, Int.one_mul]
      · have eh : hot s rs r k = false := by unfold hot; rw [ex]; exact decide_eq_false q
        rw [if_neg (by rw [ew]; exact q)]
        refine b3 _ ?_
        rw [eh]
        show (0 : Int) = ((0 * 2 ^ k : Nat) : Int)
        rw [Nat.zero_mul]
        rfl
  exact key n 0 c (by omega) (g.tr c2) c3
theorem hx_heat_lp {t : Nat} {rs : List Ru} {a2 : Int} (h : Inv s) (ht : t < 12) (hS : ru_S s t rs) (h2 : I32 a2) {R : Nat} (hR : s 242 3 = (R : Int)) : ∀ (j r : Nat) (u : hh_Sv), r + j = R → FA 29 s u → ∃ y, hx_heat_b3 L (t : Int) a2 (sg (hTA s rs t hF0) r) (sg (hTA s rs t hF1) r) (sg (hTA s rs t hFN) r) ((hTL s rs t r : Nat) : Int) (r : Int) u = ok L (if a2 = 0 then sg (hTA s rs t hF0) R else if a2 = 1 then sg (hTA s rs t hF1) R else if a2 = 2 then sg (hTA s rs t hFN) R else ((hTL s rs t R : Nat) : Int)) y ∧ FA 29 s y := by
  obtain ⟨R1, R2, R3⟩ := h.R
  have hti : I32 (t : Int) := ⟨by omega, by omega⟩
  intro j
  induction j with
  | zero =>
    intro r u e g
    rw [Nat.add_zero] at e
    subst e
    refine ⟨u, ?_, g⟩
    rw [hx_heat_b3_eq, if_neg (by rw [g _ _ (by decide), R1, hR]; omega), h2.w]
    by_cases q0 : a2 = 0
    · rw [if_pos q0, if_pos q0]
    · rw [if_neg q0, if_neg q0]
      by_cases q1 : a2 = 1
      · rw [if_pos q1, if_pos q1]
      · rw [if_neg q1, if_neg q1]
        by_cases q2 : a2 = 2
        · rw [if_pos q2, if_pos q2]
        · rw [if_neg q2, if_neg q2]
  | succ j ih =>
    intro r u e g
    have hr : (r : Int) < s 242 3 := by omega
    obtain ⟨x, n, hw⟩ := row_RW h hr
    obtain ⟨ex, en⟩ := hw.x
    have hin : (0 : Int) ≤ (r : Int) ∧ (r : Int) < 60 := by have := hw.1; omega
    have sn : ∀ F, sg (hTA s rs t F) (r + 1) = sg (hTA s rs t F) r + hTA s rs t F r := fun F => rfl
    have hnx := fun u' g' => ih (r + 1) u' (by omega) g'
    rw [sn, sn, sn, hTL] at hnx
    rw [hx_heat_b3_eq, if_pos (by rw [g _ _ (by decide), R1, hR, w32_id (by omega) (by omega), w32_id (by omega) (by omega)]; omega), co_isOf_ok ((g.q (by decide)).I h) hti (by rw [g _ _ (by decide)]; exact hr), ok_bind]
    dsimp only
    by_cases eo : s 243 r = (t : Int)
    case neg =>
      have e0 : ∀ F, hTA s rs t F r = 0 := fun F => by unfold hTA; rw [if_neg eo]
      rw [e0, e0, e0, Int.add_zero, Int.add_zero, Int.add_zero, if_neg eo] at hnx
      rw [if_pos (zb_w.mpr (fun q => by
        rcases q with q | q
        · omega
        · rw [g _ _ (by decide)] at q
          exact eo q))]
      exact hnx u g
    have o10 : s 10 r = (t : Int) := by
      obtain ⟨b1, -⟩ := h.row hr
      have b1 : s 10 r = s 243 r := b1
      rw [b1]
      exact eo
    obtain ⟨y, y1, y2⟩ := hx_hotBits_ok (L := L) h hw ht o10 hS g
    have e0 : ∀ F, hTA s rs t F r = ((cnt (F (hot s rs r) x) n : Nat) : Int) := fun F => by unfold hTA; rw [if_pos eo, ex, en]
    rw [e0, e0, e0, if_pos eo, en] at hnx
    have hl := nb_lt (f := hot s rs r) n
    have h24 := p2_24 hw.2.1
    have hx := hw.2.2.1
    have hn := hw.2.1
    have tb := nb_tb (f := hot s rs r) n
    have m1 := mx_le (f := hot s rs r) n
    have hLb := hTL_bd (rs := rs) (t := (t : Int)) h (r := r) (by omega)
    have c0 : pcf 32 (nb (hot s rs r) n) = cnt (hF0 (hot s rs r) x) n := pcf_tb (by omega) tb
    have c1 : pcf 32 (nb (hot s rs r) n &&& x) = cnt (hF1 (hot s rs r) x) n := pcf_tb (by omega) (fun k => by
      rw [Nat.testBit_and, tb k]
      unfold hF1
      cases decide (k < n) <;> cases hot s rs r k <;> cases x.testBit k <;> rfl)
    have c2 : pcf 32 (nb (hot s rs r) n ^^^ (nb (hot s rs r) n &&& (nb (hot s rs r) n * 2 ^ 1))) = cnt (hFN (hot s rs r) x) n := pcf_tb (by omega) (fun k => by
      rw [Nat.testBit_xor, Nat.testBit_and, Nat.testBit_mul_two_pow, tb k, tb (k - 1)]
      unfold hFN
      rw [gNew_eq]
      by_cases hk : k < n
      · rw [decide_eq_true hk, decide_eq_true (show k - 1 < n by omega)]
        cases hot s rs r k <;> cases decide (1 ≤ k) <;> cases hot s rs r (k - 1) <;> rfl
      · rw [decide_eq_false hk]
        cases (decide (1 ≤ k) && (decide (k - 1 < n) && hot s rs r (k - 1))) <;> rfl)
    have lo : ∀ z : hh_Sv, hx_longestOf L ((nb (hot s rs r) n : Nat) : Int) z = ok L ((mx (hot s rs r) n : Nat) : Int) z := fun z => by
      have q := hx_longestOf_ok (L := L) (s := z) (x := nb (hot s rs r) n) (n := n) (o := 1) hl hn
      have eo1 : obt (nb (hot s rs r) n) n 1 = nb (hot s rs r) n := by unfold obt; rw [if_pos rfl]
      have em : mx (ob (nb (hot s rs r) n) 1) n = mx (hot s rs r) n := mx_congr (fun k hk => by
        unfold ob
        rw [tb k, decide_eq_true hk]
        cases hot s rs r k <;> rfl)
      rw [eo1, em] at q
      exact q
    have e1 : iShl ((nb (hot s rs r) n : Nat) : Int) 1 = ((nb (hot s rs r) n * 2 ^ 1 : Nat) : Int) := by rw [iShl_id (b := 1) (k := 1) rfl (by decide), Int.natCast_mul]; rfl
    have hxl : nb (hot s rs r) n ^^^ (nb (hot s rs r) n &&& (nb (hot s rs r) n * 2 ^ 1)) < 2 ^ 26 := Nat.xor_lt_two_pow (n := 26) (by omega) (Nat.lt_of_le_of_lt Nat.and_le_left (by omega))
    rw [if_neg (fun q => zb_w.mp q (Or.inr (by rw [g _ _ (by decide)]; exact eo))), y1, ok_bind]
    dsimp only
    rw [jin_bitCount_ok L (by omega), ok_bind, if_pos hin]
    dsimp only
    rw [Int.toNat_natCast, (hw.q (y2.q (by decide))).2.2.2.1, bAnd_nat (by omega) (by omega), jin_bitCount_ok L (Nat.lt_of_le_of_lt Nat.and_le_left (by omega)), ok_bind]
    dsimp only
    rw [e1, bAnd_not (by omega) (by omega), jin_bitCount_ok L (by omega), ok_bind]
    dsimp only
    rw [lo, ok_bind]
    dsimp only
    rw [jma_max_ok ⟨by omega, by omega⟩ ⟨by omega, by omega⟩, ok_bind, c0, c1, c2]
    dsimp only
    rw [show (if ((hTL s rs t r : Nat) : Int) < ((mx (hot s rs r) n : Nat) : Int) then ((mx (hot s rs r) n : Nat) : Int) else ((hTL s rs t r : Nat) : Int)) = ((max (hTL s rs t r) (mx (hot s rs r) n) : Nat) : Int) by split <;> omega]
    exact hnx y y2
theorem md_heat_lp {t : Nat} {rs : List Ru} {a2 : Int} (h : Inv s) (ht : t < 12) (hS : ru_S s t rs) (h2 : I32 a2) {R : Nat} (hR : s 242 3 = (R : Int)) : ∀ (j r : Nat) (u : hh_Sv), r + j = R → FM s u → ∃ y, md_heat_b3 L (t : Int) a2 (sg (hTA s rs t hF0) r) (sg (hTA s rs t hF1) r) (sg (hTA s rs t hFN) r) ((hTL s rs t r : Nat) : Int) (r : Int) u = ok L (if a2 = 0 then sg (hTA s rs t hF0) R else if a2 = 1 then sg (hTA s rs t hF1) R else if a2 = 2 then sg (hTA s rs t hFN) R else ((hTL s rs t R : Nat) : Int)) y ∧ FM s y := by
  obtain ⟨R1, R2, R3⟩ := h.R
  have t16 : t < 16 := by omega
  intro j
  induction j with
  | zero =>
    intro r u e g
    rw [Nat.add_zero] at e
    subst e
    refine ⟨u, ?_, g⟩
    rw [md_heat_b3_eq, if_neg (by rw [g _ _ (by decide) (by decide), hR]; omega), h2.w]
    by_cases q0 : a2 = 0
    · rw [if_pos q0, if_pos q0]
    · rw [if_neg q0, if_neg q0]
      by_cases q1 : a2 = 1
      · rw [if_pos q1, if_pos q1]
      · rw [if_neg q1, if_neg q1]
        by_cases q2 : a2 = 2
        · rw [if_pos q2, if_pos q2]
        · rw [if_neg q2, if_neg q2]
  | succ j ih =>
    intro r u e g
    have hr : (r : Int) < s 242 3 := by omega
    obtain ⟨x, n, hw⟩ := row_RW h hr
    obtain ⟨ex, en⟩ := hw.x
    obtain ⟨b1, b2, b3, b4, b5, b6, b7, b8, b9⟩ := h.row hr
    have w10 := hw.2.2.2.2.2.2.2.2.2
    have hn := hw.2.1
    have hin : (0 : Int) ≤ (r : Int) ∧ (r : Int) < 60 := by have := hw.1; omega
    have sn : ∀ F, sg (hTA s rs t F) (r + 1) = sg (hTA s rs t F) r + hTA s rs t F r := fun F => rfl
    have hnx := fun u' g' => ih (r + 1) u' (by omega) g'
    rw [sn, sn, sn, hTL] at hnx
    rw [md_heat_b3_eq, if_pos (by rw [g _ _ (by decide) (by decide), hR, w32_id (by omega) (by omega), w32_id (by omega) (by omega)]; omega)]
    by_cases eo : s 243 r = (t : Int)
    case neg =>
      have e0 : ∀ F, hTA s rs t F r = 0 := fun F => by unfold hTA; rw [if_neg eo]
      rw [e0, e0, e0, Int.add_zero, Int.add_zero, Int.add_zero, if_neg eo] at hnx
      rw [md_heat_b4_eq, if_pos hin, Int.toNat_natCast]
      have ew : ¬ w32 (u 243 r) = w32 (t : Int) := by
        rw [g _ _ (by decide) (by decide), w32_id (by omega) (by omega), w32_id (by omega) (by omega)]
        exact eo
      by_cases en0 : w32 0 < w32 (u 244 r)
      · rw [if_pos en0, if_pos hin, if_neg ew]
        exact hnx u g
      · rw [if_neg en0]
        exact hnx u g
    have hLb := hTL_bd (rs := rs) (t := (t : Int)) h (r := r) (by omega)
    have inner : ∀ (j k : Nat) (u : hh_Sv), k + j = n → FM s u → ∃ u', FM s u' ∧ md_heat_b4 L (t : Int) a2 (sg (hTA s rs t hF0) r + ((cnt (hF0 (hot s rs r) x) k : Nat) : Int)) (sg (hTA s rs t hF1) r + ((cnt (hF1 (hot s rs r) x) k : Nat) : Int)) (sg (hTA s rs t hFN) r + ((cnt (hFN (hot s rs r) x) k : Nat) : Int)) ((max (hTL s rs t r) (mx (hot s rs r) k) : Nat) : Int) (r : Int) ((rl (hot s rs r) k : Nat) : Int) (k : Int) u = md_heat_b4 L (t : Int) a2 (sg (hTA s rs t hF0) r + ((cnt (hF0 (hot s rs r) x) n : Nat) : Int)) (sg (hTA s rs t hF1) r + ((cnt (hF1 (hot s rs r) x) n : Nat) : Int)) (sg (hTA s rs t hFN) r + ((cnt (hFN (hot s rs r) x) n : Nat) : Int)) ((max (hTL s rs t r) (mx (hot s rs r) n) : Nat) : Int) (r : Int) ((rl (hot s rs r) n : Nat) : Int) (n : Int) u' := by
      intro j
      induction j with
      | zero =>
        intro k u e g
        rw [Nat.add_zero] at e
        subst e
        exact ⟨u, g, rfl⟩
      | succ j ih2 =>
        intro k u e g
        have hwu := hw.m.q g.q
        obtain ⟨Su, -⟩ := hS.q h.lw g.q t16
        obtain ⟨y, y1, y2, y3⟩ := md_ahead_ok (L := L) (g.q.lw h.lw) hwu ht (by rw [g _ _ (by decide) (by decide)]; exact eo) Su (show k ≤ n by omega)
        have gy := g.tr y2
        have hb := wk_bd (x := x) hS.ok (i := k) (fun j hj => (w10 j (by omega)).2.2)
        have hb2 := hb 2 (by decide)
        have y32 := y3 2 (by decide)
        obtain ⟨u', q1, q2⟩ := ih2 (k + 1) y (by omega) gy
        refine ⟨u', q1, ?_⟩
        have hrl := rl_le (f := hot s rs r) k
        have hmx := mx_le (f := hot s rs r) k
        have tb := Bool.toNat_le (x.testBit k)
        have ea : cnt (hF0 (hot s rs r) x) (k + 1) = cnt (hF0 (hot s rs r) x) k + (hot s rs r k).toNat := rfl
        have eb : cnt (hF1 (hot s rs r) x) (k + 1) = cnt (hF1 (hot s rs r) x) k + (hot s rs r k && x.testBit k).toNat := rfl
        have ec : cnt (hFN (hot s rs r) x) (k + 1) = cnt (hFN (hot s rs r) x) k + (hot s rs r k && decide (rl (hot s rs r) k = 0)).toNat := rfl
        have em : mx (hot s rs r) (k + 1) = max (mx (hot s rs r) k) (rl (hot s rs r) (k + 1)) := rfl
        have er : rl (hot s rs r) (k + 1) = if hot s rs r k = true then rl (hot s rs r) k + 1 else 0 := rfl
        rw [em, er, ea, eb, ec] at q2
        have one : ∀ (b : Bool) (z : hh_Sv), md_one L ((b.toNat : Nat) : Int) z = ok L ((b.toNat : Nat) : Int) z := fun b z => md_one_ok (by have := Bool.toNat_le b; omega)
        have one0 : ∀ z : hh_Sv, md_one L 0 z = ok L 0 z := fun z => md_one_ok (o := 0) (Or.inl rfl)
        have one1 : ∀ z : hh_Sv, md_one L 1 z = ok L 1 z := fun z => md_one_ok (o := 1) (Or.inr rfl)
        have ew : w32 (y 262 2) = wk rs x (fun k => s 246 (24 * r + k)) (fun k => s 247 (24 * r + k)) k 2 := by rw [y32]; exact w32_id (by omega) (by omega)
        rw [← q2, md_heat_b4_eq, if_pos hin, Int.toNat_natCast, if_pos (by rw [hwu.2.2.2.2.1, w32_id (by omega) (by omega), w32_id (by omega) (by omega)]; omega), if_pos hin, if_pos (by rw [g _ _ (by decide) (by decide), eo]), y1, ok_bind, if_pos (by decide)]
        dsimp only
        by_cases q : 0 < wk rs x (fun k => s 246 (24 * r + k)) (fun k => s 247 (24 * r + k)) k 2
        · have eh : hot s rs r k = true := by unfold hot; rw [ex]; exact decide_eq_true q
          have b12 : ∀ A B C : Int, md_heat_b12 L (t : Int) a2 A B C ((max (hTL s rs t r) (mx (hot s rs r) k) : Nat) : Int) (r : Int) (k : Int) (((rl (hot s rs r) k : Nat) : Int) + 1) y = md_heat_b4 L (t : Int) a2 A B C ((max (hTL s rs t r) (max (mx (hot s rs r) k) (rl (hot s rs r) k + 1)) : Nat) : Int) (r : Int) ((rl (hot s rs r) k + 1 : Nat) : Int) ((k : Int) + 1) y := fun A B C => by
            rw [md_heat_b12_eq, jma_max_ok ⟨by omega, by omega⟩ ⟨by omega, by omega⟩, ok_bind]
            dsimp only
            rw [show (if ((max (hTL s rs t r) (mx (hot s rs r) k) : Nat) : Int) < ((rl (hot s rs r) k : Nat) : Int) + 1 then ((rl (hot s rs r) k : Nat) : Int) + 1 else ((max (hTL s rs t r) (mx (hot s rs r) k) : Nat) : Int)) = ((max (hTL s rs t r) (max (mx (hot s rs r) k) (rl (hot s rs r) k + 1)) : Nat) : Int) by split <;> omega]
            rfl
          have b10 : ∀ (A B : Int) (c : Bool), c = decide (rl (hot s rs r) k = 0) → md_heat_b10 L (t : Int) a2 A B ((max (hTL s rs t r) (mx (hot s rs r) k) : Nat) : Int) (r : Int) ((rl (hot s rs r) k : Nat) : Int) (k : Int) 1 (sg (hTA s rs t hFN) r + ((cnt (hFN (hot s rs r) x) k : Nat) : Int)) ((c.toNat : Nat) : Int) y = md_heat_b4 L (t : Int) a2 A B (sg (hTA s rs t hFN) r + ((cnt (hFN (hot s rs r) x) k + (decide (rl (hot s rs r) k = 0)).toNat : Nat) : Int)) ((max (hTL s rs t r) (max (mx (hot s rs r) k) (rl (hot s rs r) k + 1)) : Nat) : Int) (r : Int) ((rl (hot s rs r) k + 1 : Nat) : Int) ((k : Int) + 1) y := fun A B c hc => by
            rw [md_heat_b10_eq, one, ok_bind, if_neg (by rw [w32_1]; decide)]
            dsimp only
            rw [b12, ← hc]
            congr 1
            omega
          have b8 : ∀ (b : Bool), b = x.testBit k → md_heat_b8 L (t : Int) a2 (sg (hTA s rs t hF0) r + ((cnt (hF0 (hot s rs r) x) k : Nat) : Int) + 1) (sg (hTA s rs t hFN) r + ((cnt (hFN (hot s rs r) x) k : Nat) : Int)) ((max (hTL s rs t r) (mx (hot s rs r) k) : Nat) : Int) (r : Int) ((rl (hot s rs r) k : Nat) : Int) (k : Int) 1 (sg (hTA s rs t hF1) r + ((cnt (hF1 (hot s rs r) x) k : Nat) : Int)) ((b.toNat : Nat) : Int) y = md_heat_b4 L (t : Int) a2 (sg (hTA s rs t hF0) r + ((cnt (hF0 (hot s rs r) x) k + 1 : Nat) : Int)) (sg (hTA s rs t hF1) r + ((cnt (hF1 (hot s rs r) x) k + (x.testBit k).toNat : Nat) : Int)) (sg (hTA s rs t hFN) r + ((cnt (hFN (hot s rs r) x) k + (decide (rl (hot s rs r) k = 0)).toNat : Nat) : Int)) ((max (hTL s rs t r) (max (mx (hot s rs r) k) (rl (hot s rs r) k + 1)) : Nat) : Int) (r : Int) ((rl (hot s rs r) k + 1 : Nat) : Int) ((k : Int) + 1) y := fun b hb => by
            have e1 : sg (hTA s rs t hF0) r + ((cnt (hF0 (hot s rs r) x) k : Nat) : Int) + 1 = sg (hTA s rs t hF0) r + ((cnt (hF0 (hot s rs r) x) k + 1 : Nat) : Int) := by omega
            have e2 : sg (hTA s rs t hF1) r + ((cnt (hF1 (hot s rs r) x) k : Nat) : Int) + ((b.toNat : Nat) : Int) = sg (hTA s rs t hF1) r + ((cnt (hF1 (hot s rs r) x) k + (x.testBit k).toNat : Nat) : Int) := by rw [hb]; omega
            rw [md_heat_b8_eq, one, ok_bind, if_neg (by rw [w32_1]; decide), w32_id (i := ((rl (hot s rs r) k : Nat) : Int)) (by omega) (by omega)]
            dsimp only
            rw [e1, e2]
            by_cases q0 : rl (hot s rs r) k = 0
            · rw [if_pos (by omega)]
              exact b10 _ _ true (by rw [decide_eq_true q0])
            · rw [if_neg (by omega), md_heat_b9_eq]
              exact b10 _ _ false (by rw [decide_eq_false q0])
          rw [if_pos (by rw [ew]; exact q), md_heat_b6_eq, one1, ok_bind, if_neg (by rw [w32_1]; decide), md_hit (hw.m.q gy.q) (by omega), ok_bind, eh, Bool.true_and, Bool.true_and, if_pos rfl]
          dsimp only
          cases hb3 : x.testBit k
          · rw [hb3] at b8
            rw [if_pos bw_f, md_heat_b7_eq]
            exact b8 false rfl
          · rw [hb3] at b8
            rw [if_neg bw_t]
            exact b8 true rfl
        · have eh : hot s rs r k = false := by unfold hot; rw [ex]; exact decide_eq_false q
          rw [if_neg (by rw [ew]; exact q), md_heat_b6_eq, one0, ok_bind, if_pos w32_0, md_heat_b7_eq, md_heat_b8_eq]
          dsimp only
          rw [one0, ok_bind, if_pos w32_0, md_heat_b9_eq, md_heat_b10_eq]
          dsimp only
          rw [one0, ok_bind, if_pos w32_0, md_heat_b12_eq]
          dsimp only
          have ff : (if false = true then rl (hot s rs r) k + 1 else 0) = 0 := rfl
          rw [jma_max_ok ⟨by omega, by omega⟩ i_lit, ok_bind, eh, Bool.false_and, Bool.false_and, ff]
          dsimp only
          rw [show (if ((max (hTL s rs t r) (mx (hot s rs r) k) : Nat) : Int) < 0 then 0 else ((max (hTL s rs t r) (mx (hot s rs r) k) : Nat) : Int)) = ((max (hTL s rs t r) (max (mx (hot s rs r) k) 0) : Nat) : Int) by rw [if_neg (by omega)]; omega]
          simp only [Int.add_zero, Bool.toNat_false, Nat.add_zero]
          rfl
    obtain ⟨u', q1, q2⟩ := inner n 0 u (by omega) g
    have z0 : max (hTL s rs t r) (mx (hot s rs r) 0) = hTL s rs t r := Nat.max_eq_left (Nat.zero_le _)
    rw [z0] at q2
    have q2 : md_heat_b4 L (t : Int) a2 (sg (hTA s rs t hF0) r + 0) (sg (hTA s rs t hF1) r + 0) (sg (hTA s rs t hFN) r + 0) ((hTL s rs t r : Nat) : Int) (r : Int) 0 0 u = _ := q2
    rw [Int.add_zero, Int.add_zero, Int.add_zero] at q2
    have e0 : ∀ F, hTA s rs t F r = ((cnt (F (hot s rs r) x) n : Nat) : Int) := fun F => by unfold hTA; rw [if_pos eo, ex, en]
    rw [e0, e0, e0, if_pos eo, en] at hnx
    rw [q2, md_heat_b4_eq, if_pos hin, Int.toNat_natCast, if_neg (by rw [(hw.m.q q1.q).2.2.2.2.1]; omega)]
    exact hnx u' q1
theorem hot_cg {u : hh_Sv} {rs : List Ru} (g : ∀ k j, 243 ≤ k ∧ k ≤ 247 → u k j = s k j) (r : Nat) : hot u rs r = hot s rs r := by
  have e6 : (fun k => u 246 (24 * r + k)) = (fun k => s 246 (24 * r + k)) := funext fun k => g _ _ (by decide)
  have e7 : (fun k => u 247 (24 * r + k)) = (fun k => s 247 (24 * r + k)) := funext fun k => g _ _ (by decide)
  funext k
  unfold hot
  rw [g 245 r (by decide), e6, e7]
theorem hTA_cg {u : hh_Sv} {rs : List Ru} {t : Int} {F : (Nat → Bool) → Nat → Nat → Bool} (g : ∀ k j, 243 ≤ k ∧ k ≤ 247 → u k j = s k j) : hTA u rs t F = hTA s rs t F := by
  funext r
  unfold hTA
  rw [hot_cg g, g 243 r (by decide), g 244 r (by decide), g 245 r (by decide)]
theorem hTL_cg {u : hh_Sv} {rs : List Ru} {t : Int} (g : ∀ k j, 243 ≤ k ∧ k ≤ 247 → u k j = s k j) : ∀ r, hTL u rs t r = hTL s rs t r
  | 0 => rfl
  | r + 1 => by rw [hTL, hTL, hTL_cg g r, hot_cg g, g 243 r (by decide), g 244 r (by decide)]
theorem c_heat {a1 a2 : Int} (h1 : I32 a1) (h2 : I32 a2) (h : Inv s) : Cal L s (hx_heat L a1 a2) (md_heat L a1 a2) w32 := by
  obtain ⟨T1, T2, T3⟩ := h.T
  have hX := hx_heat_eq L a1 a2 s
  have hY := fun z => md_heat_eq L a1 a2 z
  have hY0 := hY s
  rw [tst (co_hasThrower_ok h1 (by omega))] at hX
  rw [tst (md_isThrower_ok h1 (by omega))] at hY0
  by_cases e1 : 0 ≤ a1 ∧ a1 < s 242 2
  case neg => exact Cal.pure (hX.trans (if_neg (by omega))) (hY0.trans (if_neg e1)) rfl h
  rw [if_pos (by omega)] at hX
  rw [if_pos e1] at hY0
  dsimp only at hX hY0
  rw [tst (hx_isIn_ok h2 i_lit i_lit)] at hX
  rw [tst (md_isIn_ok h2 i_lit i_lit)] at hY0
  by_cases e2 : 0 ≤ a2 ∧ a2 ≤ 3
  case neg => exact Cal.pure (hX.trans (if_neg e2)) (hY0.trans (if_neg e2)) rfl h
  rw [if_pos e2] at hX
  dsimp only at hX
  obtain ⟨t, rfl⟩ := Int.eq_ofNat_of_zero_le e1.1
  obtain ⟨R, hR, hR2⟩ := row_n h
  obtain ⟨rs, hS⟩ := h.law (t := t) (by omega)
  obtain ⟨y, y1, y2⟩ := hx_heat_lp (L := L) (a2 := a2) h (show t < 12 by omega) hS h2 hR R 0 s (by omega) FA.rf
  have y1 : hx_heat_b3 L (t : Int) a2 0 0 0 0 0 s = _ := y1
  rw [y1] at hX
  have yq := y2.q (by decide)
  obtain ⟨z, z1, z2⟩ := md_heat_lp (L := L) (a2 := a2) (yq.I h) (show t < 12 by omega) (hS.q h.lw yq (by omega)).1 h2 (R := R) (by rw [y2 _ _ (by decide)]; exact hR) R 0 y (by omega) FM.rf
  have gg : ∀ k j, 243 ≤ k ∧ k ≤ 247 → y k j = s k j := fun k j hk => y2 _ _ (by omega)
  rw [hTA_cg gg, hTA_cg gg, hTA_cg gg, hTL_cg gg, hTL_cg gg] at z1
  have z1 : md_heat_b3 L (t : Int) a2 0 0 0 0 0 y = _ := z1
  have hYy := hY y
  rw [tst (md_isThrower_ok h1 (by rw [y2 _ _ (by decide)]; omega)), if_pos (by rw [y2 _ _ (by decide)]; exact e1)] at hYy
  dsimp only at hYy
  rw [tst (md_isIn_ok h2 i_lit i_lit), if_pos e2] at hYy
  dsimp only at hYy
  rw [z1] at hYy
  exact Cal.q hX hYy rfl yq z2.q h
end
