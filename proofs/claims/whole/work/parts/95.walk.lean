/-! walks along a row, in both -/
def pkn (g : Nat → Nat) : Nat → Nat
  | 0 => 0
  | n + 1 => pkn g n + g n * 4 ^ n
theorem pkn_lt {g : Nat → Nat} : ∀ {n : Nat}, (∀ k, k < n → g k ≤ 3) → pkn g n < 4 ^ n
  | 0, _ => by rw [pkn]; decide
  | n + 1, h => by
    have h1 := pkn_lt (n := n) (fun k hk => h k (by omega))
    have h2 := h n (by omega)
    have h3 : g n * 4 ^ n ≤ 3 * 4 ^ n := Nat.mul_le_mul_right _ h2
    rw [pkn, Nat.pow_succ]
    omega
theorem pkn_at {g : Nat → Nat} : ∀ {n k : Nat}, (∀ k, k < n → g k ≤ 3) → k < n → pkn g n / 4 ^ k % 4 = g k
  | 0, k, _, h => by omega
  | n + 1, k, h, hk => by
    have h1 := pkn_lt (n := n) (fun k hk => h k (by omega))
    have hp := Nat.pow_pos (n := k) (show 0 < 4 by decide)
    have hpn := Nat.pow_pos (n := n) (show 0 < 4 by decide)
    rw [pkn]
    by_cases e : k = n
    · subst e
      have h2 := h k (by omega)
      rw [Nat.add_mul_div_right _ _ hp, Nat.div_eq_of_lt h1, Nat.zero_add, Nat.mod_eq_of_lt (by omega)]
    · have ih := pkn_at (n := n) (k := k) (fun k hk => h k (by omega)) (by omega)
      have e1 : g n * 4 ^ n = (4 * (g n * 4 ^ (n - k - 1))) * 4 ^ k := by
        rw [show 4 ^ n = 4 ^ (n - k - 1) * 4 * 4 ^ k by rw [← Nat.pow_succ, ← Nat.pow_add, show (n - k - 1).succ + k = n by omega]]
        rw [← Nat.mul_assoc, ← Nat.mul_assoc, Nat.mul_comm 4 (g n * _)]
      rw [e1, Nat.add_mul_div_right _ _ hp, Nat.add_mul_mod_self_left]
      exact ih
theorem pk_pkn {f : Nat → Int} : ∀ {n : Nat}, (∀ k, k < n → 0 ≤ f k ∧ f k ≤ 3) → pk f n = ((pkn (fun k => (f k).toNat) n : Nat) : Int)
  | 0, _ => rfl
  | n + 1, h => by
    have h2 := h n (by omega)
    rw [pk, pkn, pk_pkn (n := n) (fun k hk => h k (by omega)), Int.natCast_add, Int.natCast_mul, Int.natCast_pow]
    congr 2
    omega
theorem pk_look {f : Nat → Int} {n k : Nat} {z b : Int} (hz : z = pk f n) (hb : b = ((2 * k : Nat) : Int)) (h : ∀ k, k < n → 0 ≤ f k ∧ f k ≤ 3) (hn : n ≤ 24) (hk : k < n) : bAnd (lUshr z b) 3 = f k := by
  have hg : ∀ k, k < n → (fun k => (f k).toNat) k ≤ 3 := fun k hk => by have := h k hk; show (f k).toNat ≤ 3; omega
  have h1 := pkn_lt hg
  have h2 : 4 ^ n ≤ 4 ^ 24 := Nat.pow_le_pow_right (by decide) hn
  have h3 := pkn_at hg hk
  have h4 := h k hk
  have e : pkn (fun k => (f k).toNat) n / 2 ^ (2 * k) ≤ pkn (fun k => (f k).toNat) n := Nat.div_le_self _ _
  have q : bAnd ((pkn (fun k => (f k).toNat) n / 2 ^ (2 * k) : Nat) : Int) ((3 : Nat) : Int) = ((pkn (fun k => (f k).toNat) n / 2 ^ (2 * k)) &&& 3 : Nat) := bAnd_nat (by omega) (by decide)
  rw [hz, pk_pkn h, lUshr_nat (k := 2 * k) (by omega) hb (by omega)]
  have q : bAnd ((pkn (fun k => (f k).toNat) n / 2 ^ (2 * k) : Nat) : Int) 3 = _ := q
  rw [q, show (3 : Nat) = 2 ^ 2 - 1 from rfl, Nat.and_two_pow_sub_one_eq_mod, Nat.pow_mul]
  have h3 : pkn (fun k => (f k).toNat) n / (2 ^ 2) ^ k % 2 ^ 2 = (f k).toNat := h3
  rw [h3]
  omega
/-- what is asked ahead of the throw i -/
def wk (rs : List Ru) (x : Nat) (hd gd : Nat → Int) : Nat → Nat → Int
  | 0 => fun _ => 0
  | i + 1 => goN rs (s45 (wk rs x hd gd i) (hd i) (gd i)) (x.testBit i)
theorem wk_bd {rs : List Ru} {x : Nat} {hd gd : Nat → Int} (hok : ∀ r ∈ rs, ru_ok r) : ∀ {i : Nat}, (∀ k, k < i → (0 ≤ hd k ∧ hd k ≤ 3) ∧ 0 ≤ gd k ∧ gd k ≤ 3) → VB (wk rs x hd gd i) (100 + (i : Int))
  | 0, _ => fun k _ => by
    show (0 : Int) ≤ 0 ∧ (0 : Int) ≤ 100 + ((0 : Nat) : Int)
    omega
  | i + 1, h => by
    have ih := wk_bd hok (x := x) (i := i) (fun k hk => h k (by omega))
    have hi := h i (by omega)
    rw [wk]
    have := VB.go hok (b := x.testBit i) (show (100 : Int) ≤ 100 + (i : Int) by omega) (ih.p45 (h := hd i) (g := gd i) (by omega) (by omega))
    intro k hk
    have := this k hk
    omega
section
variable {L : Nat} {s : hh_Sv}
/-- a row, in both -/
def RW (s : hh_Sv) (r x n : Nat) (hd gd : Nat → Int) : Prop := r < 60 ∧ n ≤ 24 ∧ x < 2 ^ n ∧ s 12 r = (x : Int) ∧ s 245 r = (x : Int) ∧ s 11 r = (n : Int) ∧ s 244 r = (n : Int) ∧ s 13 r = pk hd n ∧ s 14 r = pk gd n ∧ ∀ k, k < n → s 246 (24 * r + k) = hd k ∧ s 247 (24 * r + k) = gd k ∧ (0 ≤ hd k ∧ hd k ≤ 3) ∧ 0 ≤ gd k ∧ gd k ≤ 3
theorem row_RW (h : Inv s) {r : Nat} (hr : (r : Int) < s 242 3) : ∃ x n, RW s r x n (fun k => s 246 (24 * r + k)) (fun k => s 247 (24 * r + k)) := by
  obtain ⟨R1, R2, R3⟩ := h.R
  obtain ⟨x, n, x1, x2, n1, n2, n3, n4, n5⟩ := row_x h hr
  obtain ⟨b1, b2, b3, b4, b5, b6, b7, b8, b9⟩ := h.row hr
  rw [n1, Int.toNat_natCast] at b7 b8 b9
  exact ⟨x, n, by omega, n3, n4, x2, x1, n2, n1, b7, b8, fun k hk => ⟨rfl, rfl, b9 k hk⟩⟩
theorem RW.eq {r x n : Nat} {hd gd : Nat → Int} {u : hh_Sv} (h : RW s r x n hd gd) (g : ∀ k j, (11 ≤ k ∧ k ≤ 14) ∨ (244 ≤ k ∧ k ≤ 247) → u k j = s k j) : RW u r x n hd gd := by
  obtain ⟨a1, a2, a3, a4, a5, a6, a7, a8, a9, a10⟩ := h
  refine ⟨a1, a2, a3, by rw [g _ _ (by omega)]; exact a4, by rw [g _ _ (by omega)]; exact a5, by rw [g _ _ (by omega)]; exact a6, by rw [g _ _ (by omega)]; exact a7, by rw [g _ _ (by omega)]; exact a8, by rw [g _ _ (by omega)]; exact a9, fun k hk => ?_⟩
  rw [g _ _ (by omega), g _ _ (by omega)]
  exact a10 k hk
theorem RW.q {r x n : Nat} {hd gd : Nat → Int} {u : hh_Sv} (h : RW s r x n hd gd) (e : Eqh s u) : RW u r x n hd gd := h.eq (fun k j _ => e _ _ (by unfold scr2 scr; omega))
/-- a row of the reference -/
def RM (s : hh_Sv) (r x n : Nat) (hd gd : Nat → Int) : Prop := r < 60 ∧ n ≤ 24 ∧ x < 2 ^ n ∧ s 245 r = (x : Int) ∧ s 244 r = (n : Int) ∧ ∀ k, k < n → s 246 (24 * r + k) = hd k ∧ s 247 (24 * r + k) = gd k ∧ (0 ≤ hd k ∧ hd k ≤ 3) ∧ 0 ≤ gd k ∧ gd k ≤ 3
theorem RW.m {r x n : Nat} {hd gd : Nat → Int} (h : RW s r x n hd gd) : RM s r x n hd gd := ⟨h.1, h.2.1, h.2.2.1, h.2.2.2.2.1, h.2.2.2.2.2.2.1, h.2.2.2.2.2.2.2.2.2⟩
theorem RM.eq {r x n : Nat} {hd gd : Nat → Int} {u : hh_Sv} (h : RM s r x n hd gd) (g : ∀ k j, 244 ≤ k ∧ k ≤ 247 → u k j = s k j) : RM u r x n hd gd := by
  obtain ⟨a1, a2, a3, a5, a7, a10⟩ := h
  refine ⟨a1, a2, a3, by rw [g _ _ (by omega)]; exact a5, by rw [g _ _ (by omega)]; exact a7, fun k hk => ?_⟩
  rw [g _ _ (by omega), g _ _ (by omega)]
  exact a10 k hk
theorem RM.q {r x n : Nat} {hd gd : Nat → Int} {u : hh_Sv} (h : RM s r x n hd gd) (e : Eqh s u) : RM u r x n hd gd := h.eq (fun k j _ => e _ _ (by unfold scr2 scr; omega))
theorem Inv.owner (h : Inv s) {r : Nat} (hr : (r : Int) < s 242 3) : ∃ t : Nat, t < 12 ∧ s 10 r = (t : Int) ∧ s 243 r = (t : Int) := by
  obtain ⟨b1, b2, b3, b4, b5, b6, b7, b8, b9⟩ := h.row hr
  have b1 : s 10 r = s 243 r := b1
  exact ⟨(s 243 r).toNat, by omega, by omega, by omega⟩
theorem as_29 : kd L 29 = 20 := by
  unfold kd
  rw [in_shL (by decide)]
  decide +kernel
theorem as_clear_ok {A : Nat} (hA : kd L A = 20) (h8 : 8 ≤ A) : ∃ u, as_clear L A s = ok L 0 u ∧ FA A s u ∧ asC u A (fun _ => 0) := by
  refine ⟨_, by rw [as_clear_eq, if_pos hA, if_pos h8, if_pos hA, if_pos h8, if_pos hA, if_pos h8, if_pos hA, if_pos h8, if_pos hA, if_pos h8, if_pos hA, if_pos h8, if_pos hA, if_pos h8], FA.rf.up.up.up.up.up.up.up, ?_, ?_, ?_, ?_, ?_, ?_, ?_⟩
  · rw [up_j (by decide), up_j (by decide), up_j (by decide), up_j (by decide), up_j (by decide), up_j (by decide), up_s]
  · rw [up_j (by decide), up_j (by decide), up_j (by decide), up_j (by decide), up_j (by decide), up_s]
  · rw [up_j (by decide), up_j (by decide), up_j (by decide), up_j (by decide), up_s]
  · rw [up_j (by decide), up_j (by decide), up_j (by decide), up_s]
  · rw [up_j (by decide), up_s]
  · rw [up_s]
  · rw [up_j (by decide), up_j (by decide), up_s]
theorem co_show_ok {r x n k : Nat} {hd gd v : Nat → Int} (hw : RW s r x n hd gd) (hk : k < n) (ha : asC s 29 v) : ∃ u, co_show L (r : Int) (k : Int) s = ok L 0 u ∧ FA 29 s u ∧ asC u 29 (s45 v (hd k) (gd k)) := by
  obtain ⟨a1, a2, a3, a4, a5, a6, a7, a8, a9, a10⟩ := hw
  have hin : (0 : Int) ≤ (r : Int) ∧ (r : Int) < 60 := by omega
  have e1 := pk_look (k := k) (b := 2 * (k : Int)) a8 (by omega) (fun j hj => (a10 j hj).2.2.1) a2 hk
  have e2 := pk_look (k := k) (b := 2 * (k : Int)) a9 (by omega) (fun j hj => (a10 j hj).2.2.2) a2 hk
  refine ⟨_, by rw [co_show_eq, if_pos hin, if_pos hin, Int.toNat_natCast, e1, e2], FA.rf.up.up, ?_⟩
  have := (ha.up5 (x := hd k)).up6 (x := gd k)
  rw [s45_s45] at this
  exact this
theorem hx_lawOf_ok {r t : Nat} (h : Inv s) (hr : r < 60) (ht : t < 12) (ho : s 10 r = (t : Int)) : hx_lawOf L (r : Int) s = ok L ((ru_q s t : Nat) : Int) s := by
  have hc := (h.cell (t := t) (by omega)).ge
  have eq : ru_q s t = (s 16 t).toNat := by unfold ru_q; rw [if_pos ht]
  rw [hx_lawOf_eq, if_pos (by omega), Int.toNat_natCast, ho, if_pos (by omega), Int.toNat_natCast, ← eq, if_pos (by omega)]
theorem b2i (b : Bool) : zb (b = true) = ((b.toNat : Nat) : Int) := by
  cases b
  · exact zb_0 (by decide)
  · exact zb_1 rfl
theorem co_hit {r x n k : Nat} {hd gd : Nat → Int} (hw : RW s r x n hd gd) (hk : k < 32) : co_isHitAt L (r : Int) (k : Int) s = ok L (((x.testBit k).toNat : Nat) : Int) s := by
  have h2 := p2_24 hw.2.1
  have h3 := hw.2.2.1
  rw [co_isHitAt_ok hw.1 hw.2.2.2.1 (by omega) hk, ← b2i, zb_cg (bt_tb x k)]
theorem md_hit {r x n k : Nat} {hd gd : Nat → Int} (hw : RM s r x n hd gd) (hk : k < 32) : md_isHit L (r : Int) (k : Int) s = ok L (((x.testBit k).toNat : Nat) : Int) s := by
  have h2 := p2_24 hw.2.1
  have h3 := hw.2.2.1
  have h1 := hw.1
  have hb := bt_01 x k
  rw [md_isHit_eq, if_pos (by omega), Int.toNat_natCast, hw.2.2.2.1, md_has_eq, bit_at (by omega) rfl hk, w32_id (by omega) (by omega), tb_bt]
  by_cases e : bt x k = 1
  · rw [if_pos (by omega), ok_bind, e, if_pos (Or.inr rfl)]
    rfl
  · rw [if_neg (by omega), ok_bind, show bt x k = 0 by omega, if_pos (Or.inl rfl)]
    rfl
theorem md_hardAt_ok {r x n k : Nat} {hd gd : Nat → Int} (hw : RM s r x n hd gd) (hk : k < n) : md_hardAt L (r : Int) (k : Int) s = ok L (hd k) s := by
  obtain ⟨a1, a2, a3, a5, a7, a10⟩ := hw
  rw [md_hardAt_eq, if_pos (by omega), show (24 * (r : Int) + (k : Int)).toNat = 24 * r + k by omega, (a10 k hk).1]
theorem md_guardAt_ok {r x n k : Nat} {hd gd : Nat → Int} (hw : RM s r x n hd gd) (hk : k < n) : md_guardAt L (r : Int) (k : Int) s = ok L (gd k) s := by
  obtain ⟨a1, a2, a3, a5, a7, a10⟩ := hw
  rw [md_guardAt_eq, if_pos (by omega), show (24 * (r : Int) + (k : Int)).toNat = 24 * r + k by omega, (a10 k hk).2.1]
/-- one step of the class along a row -/
theorem cl_step {r x n t i : Nat} {hd gd : Nat → Int} {rs : List Ru} {u : hh_Sv} (h : Inv s) (hw : RW s r x n hd gd) (ht : t < 16) (hS : ru_S s t rs) (hi : i < n) (g : FA 29 s u) (ha : asC u 29 (s45 (wk rs x hd gd i) (hd i) (gd i))) : ∃ w, ru_goOn L (ru_q s t) 29 (((x.testBit i).toNat : Nat) : Int) u = ok L 0 w ∧ FA 29 s w ∧ asC w 29 (wk rs x hd gd (i + 1)) := by
  have q := g.q (by decide)
  obtain ⟨S1, e1⟩ := hS.q h.lw q ht
  have hr := hw.2.2.2.2.2.2.2.2.2
  have hb := wk_bd (x := x) hS.ok (i := i) (fun k hk => (hr k (by omega)).2.2)
  have hri := (hr i hi).2.2
  have hn := hw.2.1
  obtain ⟨w, w1, w2, w3⟩ := ru_goOn_ok (L := L) (b := x.testBit i) (q.I h).lw ht S1 as_29 (by decide) ha (hb.p45 (by omega) (by omega)) (by omega)
  rw [e1] at w1
  exact ⟨w, w1, g.tr w2, w3⟩
theorem hx_walkTo_ok {r x n t k : Nat} {hd gd : Nat → Int} {rs : List Ru} (h : Inv s) (hw : RW s r x n hd gd) (ht : t < 12) (ho : s 10 r = (t : Int)) (hS : ru_S s t rs) (hk : k ≤ n) : ∃ u, hx_walkTo L (r : Int) (k : Int) s = ok L 0 u ∧ FA 29 s u ∧ asC u 29 (if k < n then s45 (wk rs x hd gd k) (hd k) (gd k) else wk rs x hd gd k) := by
  have hr60 := hw.1
  have hn := hw.2.1
  have kq := ru_kd (L := L) (h.cell (t := t) (by omega))
  obtain ⟨c, c1, c2, c3⟩ := as_clear_ok (L := L) (s := s) as_29 (by decide)
  rw [hx_walkTo_eq, hx_lawOf_ok h hr60 ht ho, ok_bind]
  dsimp only
  rw [c1, ok_bind, Int.toNat_natCast]
  dsimp only
  have key : ∀ (j i : Nat) (u : hh_Sv), i + j = k → FA 29 s u → asC u 29 (wk rs x hd gd i) → ∃ w, hx_walkTo_b1 L (r : Int) (k : Int) (ru_q s t) (i : Int) u = ok L 0 w ∧ FA 29 s w ∧ asC w 29 (if k < n then s45 (wk rs x hd gd k) (hd k) (gd k) else wk rs x hd gd k) := by
    intro j
    induction j with
    | zero =>
      intro i u e g a
      rw [Nat.add_zero] at e
      subst e
      have hwu := hw.q (g.q (by decide))
      rw [hx_walkTo_b1_eq, if_neg (by omega), if_pos (by omega), Int.toNat_natCast, hwu.2.2.2.2.2.1]
      by_cases e : i < n
      · obtain ⟨w, w1, w2, w3⟩ := co_show_ok (L := L) hwu e a
        rw [if_pos (by rw [w32_id (by omega) (by omega), w32_id (by omega) (by omega)]; omega), w1, ok_bind, if_pos e]
        exact ⟨w, rfl, g.tr w2, w3⟩
      · rw [if_neg (by rw [w32_id (by omega) (by omega), w32_id (by omega) (by omega)]; omega), if_neg e]
        exact ⟨u, rfl, g, a⟩
    | succ j ih =>
      intro i u e g a
      have hwu := hw.q (g.q (by decide))
      obtain ⟨w, w1, w2, w3⟩ := co_show_ok (L := L) hwu (show i < n by omega) a
      have gw := g.tr w2
      obtain ⟨y, y1, y2, y3⟩ := cl_step (L := L) h hw (by omega) hS (show i < n by omega) gw w3
      rw [hx_walkTo_b1_eq, if_pos (by rw [w32_id (by omega) (by omega), w32_id (by omega) (by omega)]; omega), w1, ok_bind]
      dsimp only
      rw [co_hit (hw.q (gw.q (by decide))) (by omega), ok_bind, if_pos kq]
      dsimp only
      rw [y1, ok_bind]
      exact ih (i + 1) y (by omega) y2 y3
  exact key k 0 c (by omega) c2 c3
theorem md_ahead_ok {r x n t k : Nat} {hd gd : Nat → Int} {rs : List Ru} (h : iv_L s) (hw : RM s r x n hd gd) (ht : t < 12) (ho : s 243 r = (t : Int)) (hS : ru_S s t rs) (hk : k ≤ n) : ∃ u, md_ahead L (r : Int) (k : Int) s = ok L 0 u ∧ FM s u ∧ asM u (wk rs x hd gd k) := by
  have hr60 := hw.1
  have hn := hw.2.1
  obtain ⟨c, c1, c2, c3⟩ := md_begins_ok (L := L) (s := s)
  rw [md_ahead_eq, c1, ok_bind]
  dsimp only
  have key : ∀ (j i : Nat) (u : hh_Sv), i + j = k → FM s u → asM u (wk rs x hd gd i) → ∃ w, md_ahead_b1 L (r : Int) (k : Int) (i : Int) u = ok L 0 w ∧ FM s w ∧ asM w (wk rs x hd gd k) := by
    intro j
    induction j with
    | zero =>
      intro i u e g a
      rw [Nat.add_zero] at e
      subst e
      rw [md_ahead_b1_eq, if_neg (by omega)]
      exact ⟨u, rfl, g, a⟩
    | succ j ih =>
      intro i u e g a
      have hwu := hw.q g.q
      have hr := hw.2.2.2.2.2
      have hb := wk_bd (x := x) hS.ok (i := i) (fun k hk => (hr k (by omega)).2.2)
      have hri := (hr i (by omega)).2.2
      obtain ⟨w, w1, w2, w3⟩ := md_goesOn_ok (L := L) (b := x.testBit i) (g.q.lw h) (show t < 16 by omega) (hS.q h g.q (by omega)).1 a hb (by omega) (a := hd i) (c := gd i) (by omega) (by omega)
      rw [md_ahead_b1_eq, if_pos (by rw [w32_id (by omega) (by omega), w32_id (by omega) (by omega)]; omega), if_pos (by omega), md_hit hwu (by omega), ok_bind]
      dsimp only
      rw [md_hardAt_ok hwu (by omega), ok_bind]
      dsimp only
      rw [md_guardAt_ok hwu (by omega), ok_bind, Int.toNat_natCast, g _ _ (by decide) (by decide), ho]
      dsimp only
      rw [w1, ok_bind]
      exact ih (i + 1) w (by omega) (g.tr w2) w3
  exact key k 0 c (by omega) c2 c3
end
