/-! give: the reference's sum over the ways; the call -/
section
variable {L : Nat} {s : hh_Sv}
theorem md_plays_lp {A : Bool → Nat} {R : Bool → List Ru} {N w : Nat} {K m : Int} (hL : iv_L s) (hA : ∀ p, A p < 12) (hS : ∀ p, ru_S s (A p) (R p)) (hN : N ≤ 8) (hK : 0 ≤ K ∧ K ≤ 5) (hm : 0 ≤ m ∧ m ≤ 3) (hw : w < 2 ^ N) : ∀ (n t : Nat) (u : hh_Sv) (st : Bool → Nat → Int) (c : Int), t + n = N → FP s u → GB st t → (∀ p, asX u p (st p)) → u 242 69 = c → 0 ≤ c → c ≤ 100 ^ t → ∃ y, md_plays_b3 L (A true : Nat) (A false : Nat) (N : Nat) K m (w : Nat) (t : Nat) u = ok L 0 y ∧ FP s y ∧ y 242 69 = c * gW R K m n t st (w / 2 ^ t)
  | 0, t, u, st, c, e, g, hb, ha, hc, c0, c1 => by
    refine ⟨u, ?_, g, ?_⟩
    · rw [md_plays_b3_eq, if_neg (by rw [w32_id (by omega) (by omega), w32_id (by omega) (by omega)]; omega)]
    · rw [gW, Int.mul_one]
      exact hc
  | n + 1, t, u, st, c, e, g, hb, ha, hc, c0, c1 => by
    have hp8 := p8 t (by omega)
    have hI : I64 (u 242 69) := by rw [hc]; exact ⟨by omega, by omega⟩
    by_cases q : 0 < c
    case neg =>
      have ec : c = 0 := by omega
      refine ⟨u, ?_, g, ?_⟩
      · rw [md_plays_b3_eq, if_pos (by rw [w32_id (by omega) (by omega), w32_id (by omega) (by omega)]; omega), if_neg (fun z => q (by rw [← hc]; exact (lc_pos hI).mp z))]
      · rw [ec, Int.zero_mul, hc, ec]
    have hok : ∀ p, ∀ r ∈ R p, ru_ok r := fun p => (hS p).ok
    have t16 : A (gO K st t) < 16 := by have := hA (gO K st t); omega
    rw [md_plays_who hA hN hK (by omega) hb ha ((lc_pos hI).mpr (by rw [hc]; exact q))]
    obtain ⟨c1', c2', c3'⟩ := am3_bd (v := st (gO K st t)) (hok (gO K st t)) (gX_bd (K := K) (st := st) hm)
    have hxb := gX_bd (K := K) (st := st) hm
    have hvb := (hb (gO K st t)).1
    have hw31 : w < 2147483648 := Nat.lt_of_lt_of_le hw (Nat.le_trans (Nat.pow_le_pow_right (by decide) hN) (by decide))
    obtain ⟨f, f1, f2, f3⟩ := md_fetches_ok (L := L) (ha (gO K st t))
    have gf := g.tr f2.p
    obtain ⟨p, p1, p2, p3⟩ := md_hardNow_ok (L := L) (gf.q.lw hL) t16 ((hS (gO K st t)).q hL gf.q t16).1 f3 hvb (by omega)
    have gp := gf.tr p2.p
    obtain ⟨o, o1, o2, o3⟩ := md_guardNow_ok (L := L) (gp.q.lw hL) t16 ((hS (gO K st t)).q hL gp.q t16).1 p3 (hvb.p45 (by omega) (by omega)) (by omega) (a := hdN (R (gO K st t)) (st (gO K st t))) (by omega)
    have eg : gdN (R (gO K st t)) (s45 (st (gO K st t)) 0 0) (hdN (R (gO K st t)) (st (gO K st t))) = gdN (R (gO K st t)) (st (gO K st t)) (hdN (R (gO K st t)) (st (gO K st t))) := by unfold gdN; rw [s45_s45]
    rw [eg] at o1
    rw [s45_s45] at o3
    have go := gp.tr o2.p
    obtain ⟨z, z1, z2, z3⟩ := md_chanceNow_ok (L := L) (go.q.lw hL) t16 ((hS (gO K st t)).q hL go.q t16).1 o3 (hvb.p45 (by omega) (by omega)) (by omega) (a := hdN (R (gO K st t)) (st (gO K st t))) (b := mn3 (gdN (R (gO K st t)) (st (gO K st t)) (hdN (R (gO K st t)) (st (gO K st t))) + gX K m st)) (by omega) (by omega)
    rw [s45_s45] at z1 z3
    have gz := go.tr z2.p
    have z1 : md_chanceNow L (A (gO K st t) : Nat) (hdN (R (gO K st t)) (st (gO K st t))) (mn3 (gdN (R (gO K st t)) (st (gO K st t)) (hdN (R (gO K st t)) (st (gO K st t))) + gX K m st)) o = ok L (gC R K m st t) z := z1
    have z3 : asM z (gA R K m st t) := z3
    have ez : z 242 69 = c := by rw [z2 _ _ (by decide) (by decide), o2 _ _ (by decide) (by decide), p2 _ _ (by decide) (by decide), f2 _ _ (by decide) (by decide)]; exact hc
    have ax : ∀ r, asX z r (st r) := fun r k hk => by
      rw [z2 _ _ (by decide) (by decide), o2 _ _ (by decide) (by decide), p2 _ _ (by decide) (by decide), f2 _ _ (by decide) (by decide)]
      exact ha r k hk
    have hcb := gC_bd (R := R) (K := K) (m := m) (st := st) (t := t)
    have key : ∀ (x : Int), 0 ≤ x → x ≤ 100 → x = (if w / 2 ^ t % 2 = 1 then gC R K m st t else 100 - gC R K m st t) → ∃ y, md_plays_b13 L (A true : Nat) (A false : Nat) (N : Nat) K m (w : Nat) (t : Nat) ((wi (gO K st t) : Nat) : Int) (A (gO K st t) : Nat) (hdN (R (gO K st t)) (st (gO K st t))) (mn3 (gdN (R (gO K st t)) (st (gO K st t)) (hdN (R (gO K st t)) (st (gO K st t))) + gX K m st)) (((w.testBit t).toNat : Nat) : Int) c x z = ok L 0 y ∧ FP s y ∧ y 242 69 = c * gW R K m (n + 1) t st (w / 2 ^ t) := fun x x0 x1 hx => by
      have gu : FP s (up z 242 69 (c * x)) := gz.w69
      have au : asM (up z 242 69 (c * x)) (gA R K m st t) := fun k hk => by rw [up_k (by decide)]; exact z3 k hk
      obtain ⟨v, v1, v2, v3⟩ := md_goesOn_ok (L := L) (b := w.testBit t) (gu.q.lw hL) t16 ((hS (gO K st t)).q hL gu.q t16).1 au (gA_VB (K := K) hok hm hb) (by omega) (a := hdN (R (gO K st t)) (st (gO K st t))) (c := mn3 (gdN (R (gO K st t)) (st (gO K st t)) (hdN (R (gO K st t)) (st (gO K st t))) + gX K m st)) (by omega) (by omega)
      have eA : s45 (gA R K m st t) (hdN (R (gO K st t)) (st (gO K st t))) (mn3 (gdN (R (gO K st t)) (st (gO K st t)) (hdN (R (gO K st t)) (st (gO K st t))) + gX K m st)) = gA R K m st t := s45_s45
      rw [eA] at v3
      have gv := gu.tr v2.p
      have av : ∀ r, r ≠ gO K st t → asX v r (st r) := fun r _ k hk => by
        rw [v2 _ _ (by decide) (by decide), up_k (by decide)]
        exact ax r k hk
      have ev : v 242 69 = c * x := by rw [v2 _ _ (by decide) (by decide), up_s]
      obtain ⟨y, y1, y2, y3, y4, y5⟩ := md_plays_14 (L := L) (a1 := (A true : Nat)) (a2 := (A false : Nat)) (l3 := (N : Nat)) (l4 := K) (l5 := m) (l6 := (w : Nat)) (l7 := (t : Nat)) v3 av
      have ay : ∀ r, asX y r (gN R K m st t (w.testBit t) r) := fun r => by
        unfold gN
        by_cases er : r = gO K st t
        · rw [if_pos er, er]
          exact y3
        · rw [if_neg er]
          exact y4 r er
      have b1 := Int.mul_nonneg c0 x0
      have b2 : c * x ≤ 100 ^ (t + 1) := by
        rw [Int.pow_succ]
        exact Int.mul_le_mul c1 x1 x0 (Int.le_of_lt (p100 t))
      obtain ⟨r, r1, r2, r3⟩ := md_plays_lp hL hA hS hN hK hm hw n (t + 1) y (gN R K m st t (w.testBit t)) (c * x) (by omega) (gv.tr y1) (gN_GB hok hm hb) ay (by rw [y2]; exact ev) b1 b2
      refine ⟨r, ?_, r2, ?_⟩
      · rw [md_plays_b13_eq, v1, ok_bind]
        dsimp only
        rw [y5]
        exact r1
      · rw [r3, gW, ← hx, ← Int.mul_assoc, Nat.testBit_eq_decide_div_mod_eq, Nat.div_div_eq_div_mul, ← Nat.pow_succ]
    have b11 : ∃ y, md_plays_b11 L (A true : Nat) (A false : Nat) (N : Nat) K m (w : Nat) (t : Nat) ((wi (gO K st t) : Nat) : Int) (A (gO K st t) : Nat) (hdN (R (gO K st t)) (st (gO K st t))) 3 (gdN (R (gO K st t)) (st (gO K st t)) (hdN (R (gO K st t)) (st (gO K st t)))) (gX K m st) o = ok L 0 y ∧ FP s y ∧ y 242 69 = c * gW R K m (n + 1) t st (w / 2 ^ t) := by
      have jm : jma_min L 3 (gdN (R (gO K st t)) (st (gO K st t)) (hdN (R (gO K st t)) (st (gO K st t))) + gX K m st) o = ok L (mn3 (gdN (R (gO K st t)) (st (gO K st t)) (hdN (R (gO K st t)) (st (gO K st t))) + gX K m st)) o := jma_min_ok i_lit ⟨by omega, by omega⟩
      rw [md_plays_b11_eq, jm, ok_bind]
      dsimp only
      rw [z1, ok_bind]
      dsimp only
      rw [md_has_ok hw31 (by omega), ok_bind]
      dsimp only
      rw [ez, w32_id (i := 100 - gC R K m st t) (by omega) (by omega), w32_id (i := gC R K m st t) (by omega) (by omega)]
      have tb := Nat.testBit_eq_decide_div_mod_eq (x := w) (i := t)
      by_cases eb : w / 2 ^ t % 2 = 1
      · rw [decide_eq_true eb] at tb
        rw [if_neg (fun k => absurd (bz.mp k) (by rw [tb]; decide))]
        exact key _ hcb.1 hcb.2 (by rw [if_pos eb])
      · rw [decide_eq_false eb] at tb
        rw [if_pos (bz.mpr tb)]
        exact key _ (by omega) (by omega) (by rw [if_neg eb])
    rw [md_plays_b9_eq, f1, ok_bind]
    dsimp only
    rw [p1, ok_bind]
    dsimp only
    rw [o1, ok_bind]
    dsimp only
    by_cases e1 : gG K st = false
    · have ex : gX K m st = 0 := by unfold gX; rw [e1]; rfl
      rw [if_pos (bz.mpr e1)]
      rw [ex] at b11
      exact b11
    · have e2 : gG K st = true := by cases q : gG K st; exact absurd q e1; rfl
      have ex : gX K m st = m := by unfold gX; rw [e2]; rfl
      rw [if_neg (fun k => e1 (bz.mp k))]
      rw [ex] at b11
      exact b11
def g0 : Bool → Nat → Int := fun _ _ => 0
theorem md_plays_ok {A : Bool → Nat} {R : Bool → List Ru} {N w : Nat} {K m : Int} (hL : iv_L s) (hA : ∀ p, A p < 12) (hS : ∀ p, ru_S s (A p) (R p)) (hN : N ≤ 8) (hK : 0 ≤ K ∧ K ≤ 5) (hm : 0 ≤ m ∧ m ≤ 3) (hw : w < 2 ^ N) : ∃ y, md_plays L (A true : Nat) (A false : Nat) (N : Nat) K m (w : Nat) s = ok L 0 y ∧ FP s y ∧ y 242 69 = gW R K m N 0 g0 w := by
  rw [md_plays_eq]
  refine lp_st (n := 14) (fun z u => md_plays_b1 L (A true : Nat) (A false : Nat) (N : Nat) K m (w : Nat) z u) (fun i u => FP s u ∧ u 242 69 = 1 ∧ ∀ k, k < i → u 282 k = 0) (fun r => ∃ y, r = ok L 0 y ∧ FP s y ∧ y 242 69 = gW R K m N 0 g0 w) ?_ ?_ 14 0 (up s 242 69 1) (by omega) ⟨FP.rf.w69, up_s, fun k hk => by omega⟩
  · intro i u hi ⟨g, q, q2⟩
    refine ⟨up u 282 i 0, ⟨g.w282, by rw [up_k (by decide)]; exact q, fun k hk => ?_⟩, ?_⟩
    · by_cases e : k = i
      · rw [e, up_s]
      · rw [up_j e]
        exact q2 k (by omega)
    · show md_plays_b1 L (A true : Nat) (A false : Nat) (N : Nat) K m (w : Nat) (i : Int) u = md_plays_b1 L (A true : Nat) (A false : Nat) (N : Nat) K m (w : Nat) ((i : Int) + 1) (up u 282 i 0)
      rw [md_plays_b1_eq, if_pos (by rw [w32_id (by omega) (by omega)]; omega), if_pos (by omega), Int.toNat_natCast]
  · intro u ⟨g, q, q2⟩
    obtain ⟨y, y1, y2, y3⟩ := md_plays_lp (L := L) (R := R) hL hA hS hN hK hm hw N 0 u g0 1 (by omega) g gGB0 (fun p k hk => q2 _ (by have := wi_bd (p := p); omega)) q (by decide) (by decide)
    refine ⟨y, ?_, y2, ?_⟩
    · show md_plays_b1 L (A true : Nat) (A false : Nat) (N : Nat) K m (w : Nat) ((14 : Nat) : Int) u = _
      rw [md_plays_b1_eq, if_neg (by rw [w32_id (by decide) (by decide)]; decide)]
      exact y1
    · rw [y3, Int.one_mul, Nat.pow_zero, Nat.div_one]
end
