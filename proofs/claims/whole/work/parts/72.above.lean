/-! above, pooled -/
/-- step by step -/
def gd (g : Nat → Int → Int) : Nat → Int
  | 0 => 0
  | n + 1 => g n (gd g n)
theorem lp_gd {n : Nat} {g : Nat → Int → Int} (B : Int → Int → hh_Sv → Option hh_Rs) (P : Nat → hh_Sv → Prop) (Q : Option hh_Rs → Prop) (h1 : ∀ (i : Nat) (t : hh_Sv), i < n → P i t → ∃ t', P (i + 1) t' ∧ B (gd g i) (i : Int) t = B (g i (gd g i)) ((i : Int) + 1) t') (h2 : ∀ t, P n t → Q (B (gd g n) (n : Int) t)) : ∀ (k i : Nat) (t : hh_Sv), i + k = n → P i t → Q (B (gd g i) (i : Int) t)
  | 0, i, t, e, h => by
    rw [Nat.add_zero] at e
    subst e
    exact h2 t h
  | k + 1, i, t, e, h => by
    obtain ⟨t', h3, h4⟩ := h1 i t (by omega) h
    rw [h4]
    exact lp_gd B P Q h1 h2 k (i + 1) t' (by omega) h3
section
variable {L : Nat} {s : hh_Sv}
theorem Eqh.p {s u : hh_Sv} (h : Eqh s u) {k j : Nat} (hn : ¬ scr2 k j) : u k j = s k j := h k j hn
theorem fBm_e {u : hh_Sv} (h : Eqh s u) (t : Int) (o m : Nat) : fBm u t o m = fBm s t o m := funext fun r => by
  unfold fBm
  rw [h.p (by unfold scr2 scr; omega), h.p (by unfold scr2 scr; omega), h.p (by unfold scr2 scr; omega)]
theorem fBh_e {u : hh_Sv} (h : Eqh s u) (t : Int) (o m : Nat) : fBh u t o m = fBh s t o m := funext fun r => by
  unfold fBh
  rw [h.p (by unfold scr2 scr; omega), h.p (by unfold scr2 scr; omega), h.p (by unfold scr2 scr; omega)]
theorem n3_e {u : hh_Sv} (h : Eqh s u) : u 242 3 = s 242 3 := h.p (by unfold scr2 scr; omega)
def sBm (s : hh_Sv) (t : Int) (o : Nat) : Int := sg (fBm s t o 1) (s 242 3).toNat
def sBh (s : hh_Sv) (t : Int) (o : Nat) : Int := sg (fBh s t o 1) (s 242 3).toNat
theorem sB_bd (h : Inv s) (t : Int) (o : Nat) : (0 ≤ sBm s t o ∧ sBm s t o ≤ 1440) ∧ 0 ≤ sBh s t o ∧ sBh s t o ≤ 1440 := by
  have hR := h.R
  have b1 : ∀ k, k < (s 242 3).toNat → (0 ≤ fBm s t o 1 k ∧ fBm s t o 1 k ≤ 24) ∧ 0 ≤ fBh s t o 1 k ∧ fBh s t o 1 k ≤ 24 := fun k hk => by
    obtain ⟨x, n, x1, x2, n1, n2, n3, n4, n5⟩ := row_x h (r := k) (by omega)
    have e1 := cnt_le (f := fun i => decide (1 ≤ rl (ob x o) i)) n
    have e2 := cnt_le (f := fun i => decide (1 ≤ rl (ob x o) i) && x.testBit i) n
    have e1 : bhm x o 1 n ≤ n := e1
    have e2 : bhh x o 1 n ≤ n := e2
    unfold fBm fBh
    rw [x1, n1, Int.toNat_natCast, Int.toNat_natCast]
    split <;> omega
  have a1 := sg_nn (f := fBm s t o 1) (n := (s 242 3).toNat) (fun k hk => (b1 k hk).1.1)
  have a2 := sg_le (f := fBm s t o 1) (c := 24) (n := (s 242 3).toNat) (fun k hk => (b1 k hk).1.2)
  have a3 := sg_nn (f := fBh s t o 1) (n := (s 242 3).toNat) (fun k hk => (b1 k hk).2.1)
  have a4 := sg_le (f := fBh s t o 1) (c := 24) (n := (s 242 3).toNat) (fun k hk => (b1 k hk).2.2)
  unfold sBm sBh
  omega
theorem cB_m {t : Int} {o : Nat} {m : Int} (hm : m = 1) (h : Inv s) (ht : I32 t) (ho : o = 0 ∨ o = 1) : co_countBehind L t (o : Int) m 0 s = ok L (sBm s t o) s := by
  subst hm
  have := co_countBehind_ok (L := L) (m := 1) h ht ho (by decide) (w := 0) i_lit
  rw [if_pos rfl] at this
  exact this
theorem cB_h {t : Int} {o : Nat} {m : Int} (hm : m = 1) (h : Inv s) (ht : I32 t) (ho : o = 0 ∨ o = 1) : co_countBehind L t (o : Int) m 1 s = ok L (sBh s t o) s := by
  subst hm
  have := co_countBehind_ok (L := L) (m := 1) h ht ho (by decide) (w := 1) i_lit
  rw [if_neg (by decide)] at this
  exact this
theorem mul_bd {a b : Int} (ha : 0 ≤ a ∧ a ≤ 1440) (hb : 0 ≤ b ∧ b ≤ 1440) : 0 ≤ a * b ∧ a * b ≤ 2073600 := by
  refine ⟨Int.mul_nonneg ha.1 hb.1, ?_⟩
  have h1 : a * b ≤ 1440 * b := Int.mul_le_mul_of_nonneg_right ha.2 hb.1
  omega
def mor (s : hh_Sv) (t : Int) : Int := sBh s t 1 * sBm s t 0 - sBh s t 0 * sBm s t 1
def bot (s : hh_Sv) (t : Int) : Int := sBm s t 1 * sBm s t 0
theorem hx_all_ok {t : Int} (h : Inv s) (ht : I32 t) : hx_allBehindBoth L t s = ok L (bot s t) s := by
  obtain ⟨a1, a2⟩ := sB_bd h t 1
  obtain ⟨b1, b2⟩ := sB_bd h t 0
  have e1 := cB_m (L := L) (o := 1) (m := 1) rfl h ht (Or.inr rfl)
  have e2 := cB_m (L := L) (o := 0) (m := 1) rfl h ht (Or.inl rfl)
  have e1 : co_countBehind L t 1 1 0 s = ok L (sBm s t 1) s := e1
  have e2 : co_countBehind L t 0 1 0 s = ok L (sBm s t 0) s := e2
  rw [hx_allBehindBoth_eq, e1, ok_bind]
  dsimp only
  rw [e2, ok_bind, w32_id (by omega) (by omega), w32_id (by omega) (by omega)]
  rfl
theorem hx_more_ok {t : Int} (h : Inv s) (ht : I32 t) : hx_moreBehindHit L t s = ok L (mor s t) s := by
  obtain ⟨a1, a2⟩ := sB_bd h t 1
  obtain ⟨b1, b2⟩ := sB_bd h t 0
  have e1 : co_countBehind L t 1 1 0 s = ok L (sBm s t 1) s := cB_m (L := L) (o := 1) (m := 1) rfl h ht (Or.inr rfl)
  have e2 : co_countBehind L t 0 1 0 s = ok L (sBm s t 0) s := cB_m (L := L) (o := 0) (m := 1) rfl h ht (Or.inl rfl)
  have e3 : co_countBehind L t 1 1 1 s = ok L (sBh s t 1) s := cB_h (L := L) (o := 1) (m := 1) rfl h ht (Or.inr rfl)
  have e4 : co_countBehind L t 0 1 1 s = ok L (sBh s t 0) s := cB_h (L := L) (o := 0) (m := 1) rfl h ht (Or.inl rfl)
  rw [hx_moreBehindHit_eq, e3, ok_bind]
  dsimp only
  rw [e2, ok_bind]
  dsimp only
  rw [e4, ok_bind]
  dsimp only
  rw [e1, ok_bind, w32_id (by omega) (by omega), w32_id (by omega) (by omega), w32_id (by omega) (by omega), w32_id (by omega) (by omega)]
  rfl
theorem mor_bd (h : Inv s) (t : Int) : -2073600 ≤ mor s t ∧ mor s t ≤ 2073600 ∧ 0 ≤ bot s t ∧ bot s t ≤ 2073600 := by
  obtain ⟨a1, a2⟩ := sB_bd h t 1
  obtain ⟨b1, b2⟩ := sB_bd h t 0
  have c1 := mul_bd a2 b1
  have c2 := mul_bd b2 a1
  have c3 := mul_bd a1 b1
  unfold mor bot
  omega
theorem bot_pos (h : Inv s) (t : Int) : 0 < bot s t ↔ 0 < sBm s t 1 ∧ 0 < sBm s t 0 := by
  obtain ⟨a1, a2⟩ := sB_bd h t 1
  obtain ⟨b1, b2⟩ := sB_bd h t 0
  unfold bot
  constructor
  · intro q
    constructor
    · by_cases e : sBm s t 1 = 0
      · rw [e, Int.zero_mul] at q
        omega
      · omega
    · by_cases e : sBm s t 0 = 0
      · rw [e, Int.mul_zero] at q
        omega
      · omega
  · intro q
    exact Int.mul_pos q.1 q.2
theorem cnt_and_le {f g : Nat → Bool} : ∀ n : Nat, cnt (fun k => f k && g k) n ≤ cnt f n
  | 0 => Nat.le_refl _
  | n + 1 => by
    have h1 := cnt_and_le (f := f) (g := g) n
    have h2 : (f n && g n).toNat ≤ (f n).toNat := by cases f n <;> cases g n <;> decide
    show cnt (fun k => f k && g k) n + (f n && g n).toNat ≤ cnt f n + (f n).toNat
    omega
theorem sB_hm (s : hh_Sv) (t : Int) (o : Nat) : sBh s t o ≤ sBm s t o := by
  unfold sBh sBm
  generalize (s 242 3).toNat = n
  induction n with
  | zero => exact Int.le_refl _
  | succ k ih =>
    have h1 : fBh s t o 1 k ≤ fBm s t o 1 k := by
      have h2 := cnt_and_le (f := fun i => decide (1 ≤ rl (ob (s 245 k).toNat o) i)) (g := fun i => (s 245 k).toNat.testBit i) (s 244 k).toNat
      have h2 : bhh (s 245 k).toNat o 1 (s 244 k).toNat ≤ bhm (s 245 k).toNat o 1 (s 244 k).toNat := h2
      unfold fBh fBm
      split <;> omega
    rw [sg, sg]
    omega
/-- where one of the two shares isn't told, the one less the other is 0 -/
theorem mor_0 (h : Inv s) (t : Int) (e : ¬ 0 < bot s t) : mor s t = 0 := by
  obtain ⟨a1, a2⟩ := sB_bd h t 1
  obtain ⟨b1, b2⟩ := sB_bd h t 0
  have c1 := sB_hm s t 1
  have c2 := sB_hm s t 0
  by_cases e1 : sBm s t 1 = 0
  · have z1 : sBh s t 1 * sBm s t 0 = 0 := by rw [show sBh s t 1 = 0 by omega]; exact Int.zero_mul _
    have z2 : sBh s t 0 * sBm s t 1 = 0 := by rw [e1]; exact Int.mul_zero _
    unfold mor
    omega
  · have e2 : sBm s t 0 = 0 := Classical.byContradiction fun q => e ((bot_pos h t).mpr ⟨by omega, by omega⟩)
    have z1 : sBh s t 1 * sBm s t 0 = 0 := by rw [e2]; exact Int.mul_zero _
    have z2 : sBh s t 0 * sBm s t 1 = 0 := by rw [show sBh s t 0 = 0 by omega]; exact Int.zero_mul _
    unfold mor
    omega
theorem md_shares_ok {t : Int} (h : Inv s) (ht : I32 t) : ∃ u, md_shares L t s = ok L (zb (0 < bot s t)) u ∧ Eqh s u ∧ u 280 0 = sBh s t 1 ∧ u 280 1 = sBm s t 1 ∧ u 280 2 = sBh s t 0 ∧ u 280 3 = sBm s t 0 := by
  obtain ⟨a1, a2⟩ := sB_bd h t 1
  obtain ⟨b1, b2⟩ := sB_bd h t 0
  obtain ⟨n, hn, hn2⟩ := row_n h
  have z0 : ∀ f : Nat → Int, sg f 0 = 0 := fun _ => rfl
  have en : (s 242 3).toNat = n := by omega
  obtain ⟨u, u1, u2, u3, u4⟩ := md_joins_ok (L := L) (a := 0) (e := n) (o := 1) (m := 1) h ht (Or.inr rfl) (by decide) (Nat.zero_le _) (by omega)
  rw [z0, Int.sub_zero] at u3 u4
  have u1 : md_joins L t 0 ((n : Int) - 1) 1 1 s = ok L 0 u := u1
  have s28 : ∀ j, scr2 280 j := fun j => ⟨by unfold scr; omega, by decide, by omega⟩
  have m1 : sBm s t 1 = sg (fBm s t 1 1) n := by unfold sBm; rw [en]
  have m2 : sBh s t 1 = sg (fBh s t 1 1) n := by unfold sBh; rw [en]
  have m3 : sBm s t 0 = sg (fBm s t 0 1) n := by unfold sBm; rw [en]
  have m4 : sBh s t 0 = sg (fBh s t 0 1) n := by unfold sBh; rw [en]
  rw [md_shares_eq, md_shares_b1_eq, if_pos (by rw [w32_0]; decide), hn]
  have q1 : (1 : Int) - 0 = 1 := rfl
  rw [q1, u1, ok_bind, if_pos (by decide), if_pos (by decide)]
  dsimp only
  rw [u3, u4, ← m1, ← m2, w32_id (by omega) (by omega), w32_id (by omega) (by omega)]
  generalize hv : up (up u 280 ((2 * 0 : Int).toNat) (sBh s t 1)) 280 ((2 * 0 + 1 : Int).toNat) (sBm s t 1) = v
  have gv : Eqh s v := by
    rw [← hv]
    exact (u2.q.up (s28 _)).up (s28 _)
  have v0 : v 280 0 = sBh s t 1 := by rw [← hv, up_j (by decide)]; exact up_s
  have v1 : v 280 1 = sBm s t 1 := by rw [← hv]; exact up_s
  have hv3 : v 242 3 = (n : Int) := by rw [n3_e gv]; exact hn
  obtain ⟨x, x1, x2, x3, x4⟩ := md_joins_ok (L := L) (s := v) (a := 0) (e := n) (o := 0) (m := 1) (gv.I h) ht (Or.inl rfl) (by decide) (Nat.zero_le _) (by omega)
  rw [z0, Int.sub_zero] at x3 x4
  rw [fBh_e gv] at x3
  rw [fBm_e gv] at x4
  have x1 : md_joins L t 0 ((n : Int) - 1) 0 1 v = ok L 0 x := x1
  rw [md_shares_b1_eq, if_pos (by rw [w32_id (by decide) (by decide)]; decide), hv3]
  have q2 : (1 : Int) - (0 + 1) = 0 := rfl
  rw [q2, x1, ok_bind, if_pos (by decide), if_pos (by decide)]
  dsimp only
  rw [x3, x4, ← m3, ← m4, w32_id (by omega) (by omega), w32_id (by omega) (by omega)]
  generalize hy : up (up x 280 ((2 * (0 + 1) : Int).toNat) (sBh s t 0)) 280 ((2 * (0 + 1) + 1 : Int).toNat) (sBm s t 0) = y
  have gy : Eqh s y := by
    rw [← hy]
    exact ((gv.tr x2.q).up (s28 _)).up (s28 _)
  have y0 : y 280 0 = sBh s t 1 := by rw [← hy, up_j (by decide), up_j (by decide), x2 _ _ (by omega)]; exact v0
  have y1 : y 280 1 = sBm s t 1 := by rw [← hy, up_j (by decide), up_j (by decide), x2 _ _ (by omega)]; exact v1
  have y2 : y 280 2 = sBh s t 0 := by rw [← hy, up_j (by decide)]; exact up_s
  have y3 : y 280 3 = sBm s t 0 := by rw [← hy]; exact up_s
  refine ⟨y, ?_, gy, y0, y1, y2, y3⟩
  rw [md_shares_b1_eq, if_neg (by rw [w32_id (by decide) (by decide)]; decide), if_pos (by decide), md_shares_b3_eq, y1, y3]
  by_cases e1 : 0 < sBm s t 1
  · rw [if_pos ((lc_pos ⟨by omega, by omega⟩).mpr e1), if_pos (by decide)]
    by_cases e2 : 0 < sBm s t 0
    · rw [if_pos ((lc_pos ⟨by omega, by omega⟩).mpr e2), zb_1 ((bot_pos h t).mpr ⟨e1, e2⟩)]
    · rw [if_neg (fun q => e2 ((lc_pos ⟨by omega, by omega⟩).mp q)), zb_0 (fun q => e2 ((bot_pos h t).mp q).2)]
  · rw [if_neg (fun q => e1 ((lc_pos ⟨by omega, by omega⟩).mp q)), zb_0 (fun q => e1 ((bot_pos h t).mp q).1)]
theorem bot_e {u : hh_Sv} (h : Eqh s u) (t : Int) : bot u t = bot s t ∧ mor u t = mor s t ∧ (∀ o, sBm u t o = sBm s t o) ∧ ∀ o, sBh u t o = sBh s t o := by
  have e1 : ∀ o, sBm u t o = sBm s t o := fun o => by unfold sBm; rw [fBm_e h, n3_e h]
  have e2 : ∀ o, sBh u t o = sBh s t o := fun o => by unfold sBh; rw [fBh_e h, n3_e h]
  unfold bot mor
  exact ⟨by rw [e1, e1], by rw [e1, e1, e2, e2], e1, e2⟩
/-- over all throwers: both programs -/
theorem thr_n (h : Inv s) : ∃ n : Nat, s 242 2 = (n : Int) ∧ n ≤ 12 := ⟨(s 242 2).toNat, by have := h.T; omega, by have := h.T; omega⟩
noncomputable def abv (s : hh_Sv) (d : Int) (t : Nat) (z : Int) : Int := if 0 < bot s t ∧ d * bot s t ≤ mor s t * 100 then bOr z (iShl 1 t) else z
theorem c_above {a : Int} (ha : I32 a) (h : Inv s) : Cal L s (hx_above L a) (md_above L a) w32 := by
  have hX := hx_above_eq L a s
  have hY := md_above_eq L a s
  rw [tst (hx_isIn_ok ha i_lit i_lit)] at hX
  rw [tst (md_isIn_ok ha i_lit i_lit)] at hY
  by_cases e1 : 0 ≤ a ∧ a ≤ 100
  case neg => exact Cal.pure (hX.trans (if_neg e1)) (hY.trans (if_neg e1)) rfl h
  rw [if_pos e1] at hX hY
  dsimp only at hX hY
  obtain ⟨n, hn, hn2⟩ := thr_n h
  have hT := h.T
  have dm : ∀ t : Int, 0 ≤ a * bot s t ∧ a * bot s t ≤ 207360000 := fun t => by
    have hb := mor_bd h t
    refine ⟨Int.mul_nonneg e1.1 hb.2.2.1, ?_⟩
    have : a * bot s t ≤ 100 * bot s t := Int.mul_le_mul_of_nonneg_right e1.2 hb.2.2.1
    omega
  have kX := lp_gd (n := n) (g := abv s a) (fun z i u => hx_above_b2 L a z i u) (fun _ u => u = s) (fun r => r = ok L (gd (abv s a) n) s) (fun i t hi ht => ⟨s, rfl, ?_⟩) (fun t ht => ?_) n 0 s (by omega) rfl
  · have kX : hx_above_b2 L a 0 0 s = ok L (gd (abv s a) n) s := kX
    rw [kX] at hX
    have kY := lp_gd (n := n) (g := abv s a) (fun z i u => md_above_b2 L a z i u) (fun _ u => Eqh s u) (fun r => ∃ u, r = ok L (gd (abv s a) n) u ∧ Eqh s u) (fun i t hi ht => ?_) (fun t ht => ?_) n 0 s (by omega) Eqh.rf
    · obtain ⟨u, u1, u2⟩ := kY
      have u1 : md_above_b2 L a 0 0 s = ok L (gd (abv s a) n) u := u1
      rw [u1] at hY
      exact Cal.q hX hY rfl Eqh.rf u2 h
    · have e2 : t 242 2 = (n : Int) := by rw [ht.p (by unfold scr2 scr; omega)]; exact hn
      obtain ⟨u, u1, u2, u3, u4, u5, u6⟩ := md_shares_ok (L := L) (s := t) (t := (i : Int)) (ht.I h) ⟨by omega, by omega⟩
      obtain ⟨q1, q2, q3, q4⟩ := bot_e ht (i : Int)
      rw [q1] at u1
      rw [q4] at u3 u5
      rw [q3] at u4 u6
      have hb := mor_bd h (i : Int)
      have hd := dm (i : Int)
      refine ⟨u, ht.tr u2, ?_⟩
      show md_above_b2 L a (gd (abv s a) i) (i : Int) t = md_above_b2 L a (abv s a i (gd (abv s a) i)) ((i : Int) + 1) u
      rw [md_above_b2_eq, if_pos (by rw [e2, w32_id (by omega) (by omega), w32_id (by omega) (by omega)]; omega), tst u1]
      unfold abv
      by_cases e3 : 0 < bot s i
      · rw [if_pos e3, if_pos (by decide), if_pos (by decide), if_pos (by decide), if_pos (by decide), if_pos (by decide), if_pos (by decide)]
        dsimp only
        have em : 100 * (u 280 0 * u 280 3 - u 280 2 * u 280 1) = mor s i * 100 := by rw [u3, u4, u5, u6]; unfold mor; rw [Int.mul_comm]
        have eb : w32 a * u 280 1 * u 280 3 = a * bot s i := by rw [u4, u6, ha.w]; unfold bot; rw [Int.mul_assoc]
        by_cases e4 : a * bot s i ≤ mor s i * 100
        · rw [if_neg (fun q => by have := lCmp_lt.mp q; rw [em, eb, w64_id (by omega) (by omega), w64_id (by omega) (by omega)] at this; omega), if_pos ⟨e3, e4⟩]
        · rw [if_pos (lCmp_lt.mpr (by rw [em, eb, w64_id (by omega) (by omega), w64_id (by omega) (by omega)]; omega)), if_neg (fun q => e4 q.2)]
      · rw [if_neg e3, if_neg (fun q => e3 q.1)]
    · have e2 : t 242 2 = (n : Int) := by rw [ht.p (by unfold scr2 scr; omega)]; exact hn
      refine ⟨t, ?_, ht⟩
      show md_above_b2 L a (gd (abv s a) n) (n : Int) t = _
      rw [md_above_b2_eq, if_neg (by rw [e2]; omega)]
  · subst ht
    show hx_above_b2 L a (gd (abv t a) i) (i : Int) t = hx_above_b2 L a (abv t a i (gd (abv t a) i)) ((i : Int) + 1) t
    have hb := mor_bd h (i : Int)
    have hd := dm (i : Int)
    rw [hx_above_b2_eq, if_pos (by rw [hT.1, hn, w32_id (by omega) (by omega), w32_id (by omega) (by omega)]; omega), hx_all_ok h ⟨by omega, by omega⟩, ok_bind]
    dsimp only
    unfold abv
    by_cases e3 : 0 < bot t i
    · rw [if_pos ((lc_pos ⟨by omega, by omega⟩).mpr e3), hx_more_ok h ⟨by omega, by omega⟩, ok_bind]
      dsimp only
      rw [ha.w]
      by_cases e4 : a * bot t i ≤ mor t i * 100
      · rw [if_neg (fun q => by have := lCmp_lt.mp q; rw [w64_id (by omega) (by omega), w64_id (by omega) (by omega)] at this; omega), if_pos ⟨e3, e4⟩]
      · rw [if_pos (lCmp_lt.mpr (by rw [w64_id (by omega) (by omega), w64_id (by omega) (by omega)]; omega)), if_neg (fun q => e4 q.2)]
    · rw [if_neg (fun q => e3 ((lc_pos ⟨by omega, by omega⟩).mp q)), if_neg (fun q => e3 q.1)]
  · subst ht
    show hx_above_b2 L a (gd (abv t a) n) (n : Int) t = _
    rw [hx_above_b2_eq, if_neg (by rw [hT.1, hn]; omega)]
/-- 1 where the one behind a hit is more (w 1), or less (w -1) -/
noncomputable def lng (s : hh_Sv) (w : Int) (t : Nat) (z : Int) : Int := if 0 < bot s t ∧ 0 < mor s t * w then z + 1 else z
theorem hx_lean_ok {w : Int} (h : Inv s) (hw : w = 1 ∨ w = -1) : hx_throwersLeaning L w s = ok L (gd (lng s w) (s 242 2).toNat) s := by
  obtain ⟨n, hn, hn2⟩ := thr_n h
  have hT := h.T
  rw [hx_throwersLeaning_eq, hn, Int.toNat_natCast]
  refine lp_gd (n := n) (g := lng s w) (fun z i u => hx_throwersLeaning_b1 L w z i u) (fun _ u => u = s) (fun r => r = ok L (gd (lng s w) n) s) (fun i t hi ht => ⟨s, rfl, ?_⟩) (fun t ht => ?_) n 0 s (by omega) rfl
  · subst ht
    show hx_throwersLeaning_b1 L w (gd (lng t w) i) (i : Int) t = hx_throwersLeaning_b1 L w (lng t w i (gd (lng t w) i)) ((i : Int) + 1) t
    have hb := mor_bd h (i : Int)
    have hmw : -2073600 ≤ mor t i * w ∧ mor t i * w ≤ 2073600 := by rcases hw with rfl | rfl <;> omega
    rw [hx_throwersLeaning_b1_eq, if_pos (by rw [hT.1, hn, w32_id (by omega) (by omega), w32_id (by omega) (by omega)]; omega), hx_more_ok h ⟨by omega, by omega⟩, ok_bind]
    dsimp only
    unfold lng
    rw [w32_id (i := w) (by omega) (by omega)]
    by_cases e4 : 0 < mor t i * w
    · have e3 : 0 < bot t i := Classical.byContradiction fun q => by
        rw [mor_0 h _ q, Int.zero_mul] at e4
        omega
      rw [if_pos ((lc_pos ⟨by omega, by omega⟩).mpr e4), if_pos ⟨e3, e4⟩]
    · rw [if_neg (fun q => e4 ((lc_pos ⟨by omega, by omega⟩).mp q)), if_neg (fun q => e4 q.2)]
  · subst ht
    show hx_throwersLeaning_b1 L w (gd (lng t w) n) (n : Int) t = _
    rw [hx_throwersLeaning_b1_eq, if_neg (by rw [hT.1, hn]; omega)]
theorem md_lean_ok {a w : Int} (h : Inv s) (ha : (a = 4 ∧ w = 1) ∨ (a = 5 ∧ w = -1)) : ∃ u, md_pooled_b7 L a 0 0 s = ok L (gd (lng s w) (s 242 2).toNat) u ∧ Eqh s u := by
  obtain ⟨n, hn, hn2⟩ := thr_n h
  rw [hn, Int.toNat_natCast]
  have kY := lp_gd (n := n) (g := lng s w) (fun z i u => md_pooled_b7 L a z i u) (fun _ u => Eqh s u) (fun r => ∃ u, r = ok L (gd (lng s w) n) u ∧ Eqh s u) (fun i t hi ht => ?_) (fun t ht => ?_) n 0 s (by omega) Eqh.rf
  · exact kY
  · have e2 : t 242 2 = (n : Int) := by rw [ht.p (by unfold scr2 scr; omega)]; exact hn
    obtain ⟨u, u1, u2, u3, u4, u5, u6⟩ := md_shares_ok (L := L) (s := t) (t := (i : Int)) (ht.I h) ⟨by omega, by omega⟩
    obtain ⟨q1, q2, q3, q4⟩ := bot_e ht (i : Int)
    rw [q1] at u1
    rw [q4] at u3 u5
    rw [q3] at u4 u6
    have hb := mor_bd h (i : Int)
    refine ⟨u, ht.tr u2, ?_⟩
    show md_pooled_b7 L a (gd (lng s w) i) (i : Int) t = md_pooled_b7 L a (lng s w i (gd (lng s w) i)) ((i : Int) + 1) u
    have b12 : ∀ k : Int, (k = 0 ∨ k = 1) → md_pooled_b12 L a (i : Int) (gd (lng s w) i) k u = md_pooled_b7 L a (gd (lng s w) i + k) ((i : Int) + 1) u := fun k hk => by
      rw [md_pooled_b12_eq]
      rcases hk with rfl | rfl
      · have e := md_one_ok (L := L) (s := u) (o := 0) (Or.inl rfl)
        have e : md_one L 0 u = ok L 0 u := e
        rw [e, ok_bind]
      · have e := md_one_ok (L := L) (s := u) (o := 1) (Or.inr rfl)
        have e : md_one L 1 u = ok L 1 u := e
        rw [e, ok_bind]
    rw [md_pooled_b7_eq, if_pos (by rw [e2, w32_id (by omega) (by omega), w32_id (by omega) (by omega)]; omega), tst u1]
    by_cases e3 : 0 < bot s i
    · rw [if_pos e3, if_pos (by decide), if_pos (by decide), if_pos (by decide), if_pos (by decide)]
      dsimp only
      have em : u 280 0 * u 280 3 - u 280 2 * u 280 1 = mor s i := by rw [u3, u4, u5, u6]; rfl
      rcases ha with ⟨rfl, rfl⟩ | ⟨rfl, rfl⟩
      · rw [if_pos (w32_id (by decide) (by decide))]
        by_cases e4 : 0 < mor s i
        · rw [if_pos (by rw [em]; exact (lc_pos ⟨by omega, by omega⟩).mpr e4), b12 1 (Or.inr rfl), lng, if_pos ⟨e3, by omega⟩]
        · rw [if_neg (by rw [em]; exact fun q => e4 ((lc_pos ⟨by omega, by omega⟩).mp q)), b12 0 (Or.inl rfl), lng, if_neg (fun q => by have := q.2; omega), Int.add_zero]
      · rw [if_neg (by rw [w32_id (by decide) (by decide)]; decide)]
        by_cases e4 : mor s i < 0
        · rw [if_pos (by rw [em]; exact (lc_neg ⟨by omega, by omega⟩).mpr e4), b12 1 (Or.inr rfl), lng, if_pos ⟨e3, by omega⟩]
        · rw [if_neg (by rw [em]; exact fun q => e4 ((lc_neg ⟨by omega, by omega⟩).mp q)), b12 0 (Or.inl rfl), lng, if_neg (fun q => by have := q.2; omega), Int.add_zero]
    · rw [if_neg e3, lng, if_neg (fun q => e3 q.1)]
  · have e2 : t 242 2 = (n : Int) := by rw [ht.p (by unfold scr2 scr; omega)]; exact hn
    refine ⟨t, ?_, ht⟩
    show md_pooled_b7 L a (gd (lng s w) n) (n : Int) t = _
    rw [md_pooled_b7_eq, if_neg (by rw [e2]; omega)]
theorem c_pooled {a : Int} (ha : I32 a) (h : Inv s) : Cal L s (hx_pooled L a) (md_pooled L a) w32 := by
  have hX := hx_pooled_eq L a s
  have hY := md_pooled_eq L a s
  rw [tst (md_isIn_ok ha i_lit i_lit)] at hY
  rw [ha.w] at hX
  have z0 : ∀ f : Nat → Int, sg f 0 = 0 := fun _ => rfl
  by_cases e1 : 0 ≤ a ∧ a ≤ 5
  case neg =>
    refine Cal.pure (hX.trans ?_) (hY.trans (if_neg e1)) rfl h
    rw [if_neg (by omega), if_neg (by omega), if_neg (by omega), if_neg (by omega), if_neg (by omega), if_neg (by omega)]
  rw [if_pos e1] at hY
  dsimp only at hY
  rw [ha.w] at hY
  obtain ⟨n, hn, hn2⟩ := row_n h
  have en : (s 242 3).toNat = n := by omega
  have jo : ∀ o : Nat, (o = 0 ∨ o = 1) → ∃ u, md_pooled_b3 L a (-1) 0 ((s 242 3) - 1) (o : Int) s = (if w32 (tMod (w32 a) 2) = 0 then ok L (sBh s (-1) o) u else ok L (sBm s (-1) o) u) ∧ Eqh s u := fun o ho => by
    obtain ⟨u, u1, u2, u3, u4⟩ := md_joins_ok (L := L) (a := 0) (e := n) (o := o) (m := 1) h (t := -1) i_lit ho (by decide) (Nat.zero_le _) (by omega)
    rw [z0, Int.sub_zero] at u3 u4
    have u1 : md_joins L (-1) 0 ((n : Int) - 1) (o : Int) 1 s = ok L 0 u := u1
    refine ⟨u, ?_, u2.q⟩
    rw [md_pooled_b3_eq, md_one_ok ho, ok_bind]
    dsimp only
    rw [hn, u1, ok_bind]
    dsimp only
    rw [u3, u4]
    unfold sBh sBm
    rw [en]
  obtain ⟨u, u1, u2⟩ := jo 1 (Or.inr rfl)
  obtain ⟨v, v1, v2⟩ := jo 0 (Or.inl rfl)
  have u1 : md_pooled_b3 L a (-1) 0 ((s 242 3) - 1) 1 s = _ := u1
  have v1 : md_pooled_b3 L a (-1) 0 ((s 242 3) - 1) 0 s = _ := v1
  have f1 : co_countBehind L (-1) 1 1 0 s = ok L (sBm s (-1) 1) s := cB_m (L := L) (o := 1) (m := 1) rfl h i_lit (Or.inr rfl)
  have f2 : co_countBehind L (-1) 0 1 0 s = ok L (sBm s (-1) 0) s := cB_m (L := L) (o := 0) (m := 1) rfl h i_lit (Or.inl rfl)
  have f3 : co_countBehind L (-1) 1 1 1 s = ok L (sBh s (-1) 1) s := cB_h (L := L) (o := 1) (m := 1) rfl h i_lit (Or.inr rfl)
  have f4 : co_countBehind L (-1) 0 1 1 s = ok L (sBh s (-1) 0) s := cB_h (L := L) (o := 0) (m := 1) rfl h i_lit (Or.inl rfl)
  rw [f1, f2, f3, f4, ok_bind, ok_bind, ok_bind, ok_bind, hx_lean_ok h (Or.inl rfl), hx_lean_ok h (Or.inr rfl), ok_bind, ok_bind] at hX
  dsimp only at hX
  have tm : ∀ x : Int, 0 ≤ x → x ≤ 5 → w32 (tMod (w32 x) 2) = x % 2 := fun x h1 h2 => by
    rw [w32_id (i := x) (by omega) (by omega), tMod_nn h1 (by decide), w32_id (by omega) (by omega)]
  rcases (show a = 0 ∨ a = 1 ∨ a = 2 ∨ a = 3 ∨ a = 4 ∨ a = 5 by omega) with rfl | rfl | rfl | rfl | rfl | rfl
  · rw [if_pos rfl] at hX
    rw [if_pos (by decide), if_pos (by decide), u1, if_pos (show w32 (tMod (w32 0) 2) = 0 from tm 0 (by decide) (by decide))] at hY
    exact Cal.q hX hY rfl Eqh.rf u2 h
  · rw [if_neg (by decide), if_pos rfl] at hX
    rw [if_pos (by decide), if_pos (by decide), u1, if_neg (by rw [tm 1 (by decide) (by decide)]; decide)] at hY
    exact Cal.q hX hY rfl Eqh.rf u2 h
  · rw [if_neg (by decide), if_neg (by decide), if_pos rfl] at hX
    rw [if_pos (by decide), if_neg (by decide), v1, if_pos (show w32 (tMod (w32 2) 2) = 0 from tm 2 (by decide) (by decide))] at hY
    exact Cal.q hX hY rfl Eqh.rf v2 h
  · rw [if_neg (by decide), if_neg (by decide), if_neg (by decide), if_pos rfl] at hX
    rw [if_pos (by decide), if_neg (by decide), v1, if_neg (by rw [tm 3 (by decide) (by decide)]; decide)] at hY
    exact Cal.q hX hY rfl Eqh.rf v2 h
  · obtain ⟨x, x1, x2⟩ := md_lean_ok (L := L) (a := 4) (w := 1) h (Or.inl ⟨rfl, rfl⟩)
    rw [if_neg (by decide), if_neg (by decide), if_neg (by decide), if_neg (by decide), if_pos rfl] at hX
    rw [if_neg (by decide), x1] at hY
    exact Cal.q hX hY rfl Eqh.rf x2 h
  · obtain ⟨x, x1, x2⟩ := md_lean_ok (L := L) (a := 5) (w := -1) h (Or.inr ⟨rfl, rfl⟩)
    rw [if_neg (by decide), if_neg (by decide), if_neg (by decide), if_neg (by decide), if_neg (by decide), if_pos rfl] at hX
    rw [if_neg (by decide), x1] at hY
    exact Cal.q hX hY rfl Eqh.rf x2 h
end
