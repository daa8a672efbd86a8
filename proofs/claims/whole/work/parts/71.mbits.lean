/-! a row's bits, as the reference looks at them; joined, season -/
theorem ob_bt {h o k : Nat} (ho : o = 0 ∨ o = 1) : (ob h o k = true) ↔ bt h k = o := by
  unfold ob
  rw [← tb_bt]
  rcases ho with rfl | rfl <;> cases h.testBit k <;> simp
section
variable {L : Nat} {s : hh_Sv}
theorem md_isOf_ok {h k : Nat} {b : Int} (hh : h < 16777216) (hb : b = (k : Int)) (hk : k < 32) : md_isOf L (h : Int) b s = ok L ((bt h k : Nat) : Int) s := by
  rw [md_isOf_eq, bit_at (by omega) hb hk]
/-- how many stand behind m as asked, and how many hits among them -/
def bhm (h o m : Nat) (n : Nat) : Nat := cnt (fun k => decide (m ≤ rl (ob h o) k)) n
def bhh (h o m : Nat) (n : Nat) : Nat := cnt (fun k => decide (m ≤ rl (ob h o) k) && h.testBit k) n
theorem md_behind_ok {h n o m : Nat} (hh : h < 16777216) (hn : n ≤ 24) (ho : o = 0 ∨ o = 1) (hm : m ≤ 5) : ∃ t, md_behind L (h : Int) (n : Int) (o : Int) (m : Int) s = ok L 0 t ∧ (∀ k j, ¬ (k = 242 ∧ (j = 40 ∨ j = 41)) → t k j = s k j) ∧ t 242 40 = (bhm h o m n : Nat) ∧ t 242 41 = (bhh h o m n : Nat) := by
  rw [md_behind_eq]
  have key : ∀ (j i : Nat) (u : hh_Sv), i + j = n → (∀ k j, ¬ (k = 242 ∧ (j = 40 ∨ j = 41)) → u k j = s k j) → u 242 40 = (bhm h o m i : Nat) → u 242 41 = (bhh h o m i : Nat) → ∃ t, md_behind_b1 L (h : Int) (n : Int) (o : Int) (m : Int) ((rl (ob h o) i : Nat) : Int) (i : Int) u = ok L 0 t ∧ (∀ k j, ¬ (k = 242 ∧ (j = 40 ∨ j = 41)) → t k j = s k j) ∧ t 242 40 = (bhm h o m n : Nat) ∧ t 242 41 = (bhh h o m n : Nat) := by
    intro j
    induction j with
    | zero =>
      intro i u e g p1 p2
      rw [Nat.add_zero] at e
      subst e
      refine ⟨u, ?_, g, p1, p2⟩
      rw [md_behind_b1_eq, if_neg (by omega)]
    | succ j ih =>
      intro i u e g p1 p2
      have hr := rl_le (f := ob h o) i
      have hb2 : ∀ v : hh_Sv, md_behind_b2 L (h : Int) (n : Int) (o : Int) (m : Int) ((rl (ob h o) i : Nat) : Int) (i : Int) v = md_behind_b1 L (h : Int) (n : Int) (o : Int) (m : Int) ((rl (ob h o) (i + 1) : Nat) : Int) ((i + 1 : Nat) : Int) v := by
        intro v
        rw [md_behind_b2_eq, md_isOf_ok hh rfl (by omega), ok_bind]
        dsimp only
        have hbt := bt_01 h i
        rw [w32_id (by omega) (by omega), w32_id (by omega) (by omega), rl]
        by_cases e1 : bt h i = o
        · rw [if_pos (by omega), if_pos ((ob_bt ho).mpr e1), md_behind_b4_eq]
          rfl
        · rw [if_neg (by omega), if_neg (fun q => e1 ((ob_bt ho).mp q)), md_behind_b4_eq]
          rfl
      rw [md_behind_b1_eq, if_pos (by rw [w32_id (by omega) (by omega), w32_id (by omega) (by omega)]; omega)]
      have em : bhm h o m (i + 1) = bhm h o m i + (decide (m ≤ rl (ob h o) i)).toNat := rfl
      have eh : bhh h o m (i + 1) = bhh h o m i + (decide (m ≤ rl (ob h o) i) && h.testBit i).toNat := rfl
      by_cases e1 : m ≤ rl (ob h o) i
      · rw [if_neg (by rw [w32_id (by omega) (by omega), w32_id (by omega) (by omega)]; omega), md_isOf_ok hh rfl (by omega), ok_bind]
        dsimp only
        rw [hb2]
        refine ih (i + 1) _ (by omega) (fun k j hk => ?_) ?_ ?_
        · by_cases ek : k = 242
          · subst ek
            rw [up_j (by omega), up_j (by omega)]
            exact g _ _ hk
          · rw [up_k ek, up_k ek]
            exact g _ _ hk
        · rw [up_j (by decide), up_s, p1, em, decide_eq_true e1]
          rfl
        · rw [up_s, p2, eh, decide_eq_true e1, Bool.true_and, tb_bt]
          omega
      · rw [if_pos (by rw [w32_id (by omega) (by omega), w32_id (by omega) (by omega)]; omega), hb2]
        refine ih (i + 1) u (by omega) g ?_ ?_
        · rw [p1, em, decide_eq_false e1]
          rfl
        · rw [p2, eh, decide_eq_false e1]
          rfl
  refine key n 0 (up (up s 242 40 0) 242 41 0) (by omega) (fun k j hk => ?_) ?_ ?_
  · by_cases ek : k = 242
    · subst ek
      rw [up_j (by omega), up_j (by omega)]
    · rw [up_k ek, up_k ek]
  · rw [up_j (by decide), up_s]
    rfl
  · rw [up_s]
    rfl
/-! behind, in the class -/
theorem bhb_pc {h n o m : Nat} (hh : h < 2 ^ n) (hn : n ≤ 24) : pcf 32 (bhb h n o m) = bhm h o m n := pcf_tb (by omega) (bhb_tb hh m)
theorem bhb_and {h n o m : Nat} (hh : h < 2 ^ n) (hn : n ≤ 24) : pcf 32 (bhb h n o m &&& h) = bhh h o m n := pcf_tb (n := n) (by omega) (fun k => by rw [Nat.testBit_and, bhb_tb hh m k, Bool.and_assoc])
theorem row_x (h : Inv s) {r : Nat} (hr : (r : Int) < s 242 3) : ∃ x n : Nat, s 245 r = (x : Int) ∧ s 12 r = (x : Int) ∧ s 244 r = (n : Int) ∧ s 11 r = (n : Int) ∧ n ≤ 24 ∧ x < 2 ^ n ∧ x < 16777216 := by
  obtain ⟨b1, b2, b3, b4, b5, b6, b7, b8, b9⟩ := h.row hr
  obtain ⟨x, x1, x2, x3⟩ := row_h h hr
  have b2 : s 11 r = s 244 r := b2
  refine ⟨x, (s 244 r).toNat, x1, x2, by omega, by omega, by omega, ?_, x3⟩
  have e2 := p2_c (s 244 r).toNat
  omega
theorem co_countBehindIn_ok {r o m : Nat} {w : Int} (h : Inv s) (hr : (r : Int) < s 242 3) (ho : o = 0 ∨ o = 1) (hm : m ≤ 5) (hw : I32 w) : co_countBehindIn L (r : Int) (o : Int) (m : Int) w s = ok L (if w = 0 then ((bhm (s 245 r).toNat o m (s 244 r).toNat : Nat) : Int) else ((bhh (s 245 r).toNat o m (s 244 r).toNat : Nat) : Int)) s := by
  obtain ⟨x, n, x1, x2, n1, n2, n3, n4, n5⟩ := row_x h hr
  have hR := h.R
  have hp := p2_24 n3
  have hb := bhb_lt (h := x) (n := n) (o := o) (m := m)
  have hin : (0 : Int) ≤ (r : Int) ∧ (r : Int) < 60 := by omega
  rw [co_countBehindIn_eq, if_pos hin, if_pos hin, Int.toNat_natCast, x2, n2, hx_behindBits_ok n4 n3 ho hm, ok_bind]
  dsimp only
  rw [hw.w, x1, n1, Int.toNat_natCast, Int.toNat_natCast]
  by_cases e : w = 0
  · rw [if_pos e, if_pos e, co_countBehindIn_b2_eq, jin_bitCount_ok L (by omega), ok_bind, bhb_pc n4 n3]
  · rw [if_neg e, if_neg e, if_pos hin, x2, bAnd_nat (by omega) (by omega), co_countBehindIn_b2_eq, jin_bitCount_ok L (Nat.lt_of_le_of_lt Nat.and_le_left (by omega)), ok_bind, bhb_and n4 n3]
/-- summed over rows -/
def fBm (s : hh_Sv) (t : Int) (o m : Nat) (r : Nat) : Int := if t = -1 ∨ s 243 r = t then ((bhm (s 245 r).toNat o m (s 244 r).toNat : Nat) : Int) else 0
def fBh (s : hh_Sv) (t : Int) (o m : Nat) (r : Nat) : Int := if t = -1 ∨ s 243 r = t then ((bhh (s 245 r).toNat o m (s 244 r).toNat : Nat) : Int) else 0
theorem co_countBehind_ok {t w : Int} {o m : Nat} (h : Inv s) (ht : I32 t) (ho : o = 0 ∨ o = 1) (hm : m ≤ 5) (hw : I32 w) : co_countBehind L t (o : Int) (m : Int) w s = ok L (sg (if w = 0 then fBm s t o m else fBh s t o m) (s 242 3).toNat) s := by
  obtain ⟨n, hn, hn2⟩ := row_n h
  obtain ⟨R1, R2, R3⟩ := h.R
  rw [co_countBehind_eq, hn, Int.toNat_natCast]
  have e0 : w32 (s 9 1) = (n : Int) := by rw [R1, hn, w32_id (by omega) (by omega)]
  refine lp_sum (L := L) (n := n) (f := if w = 0 then fBm s t o m else fBh s t o m) (s := s) (fun z i => co_countBehind_b1 L t (o : Int) (m : Int) w z i s) (fun i z hi hz => ?_) ?_ n 0 (by omega)
  · show co_countBehind_b1 L t (o : Int) (m : Int) w z (i : Int) s = co_countBehind_b1 L t (o : Int) (m : Int) w (z + (if w = 0 then fBm s t o m else fBh s t o m) i) ((i : Int) + 1) s
    rw [co_countBehind_b1_eq, if_pos (show w32 (i : Int) < w32 (s 9 1) by rw [e0, w32_id (by omega) (by omega)]; omega), co_isOf_ok h ht (by omega), ok_bind]
    dsimp only
    by_cases e : t = -1 ∨ s 243 i = t
    · rw [if_neg (show ¬ w32 (zb (t = -1 ∨ s 243 i = t)) = 0 from fun q => zb_w.mp q e), co_countBehindIn_ok h (by omega) ho hm hw, ok_bind]
      dsimp only
      by_cases ew : w = 0
      · rw [if_pos ew, if_pos ew, fBm, if_pos e]
      · rw [if_neg ew, if_neg ew, fBh, if_pos e]
    · rw [if_pos (zb_w.mpr e)]
      by_cases ew : w = 0
      · rw [if_pos ew, fBm, if_neg e, Int.add_zero]
      · rw [if_neg ew, fBh, if_neg e, Int.add_zero]
  · show co_countBehind_b1 L t (o : Int) (m : Int) w _ (n : Int) s = _
    rw [co_countBehind_b1_eq, if_neg (show ¬ w32 (n : Int) < w32 (s 9 1) by rw [e0, w32_id (by omega) (by omega)]; omega)]
/-- only these four of the reference have changed -/
def F4 (s u : hh_Sv) : Prop := ∀ k j, ¬ (k = 242 ∧ (j = 40 ∨ j = 41 ∨ j = 43 ∨ j = 44)) → u k j = s k j
theorem F4.rf : F4 s s := fun _ _ _ => rfl
theorem F4.up {u : hh_Sv} {j : Nat} {v : Int} (h : F4 s u) (hj : j = 40 ∨ j = 41 ∨ j = 43 ∨ j = 44) : F4 s (up u 242 j v) := fun a b hn => by
  by_cases e : a = 242
  · subst e
    rw [up_j (fun q => hn ⟨rfl, by subst q; exact hj⟩)]
    exact h _ _ hn
  · rw [up_k e]
    exact h _ _ hn
theorem F4.q {u : hh_Sv} (h : F4 s u) : Eqh s u := fun k j hn => h k j (by
  rintro ⟨rfl, hj⟩
  exact hn (scr_f (by omega)))
theorem md_joins_ok {t : Int} {a e o m : Nat} (h : Inv s) (ht : I32 t) (ho : o = 0 ∨ o = 1) (hm : m ≤ 5) (hae : a ≤ e) (he : (e : Int) ≤ s 242 3) : ∃ u, md_joins L t (a : Int) ((e : Int) - 1) (o : Int) (m : Int) s = ok L 0 u ∧ F4 s u ∧ u 242 43 = sg (fBh s t o m) e - sg (fBh s t o m) a ∧ u 242 44 = sg (fBm s t o m) e - sg (fBm s t o m) a := by
  have hR := h.R
  rw [md_joins_eq]
  have key : ∀ (j i : Nat) (u : hh_Sv), i + j = e → F4 s u → u 242 43 = sg (fBh s t o m) i - sg (fBh s t o m) a → u 242 44 = sg (fBm s t o m) i - sg (fBm s t o m) a → ∃ v, md_joins_b1 L t ((e : Int) - 1) (o : Int) (m : Int) (i : Int) u = ok L 0 v ∧ F4 s v ∧ v 242 43 = sg (fBh s t o m) e - sg (fBh s t o m) a ∧ v 242 44 = sg (fBm s t o m) e - sg (fBm s t o m) a := by
    intro j
    induction j with
    | zero =>
      intro i u e1 g p1 p2
      rw [Nat.add_zero] at e1
      subst e1
      refine ⟨u, ?_, g, p1, p2⟩
      rw [md_joins_b1_eq, if_pos (by rw [w32_id (by omega) (by omega), w32_id (by omega) (by omega)]; omega)]
    | succ j ih =>
      intro i u e1 g p1 p2
      have hin : (0 : Int) ≤ (i : Int) ∧ (i : Int) < 60 := by omega
      obtain ⟨x, n, x1, x2, n1, n2, n3, n4, n5⟩ := row_x h (r := i) (by omega)
      have hrow := h.row (r := i) (by omega)
      have e243 : u 243 i = s 243 i := g _ _ (by omega)
      have e244 : u 244 i = s 244 i := g _ _ (by omega)
      have e245 : u 245 i = s 245 i := g _ _ (by omega)
      have b2 : t = -1 ∨ s 243 i = t → ∃ v, md_joins_b2 L t ((e : Int) - 1) (o : Int) (m : Int) (i : Int) u = ok L 0 v ∧ F4 s v ∧ v 242 43 = sg (fBh s t o m) e - sg (fBh s t o m) a ∧ v 242 44 = sg (fBm s t o m) e - sg (fBm s t o m) a := by
        intro ef
        obtain ⟨v, v1, v2, v3, v4⟩ := md_behind_ok (L := L) (s := u) (h := x) (n := n) (o := o) (m := m) n5 n3 ho hm
        rw [md_joins_b2_eq, if_pos hin, if_pos hin, Int.toNat_natCast, e245, e244, x1, n1, v1, ok_bind]
        dsimp only
        have gv : F4 s v := fun k j hk => (v2 k j (by omega)).trans (g k j hk)
        refine ih (i + 1) _ (by omega) ((gv.up (Or.inr (Or.inr (Or.inl rfl)))).up (Or.inr (Or.inr (Or.inr rfl)))) ?_ ?_
        · rw [up_j (by decide), up_s, v4, v2 _ _ (by omega), p1, sg, fBh, if_pos ef, x1, n1, Int.toNat_natCast, Int.toNat_natCast]
          omega
        · rw [up_s, v3, v2 _ _ (by omega), p2, sg, fBm, if_pos ef, x1, n1, Int.toNat_natCast, Int.toNat_natCast]
          omega
      rw [md_joins_b1_eq, if_neg (by rw [w32_id (by omega) (by omega), w32_id (by omega) (by omega)]; omega), ht.w]
      by_cases et : t = -1
      · rw [if_pos et]
        exact b2 (Or.inl et)
      · rw [if_neg et, if_pos hin, Int.toNat_natCast]
        by_cases eo : s 243 i = t
        · rw [if_pos (by rw [e243, eo, ht.w])]
          exact b2 (Or.inr eo)
        · rw [if_neg (by rw [e243, w32_id (by have := hrow.2.2.2.1; omega) (by have := hrow.2.2.2.1; omega)]; exact eo)]
          refine ih (i + 1) u (by omega) g ?_ ?_
          · rw [p1, sg, fBh, if_neg (by omega), Int.add_zero]
          · rw [p2, sg, fBm, if_neg (by omega), Int.add_zero]
  refine key (e - a) a _ (by omega) ((F4.rf.up (Or.inr (Or.inr (Or.inl rfl)))).up (Or.inr (Or.inr (Or.inr rfl)))) ?_ ?_
  · rw [up_j (by decide), up_s]
    omega
  · rw [up_s]
    omega
theorem md_one_ok {o : Nat} (ho : o = 0 ∨ o = 1) : md_one L (o : Int) s = ok L (o : Int) s := by
  rw [md_one_eq, w32_id (by omega) (by omega)]
  rcases ho with rfl | rfl
  · rfl
  · rfl
theorem c_joined {a1 a3 a4 : Int} {o : Nat} (h1 : I32 a1) (ho : o = 0 ∨ o = 1) (h3 : I32 a3) (h4 : I32 a4) (h : Inv s) : Cal L s (hx_joined L a1 (o : Int) a3 a4) (md_joined L a1 (o : Int) a3 a4) w32 := by
  obtain ⟨T1, T2, T3⟩ := h.T
  have hX := hx_joined_eq L a1 (o : Int) a3 a4 s
  have hY := md_joined_eq L a1 (o : Int) a3 a4 s
  rw [tst (co_hasThrower_ok h1 (by omega))] at hX
  rw [tst (md_isThrower_ok h1 (by omega))] at hY
  by_cases e1 : 0 ≤ a1 ∧ a1 < s 242 2
  case neg => exact Cal.pure (hX.trans (if_neg (by omega))) (hY.trans (if_neg e1)) rfl h
  rw [if_pos (by omega)] at hX
  rw [if_pos e1] at hY
  dsimp only at hX hY
  rw [tst (hx_isIn_ok h3 i_lit i_lit)] at hX
  rw [tst (md_isIn_ok h3 i_lit i_lit)] at hY
  by_cases e3 : 1 ≤ a3 ∧ a3 ≤ 5
  case neg => exact Cal.pure (hX.trans (if_neg e3)) (hY.trans (if_neg e3)) rfl h
  rw [if_pos e3] at hX hY
  dsimp only at hX hY
  rw [tst (hx_isIn_ok h4 i_lit i_lit)] at hX
  rw [tst (md_isIn_ok h4 i_lit i_lit)] at hY
  by_cases e4 : 0 ≤ a4 ∧ a4 ≤ 1
  case neg => exact Cal.pure (hX.trans (if_neg e4)) (hY.trans (if_neg e4)) rfl h
  rw [if_pos e4] at hX hY
  dsimp only at hX hY
  obtain ⟨m, rfl⟩ := Int.eq_ofNat_of_zero_le (show 0 ≤ a3 by omega)
  obtain ⟨n, hn, hn2⟩ := row_n h
  obtain ⟨u, u1, u2, u3, u4⟩ := md_joins_ok (L := L) (a := 0) (e := n) h h1 ho (by omega) (Nat.zero_le _) (by omega) (m := m)
  rw [md_one_ok ho, ok_bind] at hY
  dsimp only at hY
  rw [hn] at hY
  have u1 : md_joins L a1 0 ((n : Int) - 1) (o : Int) (m : Int) s = ok L 0 u := u1
  rw [u1, ok_bind] at hY
  dsimp only at hY
  rw [h4.w] at hX hY
  have z0 : ∀ f : Nat → Int, sg f 0 = 0 := fun _ => rfl
  rw [z0, Int.sub_zero] at u3 u4
  have hb4 : ∀ k : Int, I32 k → hx_joined_b4 L a1 (o : Int) (m : Int) k s = ok L (sg (if k = 0 then fBm s a1 o m else fBh s a1 o m) n) s := fun k hk => by
    rw [hx_joined_b4_eq, co_countBehind_ok h h1 ho (by omega) hk, ok_bind, hn, Int.toNat_natCast]
  by_cases ew : a4 = 0
  · rw [if_pos ew, hb4 1 i_lit, if_neg (by decide)] at hX
    rw [if_pos ew, u3] at hY
    exact Cal.q hX hY rfl Eqh.rf u2.q h
  · rw [if_neg ew, hb4 0 i_lit, if_pos rfl] at hX
    rw [if_neg ew, u4] at hY
    exact Cal.q hX hY rfl Eqh.rf u2.q h
theorem c_season {a1 a2 a4 a5 : Int} {o : Nat} (h1 : I32 a1) (h2 : I32 a2) (ho : o = 0 ∨ o = 1) (h4 : I32 a4) (h5 : I32 a5) (h : Inv s) : Cal L s (hx_season L a1 a2 (o : Int) a4 a5) (md_season L a1 a2 (o : Int) a4 a5) w32 := by
  obtain ⟨R1, R2, R3⟩ := h.R
  have hX := hx_season_eq L a1 a2 (o : Int) a4 a5 s
  have hY := md_season_eq L a1 a2 (o : Int) a4 a5 s
  rw [tst (co_hasRow_ok h1 (by omega))] at hX
  rw [tst (md_isRow_ok h1 (by omega))] at hY
  by_cases e1 : 0 ≤ a1 ∧ a1 < s 242 3
  case neg => exact Cal.pure (hX.trans (if_neg (by omega))) (hY.trans (if_neg e1)) rfl h
  rw [if_pos (by omega)] at hX
  rw [if_pos e1] at hY
  dsimp only at hX hY
  rw [tst (co_hasRow_ok h2 (by omega))] at hX
  rw [tst (md_isRow_ok h2 (by omega))] at hY
  by_cases e2 : 0 ≤ a2 ∧ a2 < s 242 3
  case neg => exact Cal.pure (hX.trans (if_neg (by omega))) (hY.trans (if_neg e2)) rfl h
  rw [if_pos (by omega)] at hX
  rw [if_pos e2] at hY
  dsimp only at hX hY
  rw [h1.w, h2.w] at hX hY
  by_cases e12 : a2 < a1
  · exact Cal.pure (hX.trans (if_pos e12)) (hY.trans (if_pos e12)) rfl h
  rw [if_neg e12] at hX hY
  rw [tst (hx_isIn_ok h4 i_lit i_lit)] at hX
  rw [tst (md_isIn_ok h4 i_lit i_lit)] at hY
  by_cases e4 : 1 ≤ a4 ∧ a4 ≤ 5
  case neg => exact Cal.pure (hX.trans (if_neg e4)) (hY.trans (if_neg e4)) rfl h
  rw [if_pos e4] at hX hY
  dsimp only at hX hY
  rw [tst (hx_isIn_ok h5 i_lit i_lit)] at hX
  rw [tst (md_isIn_ok h5 i_lit i_lit)] at hY
  by_cases e5 : 0 ≤ a5 ∧ a5 ≤ 1
  case neg => exact Cal.pure (hX.trans (if_neg e5)) (hY.trans (if_neg e5)) rfl h
  rw [if_pos e5] at hX hY
  dsimp only at hX hY
  obtain ⟨m, rfl⟩ := Int.eq_ofNat_of_zero_le (show 0 ≤ a4 by omega)
  obtain ⟨a, rfl⟩ := Int.eq_ofNat_of_zero_le e1.1
  obtain ⟨b, rfl⟩ := Int.eq_ofNat_of_zero_le e2.1
  obtain ⟨u, u1, u2, u3, u4⟩ := md_joins_ok (L := L) (t := -1) (a := a) (e := b + 1) h i_lit ho (by omega) (by omega) (by omega) (m := m)
  rw [show ((b + 1 : Nat) : Int) - 1 = (b : Int) by omega] at u1
  rw [md_one_ok ho, ok_bind] at hY
  dsimp only at hY
  rw [u1, ok_bind] at hY
  dsimp only at hY
  rw [h5.w] at hY
  have key : ∀ (f : Nat → Int), (∀ r : Nat, (r : Int) < s 242 3 → co_countBehindIn L (r : Int) (o : Int) (m : Int) (if a5 = 0 then 1 else 0) s = ok L (f r) s) → ∀ (j i : Nat), i + j = b + 1 → hx_season_b3 L (b : Int) (o : Int) (m : Int) a5 (sg f i - sg f a) (i : Int) s = ok L (sg f (b + 1) - sg f a) s := by
    intro f hf j
    induction j with
    | zero =>
      intro i e
      rw [Nat.add_zero] at e
      subst e
      rw [hx_season_b3_eq, if_pos (by rw [w32_id (by omega) (by omega), w32_id (by omega) (by omega)]; omega)]
    | succ j ih =>
      intro i e
      rw [hx_season_b3_eq, if_neg (by rw [w32_id (by omega) (by omega), w32_id (by omega) (by omega)]; omega), h5.w]
      have hn := ih (i + 1) (by omega)
      rw [sg, show sg f i + f i - sg f a = sg f i - sg f a + f i by omega] at hn
      have h6 := hf i (by omega)
      by_cases ew : a5 = 0
      · rw [if_pos ew] at h6 ⊢
        rw [hx_season_b5_eq, h6, ok_bind]
        exact hn
      · rw [if_neg ew] at h6 ⊢
        rw [hx_season_b5_eq, h6, ok_bind]
        exact hn
  by_cases ew : a5 = 0
  · have k2 := key (fBh s (-1) o m) (fun r hr => by
      rw [if_pos ew, co_countBehindIn_ok h hr ho (by omega) i_lit, if_neg (by decide), fBh, if_pos (Or.inl rfl)]) (b + 1 - a) a (by omega)
    rw [Int.sub_self] at k2
    rw [k2] at hX
    rw [if_pos ew, u3] at hY
    exact Cal.q hX hY rfl Eqh.rf u2.q h
  · have k2 := key (fBm s (-1) o m) (fun r hr => by
      rw [if_neg ew, co_countBehindIn_ok h hr ho (by omega) i_lit, if_pos rfl, fBm, if_pos (Or.inl rfl)]) (b + 1 - a) a (by omega)
    rw [Int.sub_self] at k2
    rw [k2] at hX
    rw [if_neg ew, u4] at hY
    exact Cal.q hX hY rfl Eqh.rf u2.q h
end
