/-! power, need, strong -/
section
variable {L : Nat} {s : hh_Sv}
theorem e36 {v : hh_Sv} (h : ∀ k j, k ≠ 36 → k ≠ 37 → v k j = s k j) : Eqh s v := fun k j hn => h k j (fun q => hn ⟨by unfold scr; omega, by omega, by omega⟩) (fun q => hn ⟨by unfold scr; omega, by omega, by omega⟩)
theorem e273 {v : hh_Sv} (h : ∀ k j, ¬ (273 ≤ k ∧ k ≤ 276) → v k j = s k j) : Eqh s v := fun k j hn => h k j (fun q => hn ⟨by unfold scr; omega, by omega, by omega⟩)
theorem lnO_le {p w : Int} {n : Nat} : lnO p w n ≤ n := by
  have := (fs_le (f := isL p w n) n 0).2
  unfold lnO
  omega
/-- seen, in both -/
noncomputable def seen (p e w v : Int) (n : Nat) : Int := if w32 (lCmp (tl p e n (lnO p w n) * 100) (w32 v * 10 ^ n)) < 0 then 0 else 1
theorem tr_isSeen_ok {n : Nat} {p e w v : Int} (hK : iv_K s) (hn : 1 ≤ n ∧ n ≤ 12) (hp : 0 ≤ p ∧ p ≤ 10) (he : 0 ≤ e ∧ e ≤ 10) : ∃ u, tr_isSeen L (n : Int) p e w v s = ok L (seen p e w v n) u ∧ Eqh s u := by
  obtain ⟨x, x1, x2⟩ := tr_lineAt_ok (L := L) (w := w) hK hn hp
  obtain ⟨y, y1, y2⟩ := tr_atLeast_ok (L := L) (s := x) (c := lnO p w n) hn hp he lnO_le
  refine ⟨y, ?_, (e36 x2).tr (e36 y2)⟩
  have e10 : y 2 n = 10 ^ n := by rw [y2 _ _ (by decide) (by decide), x2 _ _ (by decide) (by decide), hK.1 n (by omega)]; rfl
  rw [tr_isSeen_eq, x1, ok_bind]
  dsimp only
  rw [y1, ok_bind, if_pos (by omega)]
  dsimp only
  rw [Int.toNat_natCast]
  unfold seen
  by_cases q : w32 (lCmp (tl p e n (lnO p w n) * 100) (w32 v * 10 ^ n)) < 0
  · rw [if_pos (by rw [e10]; exact q), if_pos q]
  · rw [if_neg (by rw [e10]; exact q), if_neg q]
theorem md_powerOf_ok {n : Nat} {p e w : Int} (hn : 1 ≤ n ∧ n ≤ 12) (hp : 0 ≤ p ∧ p ≤ 10) (he : 0 ≤ e ∧ e ≤ 10) : ∃ u, md_powerOf L (n : Int) p e w s = ok L (tl p e n (lnO p w n)) u ∧ Eqh s u := by
  obtain ⟨x, x1, x2⟩ := md_lineOf_ok (L := L) (s := s) (w := w) hn hp
  obtain ⟨y, y1, y2⟩ := md_tries_ok (L := L) (s := x) hn hp he
  refine ⟨y, ?_, (e273 x2).tr (e273 y2.1)⟩
  rw [md_powerOf_eq, x1, ok_bind]
  dsimp only
  rw [y1, ok_bind]
  dsimp only
  rw [md_tail_ok y2 (by have := lnO_le (p := p) (w := w) (n := n); omega), ok_bind]
theorem md_isStrong_ok {n : Nat} {p e w v : Int} (hn : 1 ≤ n ∧ n ≤ 12) (hp : 0 ≤ p ∧ p ≤ 10) (he : 0 ≤ e ∧ e ≤ 10) : ∃ u, md_isStrong L (n : Int) p e w v s = ok L (seen p e w v n) u ∧ Eqh s u := by
  obtain ⟨x, x1, x2⟩ := md_powerOf_ok (L := L) (s := s) (w := w) hn hp he
  refine ⟨x, ?_, x2⟩
  rw [md_isStrong_eq, x1, ok_bind]
  dsimp only
  rw [md_power_ok (by decide) (by omega), ok_bind]
  dsimp only
  unfold seen
  split <;> rfl
theorem hx_isTrial_ok {a b c : Int} (ha : I32 a) (hb : I32 b) (hc : I32 c) : hx_isTrial L a b c s = ok L (zb ((2 ≤ a ∧ a ≤ 12) ∧ (1 ≤ b ∧ b ≤ 9) ∧ (1 ≤ c ∧ c ≤ 99))) s := by
  rw [hx_isTrial_eq, tst (hx_isIn_ok ha i_lit i_lit)]
  dsimp only
  rw [tst (hx_isIn_ok hb i_lit i_lit)]
  dsimp only
  rw [tst (hx_isIn_ok hc i_lit i_lit)]
  dsimp only
  rw [hx_isTrial_b1_eq]
  by_cases q1 : 2 ≤ a ∧ a ≤ 12
  · by_cases q2 : 1 ≤ b ∧ b ≤ 9
    · by_cases q3 : 1 ≤ c ∧ c ≤ 99
      · rw [if_pos q1, if_pos q2, if_pos q3, zb_1 ⟨q1, q2, q3⟩]
      · rw [if_pos q1, if_pos q2, if_neg q3, zb_0 (fun z => q3 z.2.2)]
    · rw [if_pos q1, if_neg q2, zb_0 (fun z => q2 z.2.1)]
  · rw [if_neg q1, zb_0 (fun z => q1 z.1)]
theorem md_isTrial_ok {a b c : Int} (ha : I32 a) (hb : I32 b) (hc : I32 c) : md_isTrial L a b c s = ok L (zb ((2 ≤ a ∧ a ≤ 12) ∧ (1 ≤ b ∧ b ≤ 9) ∧ (1 ≤ c ∧ c ≤ 99))) s := by
  rw [md_isTrial_eq, tst (md_isIn_ok ha i_lit i_lit)]
  dsimp only
  rw [tst (md_isIn_ok hb i_lit i_lit)]
  dsimp only
  rw [tst (md_isIn_ok hc i_lit i_lit)]
  dsimp only
  rw [md_isTrial_b1_eq]
  by_cases q1 : 2 ≤ a ∧ a ≤ 12
  · by_cases q2 : 1 ≤ b ∧ b ≤ 9
    · by_cases q3 : 1 ≤ c ∧ c ≤ 99
      · rw [if_pos q1, if_pos q2, if_pos q3, zb_1 ⟨q1, q2, q3⟩]
      · rw [if_pos q1, if_pos q2, if_neg q3, zb_0 (fun z => q3 z.2.2)]
    · rw [if_pos q1, if_neg q2, zb_0 (fun z => q2 z.2.1)]
  · rw [if_neg q1, zb_0 (fun z => q1 z.1)]
theorem Inv.K (h : Inv s) : iv_K s := h.1.1
theorem seen_w {p e w v : Int} {n : Nat} : w32 (seen p e w v n) = 0 ↔ seen p e w v n = 0 := by
  unfold seen
  split
  · rw [w32_0]
  · rw [w32_1]
theorem c_need {a1 a2 a3 a4 : Int} (h1 : I32 a1) (h2 : I32 a2) (h3 : I32 a3) (h4 : I32 a4) (h : Inv s) : Cal L s (hx_need L a1 a2 a3 a4) (md_need L a1 a2 a3 a4) w32 := by
  have hX := hx_need_eq L a1 a2 a3 a4 s
  have hY := fun t => md_need_eq L a1 a2 a3 a4 t
  rw [tst (hx_isTrial_ok i_lit h1 h3)] at hX
  dsimp only at hX
  rw [tst (hx_isIn_ok h2 i_lit i_lit)] at hX
  dsimp only at hX
  rw [tst (hx_isIn_ok h4 i_lit i_lit)] at hX
  dsimp only at hX
  have hY : ∀ t, md_need L a1 a2 a3 a4 t = if (2 ≤ (2 : Int) ∧ (2 : Int) ≤ 12) ∧ (1 ≤ a1 ∧ a1 ≤ 9) ∧ (1 ≤ a3 ∧ a3 ≤ 99) then (if 0 ≤ a2 ∧ a2 ≤ 9 then (if 0 ≤ a4 ∧ a4 ≤ 100 then md_need_b3 L a1 a2 a3 a4 2 t else ok L (-1) t) else ok L (-1) t) else ok L (-1) t := fun t => by
    rw [hY, tst (md_isTrial_ok i_lit h1 h3)]
    dsimp only
    rw [tst (md_isIn_ok h2 i_lit i_lit)]
    dsimp only
    rw [tst (md_isIn_ok h4 i_lit i_lit)]
  by_cases q1 : (2 ≤ (2 : Int) ∧ (2 : Int) ≤ 12) ∧ (1 ≤ a1 ∧ a1 ≤ 9) ∧ (1 ≤ a3 ∧ a3 ≤ 99)
  case neg => exact Cal.pure (hX.trans (if_neg q1)) ((hY s).trans (if_neg q1)) rfl h
  by_cases q2 : 0 ≤ a2 ∧ a2 ≤ 9
  case neg => exact Cal.pure (hX.trans (by rw [if_pos q1, if_neg q2])) ((hY s).trans (by rw [if_pos q1, if_neg q2])) rfl h
  by_cases q3 : 0 ≤ a4 ∧ a4 ≤ 100
  case neg => exact Cal.pure (hX.trans (by rw [if_pos q1, if_pos q2, if_neg q3])) ((hY s).trans (by rw [if_pos q1, if_pos q2, if_neg q3])) rfl h
  rw [if_pos q1, if_pos q2, if_pos q3] at hX
  have hY : ∀ t, md_need L a1 a2 a3 a4 t = md_need_b3 L a1 a2 a3 a4 2 t := fun t => by rw [hY, if_pos q1, if_pos q2, if_pos q3]
  have kX : ∀ (j i : Nat) (t : hh_Sv), 1 ≤ i → i + j = 13 → Inv t → ∃ v u, hx_need_b3 L a1 a2 a3 a4 (i : Int) t = ok L v u ∧ Eqh t u ∧ ∀ t', ∃ u', md_need_b3 L a1 a2 a3 a4 (i : Int) t' = ok L v u' ∧ Eqh t' u' := by
    intro j
    induction j with
    | zero =>
      intro i t hi e hI
      refine ⟨-1, t, ?_, Eqh.rf, fun t' => ⟨t', ?_, Eqh.rf⟩⟩
      · rw [hx_need_b3_eq, if_pos (by rw [w32_id (by omega) (by omega)]; omega)]
      · rw [md_need_b3_eq, if_pos (by rw [w32_id (by omega) (by omega)]; omega)]
    | succ j ih =>
      intro i t hi e hI
      obtain ⟨x, x1, x2⟩ := tr_isSeen_ok (L := L) (n := i) (p := a1) (e := a2) (w := a3) (v := a4) hI.K (by omega) (by omega) (by omega)
      obtain ⟨v, u, u1, u2, u3⟩ := ih (i + 1) x (by omega) (by omega) (x2.I hI)
      by_cases c : seen a1 a2 a3 a4 i = 0
      · refine ⟨v, u, ?_, x2.tr u2, fun t' => ?_⟩
        · rw [hx_need_b3_eq, if_neg (by rw [w32_id (by omega) (by omega)]; omega), x1, ok_bind, if_pos (seen_w.mpr c)]
          exact u1
        · obtain ⟨y, y1, y2⟩ := md_isStrong_ok (L := L) (s := t') (n := i) (p := a1) (e := a2) (w := a3) (v := a4) (by omega) (by omega) (by omega)
          obtain ⟨u', w1, w2⟩ := u3 y
          refine ⟨u', ?_, y2.tr w2⟩
          rw [md_need_b3_eq, if_neg (by rw [w32_id (by omega) (by omega)]; omega), y1, ok_bind, if_pos (seen_w.mpr c)]
          exact w1
      · refine ⟨(i : Int), x, ?_, x2, fun t' => ?_⟩
        · rw [hx_need_b3_eq, if_neg (by rw [w32_id (by omega) (by omega)]; omega), x1, ok_bind, if_neg (fun z => c (seen_w.mp z))]
        · obtain ⟨y, y1, y2⟩ := md_isStrong_ok (L := L) (s := t') (n := i) (p := a1) (e := a2) (w := a3) (v := a4) (by omega) (by omega) (by omega)
          refine ⟨y, ?_, y2⟩
          rw [md_need_b3_eq, if_neg (by rw [w32_id (by omega) (by omega)]; omega), y1, ok_bind, if_neg (fun z => c (seen_w.mp z))]
  obtain ⟨v, u, u1, u2, u3⟩ := kX 11 2 s (by decide) (by decide) h
  obtain ⟨u', w1, w2⟩ := u3 u
  exact Cal.q (hX.trans u1) ((hY u).trans w1) rfl u2 w2 h
theorem c_strong {a1 a2 a3 a4 : Int} (h1 : I32 a1) (h2 : I32 a2) (h3 : I32 a3) (h4 : I32 a4) (h : Inv s) : Cal L s (hx_strong L a1 a2 a3 a4) (md_strong L a1 a2 a3 a4) w32 := by
  have hX := hx_strong_eq L a1 a2 a3 a4 s
  rw [tst (hx_isTrial_ok h1 h2 h3)] at hX
  dsimp only at hX
  rw [tst (hx_isIn_ok h4 i_lit i_lit)] at hX
  dsimp only at hX
  have hY : ∀ t, md_strong L a1 a2 a3 a4 t = if (2 ≤ a1 ∧ a1 ≤ 12) ∧ (1 ≤ a2 ∧ a2 ≤ 9) ∧ (1 ≤ a3 ∧ a3 ≤ 99) then (if 0 ≤ a4 ∧ a4 ≤ 100 then md_strong_b3 L a1 a2 a3 a4 1 t else ok L (-1) t) else ok L (-1) t := fun t => by
    rw [md_strong_eq, tst (md_isTrial_ok h1 h2 h3)]
    dsimp only
    rw [tst (md_isIn_ok h4 i_lit i_lit)]
  by_cases q1 : (2 ≤ a1 ∧ a1 ≤ 12) ∧ (1 ≤ a2 ∧ a2 ≤ 9) ∧ (1 ≤ a3 ∧ a3 ≤ 99)
  case neg => exact Cal.pure (hX.trans (if_neg q1)) ((hY s).trans (if_neg q1)) rfl h
  by_cases q3 : 0 ≤ a4 ∧ a4 ≤ 100
  case neg => exact Cal.pure (hX.trans (by rw [if_pos q1, if_neg q3])) ((hY s).trans (by rw [if_pos q1, if_neg q3])) rfl h
  rw [if_pos q1, if_pos q3] at hX
  have hY : ∀ t, md_strong L a1 a2 a3 a4 t = md_strong_b3 L a1 a2 a3 a4 1 t := fun t => by rw [hY, if_pos q1, if_pos q3]
  obtain ⟨n, rfl⟩ := Int.eq_ofNat_of_zero_le (show 0 ≤ a1 by omega)
  have kX : ∀ (j i : Nat) (t : hh_Sv), 1 ≤ i → i + j = 10 → Inv t → ∃ v u, hx_strong_b3 L (n : Int) a2 a3 a4 (i : Int) t = ok L v u ∧ Eqh t u ∧ ∀ t', ∃ u', md_strong_b3 L (n : Int) a2 a3 a4 (i : Int) t' = ok L v u' ∧ Eqh t' u' := by
    intro j
    induction j with
    | zero =>
      intro i t hi e hI
      refine ⟨-1, t, ?_, Eqh.rf, fun t' => ⟨t', ?_, Eqh.rf⟩⟩
      · rw [hx_strong_b3_eq, if_pos (by rw [w32_id (by omega) (by omega)]; omega)]
      · rw [md_strong_b3_eq, if_neg (by rw [w32_id (by omega) (by omega)]; omega)]
    | succ j ih =>
      intro i t hi e hI
      obtain ⟨x, x1, x2⟩ := tr_isSeen_ok (L := L) (n := n) (p := a2) (e := (i : Int)) (w := a3) (v := a4) hI.K (by omega) (by omega) (by omega)
      obtain ⟨v, u, u1, u2, u3⟩ := ih (i + 1) x (by omega) (by omega) (x2.I hI)
      by_cases c : seen a2 (i : Int) a3 a4 n = 0
      · refine ⟨v, u, ?_, x2.tr u2, fun t' => ?_⟩
        · rw [hx_strong_b3_eq, if_neg (by rw [w32_id (by omega) (by omega)]; omega), x1, ok_bind, if_pos (seen_w.mpr c)]
          exact u1
        · obtain ⟨y, y1, y2⟩ := md_isStrong_ok (L := L) (s := t') (n := n) (p := a2) (e := (i : Int)) (w := a3) (v := a4) (by omega) (by omega) (by omega)
          obtain ⟨u', w1, w2⟩ := u3 y
          refine ⟨u', ?_, y2.tr w2⟩
          rw [md_strong_b3_eq, if_pos (by rw [w32_id (by omega) (by omega)]; omega), y1, ok_bind, if_pos (seen_w.mpr c)]
          exact w1
      · refine ⟨(i : Int), x, ?_, x2, fun t' => ?_⟩
        · rw [hx_strong_b3_eq, if_neg (by rw [w32_id (by omega) (by omega)]; omega), x1, ok_bind, if_neg (fun z => c (seen_w.mp z))]
        · obtain ⟨y, y1, y2⟩ := md_isStrong_ok (L := L) (s := t') (n := n) (p := a2) (e := (i : Int)) (w := a3) (v := a4) (by omega) (by omega) (by omega)
          refine ⟨y, ?_, y2⟩
          rw [md_strong_b3_eq, if_pos (by rw [w32_id (by omega) (by omega)]; omega), y1, ok_bind, if_neg (fun z => c (seen_w.mp z))]
  obtain ⟨v, u, u1, u2, u3⟩ := kX 9 1 s (by decide) (by decide) h
  obtain ⟨u', w1, w2⟩ := u3 u
  exact Cal.q (hX.trans u1) ((hY u).trans w1) rfl u2 w2 h
theorem tl_bd {p e : Int} {n c : Nat} (hn : 1 ≤ n ∧ n ≤ 12) (hp : 0 ≤ p ∧ p ≤ 10) (he : 0 ≤ e ∧ e ≤ 10) (hc : c ≤ 13) : 0 ≤ tl p e n c ∧ tl p e n c ≤ 10 ^ n ∧ (0 : Int) < 10 ^ n ∧ (10 : Int) ^ n ≤ 1000000000000 := by
  have hu : 0 ≤ upO p e ∧ upO p e ≤ 10 := by unfold upO; split <;> omega
  have hd : 0 ≤ dnO p e ∧ dnO p e ≤ 10 := by unfold dnO; split <;> omega
  have nn : ∀ k, 0 ≤ fT p e n k := fun k => by
    have := dp_nn hp hu hd (n - 1) k
    unfold fT
    omega
  have h1 := sg_mono (f := fT p e n) hc (fun k _ => nn k)
  have h2 := sg_nn (f := fT p e n) (n := c) (fun k _ => nn k)
  have h3 : sg (fT p e n) 13 = 10 ^ n := by
    have := dp_sum (p := p) (u := upO p e) (d := dnO p e) (n - 1) 13 (by omega)
    rw [show n - 1 + 1 = n by omega] at this
    exact this
  have h4 : 10 ^ n ≤ 10 ^ 12 := Nat.pow_le_pow_right (by decide) hn.2
  have h5 : ((10 ^ n : Nat) : Int) = 10 ^ n := by rw [Int.natCast_pow]; rfl
  unfold tl
  refine ⟨by omega, by omega, Int.pow_pos (by decide), by omega⟩
theorem c_power {a1 a2 a3 a4 a5 : Int} (h1 : I32 a1) (h2 : I32 a2) (h3 : I32 a3) (h4 : I32 a4) (h5 : I32 a5) (h : Inv s) : Cal L s (hx_power L a1 a2 a3 a4 a5) (md_power_ L a1 a2 a3 a4 a5) w64 := by
  have hX := hx_power_eq L a1 a2 a3 a4 a5 s
  rw [tst (hx_isTrial_ok h1 h2 h4)] at hX
  dsimp only at hX
  rw [tst (hx_isIn_ok h3 i_lit i_lit)] at hX
  dsimp only at hX
  rw [tst (hx_isIn_ok h5 i_lit i_lit)] at hX
  dsimp only at hX
  have hY := fun t => md_power__eq L a1 a2 a3 a4 a5 t
  by_cases q1 : (2 ≤ a1 ∧ a1 ≤ 12) ∧ (1 ≤ a2 ∧ a2 ≤ 9) ∧ (1 ≤ a4 ∧ a4 ≤ 99)
  case neg => exact Cal.pure (hX.trans (if_neg q1)) (by rw [hY, tst (md_isTrial_ok h1 h2 h4), if_neg q1]) rfl h
  by_cases q2 : 0 ≤ a3 ∧ a3 ≤ 9
  case neg => exact Cal.pure (hX.trans (by rw [if_pos q1, if_neg q2])) (by rw [hY, tst (md_isTrial_ok h1 h2 h4), if_pos q1]; dsimp only; rw [tst (md_isIn_ok h3 i_lit i_lit), if_neg q2]) rfl h
  by_cases q3 : 0 ≤ a5 ∧ a5 ≤ 2
  case neg => exact Cal.pure (hX.trans (by rw [if_pos q1, if_pos q2, if_neg q3])) (by rw [hY, tst (md_isTrial_ok h1 h2 h4), if_pos q1]; dsimp only; rw [tst (md_isIn_ok h3 i_lit i_lit), if_pos q2]; dsimp only; rw [tst (md_isIn_ok h5 i_lit i_lit), if_neg q3]) rfl h
  obtain ⟨n, rfl⟩ := Int.eq_ofNat_of_zero_le (show 0 ≤ a1 by omega)
  obtain ⟨x, x1, x2⟩ := tr_lineAt_ok (L := L) (n := n) (p := a2) (w := a4) h.K (by omega) (by omega)
  rw [if_pos q1, if_pos q2, if_pos q3, x1, ok_bind, h5.w] at hX
  dsimp only at hX
  by_cases q4 : a5 = 0
  · rw [if_pos q4] at hX
    obtain ⟨y, y1, y2⟩ := md_lineOf_ok (L := L) (s := x) (n := n) (p := a2) (w := a4) (by omega) (by omega)
    refine Cal.q hX (s2 := y) (v2 := w32 (lnO a2 a4 n : Nat)) ?_ rfl (e36 x2) (e273 y2) h
    rw [hY, tst (md_isTrial_ok h1 h2 h4), if_pos q1]
    dsimp only
    rw [tst (md_isIn_ok h3 i_lit i_lit), if_pos q2]
    dsimp only
    rw [tst (md_isIn_ok h5 i_lit i_lit), if_pos q3, h5.w, if_pos q4, y1, ok_bind]
  · have hb := tl_bd (p := a2) (e := a3) (n := n) (c := lnO a2 a4 n) (by omega) (by omega) (by omega) (by have := lnO_le (p := a2) (w := a4) (n := n); omega)
    obtain ⟨z, z1, z2⟩ := tr_atLeast_ok (L := L) (s := x) (n := n) (p := a2) (e := a3) (c := lnO a2 a4 n) (by omega) (by omega) (by omega) lnO_le
    have e10 : z 2 n = 10 ^ n := by rw [z2 _ _ (by decide) (by decide), x2 _ _ (by decide) (by decide), h.K.1 n (by omega)]; rfl
    rw [if_neg q4, z1, ok_bind, if_pos (by omega)] at hX
    dsimp only at hX
    rw [Int.toNat_natCast, e10, hx_part_ok ⟨by omega, by omega⟩ ⟨hb.2.2.1, by omega⟩ ⟨by omega, by omega⟩, ok_bind] at hX
    dsimp only at hX
    obtain ⟨y, y1, y2⟩ := md_powerOf_ok (L := L) (s := z) (n := n) (p := a2) (e := a3) (w := a4) (by omega) (by omega) (by omega)
    refine Cal.q hX (s2 := up (up y 242 0 (frc (tl a2 a3 n (lnO a2 a4 n)) (10 ^ n) 0)) 242 1 (frc (tl a2 a3 n (lnO a2 a4 n)) (10 ^ n) 1)) (v2 := frc (tl a2 a3 n (lnO a2 a4 n)) (10 ^ n) (a5 - 1)) ?_ rfl ((e36 x2).tr (e36 z2)) (y2.tr up01) h
    rw [hY, tst (md_isTrial_ok h1 h2 h4), if_pos q1]
    dsimp only
    rw [tst (md_isIn_ok h3 i_lit i_lit), if_pos q2]
    dsimp only
    rw [tst (md_isIn_ok h5 i_lit i_lit), if_pos q3, h5.w, if_neg q4, y1, ok_bind]
    dsimp only
    rw [md_power_ok (by decide) (by omega), ok_bind]
    dsimp only
    rw [md_is_ok ⟨by omega, by omega⟩ ⟨hb.2.2.1, by omega⟩, ok_bind]
    dsimp only
    rw [md_tells_ok ⟨by omega, by omega⟩, ok_bind, frc_w]
end
