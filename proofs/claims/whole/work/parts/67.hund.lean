/-! loops that write; hundredths; count -/
/-- scratch alone has changed, and not the table of ways to choose -/
def scr2 (k j : Nat) : Prop := scr k j ∧ k ≠ 268 ∧ ¬ (k = 242 ∧ j = 50)
def Eqh (s t : hh_Sv) : Prop := ∀ k j, ¬ scr2 k j → t k j = s k j
theorem Eqh.rf {s : hh_Sv} : Eqh s s := fun _ _ _ => rfl
theorem Eqh.tr {s t u : hh_Sv} (h1 : Eqh s t) (h2 : Eqh t u) : Eqh s u := fun k j h => (h2 k j h).trans (h1 k j h)
theorem Eqh.v {s t : hh_Sv} (h : Eqh s t) : Eqv s t := fun k j hn => h k j (fun q => hn q.1)
theorem Eqh.up {s t : hh_Sv} {k j : Nat} {v : Int} (h : scr2 k j) (h1 : Eqh s t) : Eqh s (up t k j v) := fun a b hn => by
  by_cases e : a = k ∧ b = j
  · exact absurd (e.1 ▸ e.2 ▸ h) hn
  · show (if a = k ∧ b = j then v else t a b) = _
    rw [if_neg e]
    exact h1 a b hn
theorem Eqh.H {s t : hh_Sv} (h : Eqh s t) (hH : iv_H s) : iv_H t := hH.same (h _ _ (fun q => q.2.2 ⟨rfl, rfl⟩)) (fun j => h _ _ (fun q => q.2.1 rfl))
theorem Eqh.I {s t : hh_Sv} (h : Eqh s t) (hI : Inv s) : Inv t := ⟨hI.1.eqv h.v, h.H hI.2⟩
theorem Cal.q {L : Nat} {s s1 s2 : hh_Sv} {X Y : hh_Sv → Option hh_Rs} {wd : Int → Int} {v v2 : Int} (hX : X s = ok L v s1) (hY : Y s1 = ok L v2 s2) (hw : wd v = wd v2) (e1 : Eqh s s1) (e2 : Eqh s1 s2) (hI : Inv s) : Cal L s X Y wd := Cal.qy hX hY hw e1.v e2.v hI ((e1.tr e2).H hI.2)
/-- a loop with a state -/
theorem lp_st {n : Nat} (B : Int → hh_Sv → Option hh_Rs) (P : Nat → hh_Sv → Prop) (Q : Option hh_Rs → Prop) (h1 : ∀ (i : Nat) (t : hh_Sv), i < n → P i t → ∃ t', P (i + 1) t' ∧ B (i : Int) t = B ((i : Int) + 1) t') (h2 : ∀ t, P n t → Q (B (n : Int) t)) : ∀ (k i : Nat) (t : hh_Sv), i + k = n → P i t → Q (B (i : Int) t)
  | 0, i, t, e, h => by
    rw [Nat.add_zero] at e
    subst e
    exact h2 t h
  | k + 1, i, t, e, h => by
    obtain ⟨t', h3, h4⟩ := h1 i t (by omega) h
    rw [h4]
    exact lp_st B P Q h1 h2 k (i + 1) t' (by omega) h3
section
variable {L : Nat} {s : hh_Sv}
theorem scr_f {j : Nat} (h : j ≠ 2 ∧ j ≠ 3 ∧ j ≠ 4 ∧ j ≠ 10 ∧ j ≠ 16 ∧ j ≠ 17 ∧ j ≠ 70 ∧ j ≠ 50) : scr2 242 j := ⟨by unfold scr; omega, by decide, by omega⟩
/-- what hundredths is, of sums -/
def hun (s : hh_Sv) (t : Int) : Int := if sg (fThrows s t) (s 242 3).toNat = 0 then -1 else (100 * sg (fHits s t) (s 242 3).toNat) / sg (fThrows s t) (s 242 3).toNat
theorem sums_bd (h : Inv s) (t : Int) {i : Nat} (hi : i ≤ (s 242 3).toNat) : 0 ≤ sg (fThrows s t) i ∧ sg (fThrows s t) i ≤ 1440 ∧ 0 ≤ sg (fHits s t) i ∧ sg (fHits s t) i ≤ 1440 := by
  have hR := h.R
  have t1 := fThrows_bd h t
  have t2 := fHits_bd h t
  have a1 := sg_nn (f := fThrows s t) (n := i) (fun k hk => (t1 k (by omega)).1)
  have a2 := sg_le (f := fThrows s t) (c := 24) (n := i) (fun k hk => (t1 k (by omega)).2)
  have a3 := sg_nn (f := fHits s t) (n := i) (fun k hk => (t2 k (by omega)).1)
  have a4 := sg_le (f := fHits s t) (c := 24) (n := i) (fun k hk => by have := t2 k (by omega); have := t1 k (by omega); omega)
  refine ⟨a1, by omega, a3, by omega⟩
theorem tDiv_nn {a b : Int} (ha : 0 ≤ a) (hb : 0 ≤ b) : tDiv a b = a / b := by
  unfold tDiv
  rw [opq_eq]
  exact Int.tdiv_eq_ediv_of_nonneg ha
theorem tMod_nn {a b : Int} (ha : 0 ≤ a) (hb : 0 ≤ b) : tMod a b = a % b := by
  unfold tMod
  rw [opq_eq]
  exact Int.tmod_eq_emod_of_nonneg ha
theorem hun_bd (h : Inv s) (t : Int) : -1 ≤ hun s t ∧ hun s t ≤ 144000 := by
  obtain ⟨a1, a2, a3, a4⟩ := sums_bd h t (i := (s 242 3).toNat) (Nat.le_refl _)
  unfold hun
  split
  · omega
  next hne =>
    have := Int.ediv_nonneg (a := 100 * sg (fHits s t) (s 242 3).toNat) (b := sg (fThrows s t) (s 242 3).toNat) (by omega) a1
    have := Int.ediv_le_self (a := 100 * sg (fHits s t) (s 242 3).toNat) (sg (fThrows s t) (s 242 3).toNat) (by omega)
    omega
theorem hx_hundredthsOf_ok {t : Int} (h : Inv s) (ht : I32 t) : hx_hundredthsOf L t s = ok L (hun s t) s := by
  obtain ⟨a1, a2, a3, a4⟩ := sums_bd h t (i := (s 242 3).toNat) (Nat.le_refl _)
  rw [hx_hundredthsOf_eq, co_countThrows_ok h ht, ok_bind]
  dsimp only
  unfold hun
  have e : w32 (sg (fThrows s t) (s 242 3).toNat) = sg (fThrows s t) (s 242 3).toNat := w32_id (by omega) (by omega)
  by_cases e0 : sg (fThrows s t) (s 242 3).toNat = 0
  · rw [if_pos (by rw [e]; exact e0), if_pos e0]
  · rw [if_neg (by rw [e]; exact e0), if_neg e0, co_countHits_ok h ht, ok_bind]
    dsimp only
    rw [if_neg (by rw [e]; exact e0), e, w32_id (by omega) (by omega), tDiv_nn (by omega) (by omega), Int.mul_comm]
theorem md_hundredthsOf_ok {t : Int} (h : Inv s) (ht : I32 t) (h0 : 0 ≤ t) : ∃ s2, md_hundredthsOf L t s = ok L (hun s t) s2 ∧ Eqh s s2 ∧ s2 242 61 = sg (fThrows s t) (s 242 3).toNat ∧ s2 242 62 = sg (fHits s t) (s 242 3).toNat := by
  obtain ⟨n, hn, hn2⟩ := row_n h
  rw [md_hundredthsOf_eq]
  have key := lp_st (n := n) (fun i u => md_hundredthsOf_b1 L t i u) (fun i u => Eqh s u ∧ u 242 61 = sg (fThrows s t) i ∧ u 242 62 = sg (fHits s t) i) (fun r => ∃ s2, r = ok L (hun s t) s2 ∧ Eqh s s2 ∧ s2 242 61 = sg (fThrows s t) (s 242 3).toNat ∧ s2 242 62 = sg (fHits s t) (s 242 3).toNat) ?_ ?_ n 0 (up (up s 242 61 0) 242 62 0) (by omega) ⟨(Eqh.rf.up (scr_f (by omega))).up (scr_f (by omega)), by rw [up_j (by decide), up_s]; rfl, by rw [up_s]; rfl⟩
  · exact key
  · intro i u hi ⟨hE, p1, p2⟩
    show ∃ t', _ ∧ md_hundredthsOf_b1 L t (i : Int) u = md_hundredthsOf_b1 L t ((i : Int) + 1) t'
    have g : ∀ k j, ¬ scr2 k j → u k j = s k j := hE
    have e3 : u 242 3 = (n : Int) := by rw [g _ _ (by unfold scr2 scr; omega)]; exact hn
    have e243 : u 243 i = s 243 i := g _ _ (by unfold scr2 scr; omega)
    have e244 : u 244 i = s 244 i := g _ _ (by unfold scr2 scr; omega)
    have e245 : u 245 i = s 245 i := g _ _ (by unfold scr2 scr; omega)
    obtain ⟨b1, b2, b3, b4, b5, -⟩ := h.row (r := i) (by omega)
    obtain ⟨x, x1, x2, x3⟩ := row_h h (r := i) (by omega)
    have hin : (0 : Int) ≤ (i : Int) ∧ (i : Int) < 60 := by omega
    rw [md_hundredthsOf_b1_eq, if_pos (show w32 (i : Int) < w32 (u 242 3) by rw [e3, w32_id (by omega) (by omega), w32_id (by omega) (by omega)]; omega), if_pos hin, Int.toNat_natCast]
    by_cases e : s 243 i = t
    · rw [if_pos (show w32 (u 243 i) = w32 t by rw [e243, e]), if_pos hin, if_pos hin, e245, x1, md_bits_all L (by omega), ok_bind]
      dsimp only
      refine ⟨_, ⟨?_, ?_, ?_⟩, rfl⟩
      · exact (hE.up (scr_f (by omega))).up (scr_f (by omega))
      · rw [up_j (by decide), up_s, p1, e244, sg]
        unfold fThrows
        rw [if_pos (Or.inr e)]
      · rw [up_s, p2, sg]
        unfold fHits
        rw [if_pos (Or.inr e), x1, Int.toNat_natCast]
    · rw [if_neg (show ¬ w32 (u 243 i) = w32 t by rw [e243, ht.w, w32_id (by omega) (by omega)]; exact e)]
      refine ⟨u, ⟨hE, ?_, ?_⟩, rfl⟩
      · rw [p1, sg]
        unfold fThrows
        rw [if_neg (by omega), Int.add_zero]
      · rw [p2, sg]
        unfold fHits
        rw [if_neg (by omega), Int.add_zero]
  · intro u ⟨hE, p1, p2⟩
    show ∃ s2, md_hundredthsOf_b1 L t (n : Int) u = ok L (hun s t) s2 ∧ _
    have g : ∀ k j, ¬ scr2 k j → u k j = s k j := hE
    have e3 : u 242 3 = (n : Int) := by rw [g _ _ (by unfold scr2 scr; omega)]; exact hn
    have en : (s 242 3).toNat = n := by omega
    obtain ⟨a1, a2, a3, a4⟩ := sums_bd h t (i := (s 242 3).toNat) (Nat.le_refl _)
    rw [en] at a1 a2 a3 a4 ⊢
    have ew : w32 (u 242 61) = sg (fThrows s t) n := by rw [p1, w32_id (by omega) (by omega)]
    refine ⟨u, ?_, hE, p1, p2⟩
    rw [md_hundredthsOf_b1_eq, if_neg (show ¬ w32 (n : Int) < w32 (u 242 3) by rw [e3]; omega)]
    unfold hun
    rw [en]
    by_cases e0 : sg (fThrows s t) n = 0
    · rw [if_pos (by rw [ew]; exact e0), if_pos e0]
    · rw [if_neg (by rw [ew]; exact e0), if_neg e0, if_neg (by rw [ew]; exact e0), ew, p2, w32_id (by omega) (by omega), tDiv_nn (by omega) (by omega)]
theorem c_hundredths {a : Int} (ha : I32 a) (h : Inv s) : Cal L s (hx_hundredths L a) (md_hundredths L a) w32 := by
  obtain ⟨T1, T2, T3⟩ := h.T
  by_cases e1 : 0 ≤ a ∧ a < s 9 0
  · obtain ⟨s2, m1, m2, -⟩ := md_hundredthsOf_ok (L := L) h ha e1.1
    refine Cal.q (s1 := s) (s2 := s2) (v := hun s a) (v2 := hun s a) ?_ ?_ rfl Eqh.rf m2 h
    · rw [hx_hundredths_eq, tst (co_hasThrower_ok ha (by omega)), if_pos e1]
      dsimp only
      rw [hx_hundredthsOf_ok h ha, ok_bind]
    · rw [md_hundredths_eq, tst (md_isThrower_ok ha (by omega)), if_pos (by omega)]
      dsimp only
      rw [m1, ok_bind]
  · refine Cal.pure (v := -1) (v2 := -1) ?_ ?_ rfl h
    · rw [hx_hundredths_eq, tst (co_hasThrower_ok ha (by omega)), if_neg e1]
    · rw [md_hundredths_eq, tst (md_isThrower_ok ha (by omega)), if_neg (by omega)]
theorem md_count_b6_ok (h : Inv s) : md_count_b6 L 0 0 s = ok L (sg (fThrows s (-1)) (s 242 3).toNat) s := by
  obtain ⟨n, hn, hn2⟩ := row_n h
  rw [hn, Int.toNat_natCast]
  have e0 : w32 (s 242 3) = (n : Int) := by rw [hn, w32_id (by omega) (by omega)]
  refine lp_sum (L := L) (n := n) (f := fThrows s (-1)) (s := s) (fun z i => md_count_b6 L z i s) (fun i z hi hz => ?_) ?_ n 0 (by omega)
  · show md_count_b6 L z (i : Int) s = md_count_b6 L (z + fThrows s (-1) i) ((i : Int) + 1) s
    rw [md_count_b6_eq, if_pos (show w32 (i : Int) < w32 (s 242 3) by rw [e0, w32_id (by omega) (by omega)]; omega), if_pos (by omega), Int.toNat_natCast]
    unfold fThrows
    rw [if_pos (Or.inl rfl)]
  · show md_count_b6 L (sg (fThrows s (-1)) n) (n : Int) s = _
    rw [md_count_b6_eq, if_neg (show ¬ w32 (n : Int) < w32 (s 242 3) by rw [e0, w32_id (by omega) (by omega)]; omega)]
theorem md_count_b9_ok (h : Inv s) : md_count_b9 L 0 0 s = ok L (sg (fHits s (-1)) (s 242 3).toNat) s := by
  obtain ⟨n, hn, hn2⟩ := row_n h
  rw [hn, Int.toNat_natCast]
  have e0 : w32 (s 242 3) = (n : Int) := by rw [hn, w32_id (by omega) (by omega)]
  refine lp_sum (L := L) (n := n) (f := fHits s (-1)) (s := s) (fun z i => md_count_b9 L z i s) (fun i z hi hz => ?_) ?_ n 0 (by omega)
  · show md_count_b9 L z (i : Int) s = md_count_b9 L (z + fHits s (-1) i) ((i : Int) + 1) s
    obtain ⟨x, x1, x2, x3⟩ := row_h h (r := i) (by omega)
    rw [md_count_b9_eq, if_pos (show w32 (i : Int) < w32 (s 242 3) by rw [e0, w32_id (by omega) (by omega)]; omega), if_pos (by omega), Int.toNat_natCast, x1, md_bits_all L (by omega), ok_bind]
    unfold fHits
    rw [if_pos (Or.inl rfl), x1, Int.toNat_natCast]
  · show md_count_b9 L (sg (fHits s (-1)) n) (n : Int) s = _
    rw [md_count_b9_eq, if_neg (show ¬ w32 (n : Int) < w32 (s 242 3) by rw [e0, w32_id (by omega) (by omega)]; omega)]
theorem kd_rule : ∀ i, i < 16 → (SHf 0 (90 + 5 * i)).1 = 26 := by decide +kernel
theorem ru_kd {q : Nat} (h : ru_cell q) : kd L q = 26 := by
  unfold kd
  rcases h with rfl | ⟨i, h1, rfl⟩
  · rw [in_shL (by decide)]
    decide +kernel
  · rw [in_shL (by omega)]
    exact kd_rule i h1
theorem c_count {a : Int} (ha : I32 a) (h : Inv s) : Cal L s (hx_count L a) (md_count L a) w32 := by
  obtain ⟨T1, T2, T3⟩ := h.T
  obtain ⟨R1, R2, R3⟩ := h.R
  obtain ⟨l1, l2, l3, l4, l5, l6⟩ := h.1.2.2.2.1
  have hX := hx_count_eq L a s
  have hY := md_count_eq L a s
  rw [tst (hx_isIn_ok ha i_lit i_lit)] at hX
  rw [tst (md_isIn_ok ha i_lit i_lit)] at hY
  by_cases e1 : 10 ≤ a ∧ a ≤ 21
  · rw [if_pos e1, if_pos (by omega)] at hX hY
    dsimp only at hX hY
    obtain ⟨t, ht⟩ := Int.eq_ofNat_of_zero_le (show 0 ≤ a - 10 by omega)
    rw [ht, Int.toNat_natCast] at hX hY
    have q : ru_q s t = (s 16 t).toNat := by unfold ru_q; rw [if_pos (by omega)]
    rw [if_pos (by rw [← q]; exact ru_kd (l4 t (by omega))), ← q] at hX
    obtain ⟨rs, r1, r2, r3, r4, r5, r6, -⟩ := l6 t (by omega)
    exact Cal.pure hX hY (by rw [r4.1, r6]) h
  · rw [if_neg e1] at hX hY
    dsimp only at hX hY
    rw [tst (hx_isIn_ok ha i_lit i_lit)] at hX
    rw [tst (md_isIn_ok ha i_lit i_lit)] at hY
    by_cases e2 : 30 ≤ a ∧ a ≤ 33
    · rw [if_pos e2, if_pos (by omega)] at hX hY
      dsimp only at hX hY
      obtain ⟨t, ht⟩ := Int.eq_ofNat_of_zero_le (show 0 ≤ a - 30 by omega)
      have ht2 : (12 + a - 30).toNat = t + 12 := by omega
      rw [ht2] at hY
      rw [ht, Int.toNat_natCast] at hX
      have q : ru_q s (t + 12) = (s 17 t).toNat := by unfold ru_q; rw [if_neg (by omega), if_pos (by omega), Nat.add_sub_cancel]
      rw [if_pos (by rw [← q]; exact ru_kd (l4 (t + 12) (by omega))), ← q] at hX
      obtain ⟨rs, r1, r2, r3, r4, r5, r6, -⟩ := l6 (t + 12) (by omega)
      exact Cal.pure hX hY (by rw [r4.1, r6]) h
    · rw [if_neg e2] at hX hY
      dsimp only at hX hY
      rw [co_countThrows_ok h i_lit, co_countHits_ok h i_lit, ok_bind, ok_bind] at hX
      rw [md_count_b6_ok h, md_count_b9_ok h] at hY
      dsimp only at hX
      have hM := h.1.2.2.2.2.1
      have hI := h.1.2.2.1
      have hB := h.1.2.2.2.2.2
      rw [T1, R1, hM.1, hI.1, hB.1] at hX
      obtain ⟨v, hv⟩ : ∃ v, md_count L a s = ok L v s := by
        rw [hY]
        (repeat' split) <;> exact ⟨_, rfl⟩
      exact Cal.pure ((hX.trans hY.symm).trans hv) hv rfl h
end
