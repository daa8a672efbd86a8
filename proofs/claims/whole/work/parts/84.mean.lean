/-! value, mean -/
section
variable {L : Nat} {s : hh_Sv}
theorem tV_bd {M : Nat → Nat → Int} {S : Int} {i x n j : Nat} (hx : x < 2 ^ n) (hn : n ≤ 24) (hS : 0 ≤ S) : 0 ≤ tV M S i x n j ∧ tV M S i x n j ≤ S * n := by
  have hb1 : tH M i x n j ≤ n := th_le hx hn
  have hb2 : 0 ≤ S / ((tD M i x n j : Nat) : Int) := Int.ediv_nonneg hS (by omega)
  have hb3 : S / ((tD M i x n j : Nat) : Int) ≤ S := Int.ediv_le_self _ hS
  exact ⟨Int.mul_nonneg hb2 (by omega), Int.mul_le_mul hb3 (by omega) (by omega) hS⟩
theorem sg_abs {f : Nat → Int} {c : Int} : ∀ {n : Nat}, (∀ k, k < n → -c ≤ f k ∧ f k ≤ c) → -(c * n) ≤ sg f n ∧ sg f n ≤ c * n
  | 0, _ => by simp [sg]
  | n + 1, h => by
    have h1 := sg_abs (n := n) (fun k hk => h k (by omega))
    have h2 := h n (by omega)
    have h3 : c * ((n + 1 : Nat) : Int) = c * n + c := by rw [Int.natCast_add, Int.mul_add]; simp
    rw [sg]
    omega
/-- a measure's value stays small -/
theorem msum_bd {i x n : Nat} {S : Int} (h : Inv s) (hi : (i : Int) < s 242 16) (hx : x < 2 ^ n) (hn : n ≤ 24) (hS : 0 ≤ S) : -(12 * (S * n)) ≤ msum (mf s) S i x n ∧ msum (mf s) S i x n ≤ 12 * (S * n) := by
  obtain ⟨c1, c2, c3⟩ := h.me hi
  have e0 : mf s 0 i = s 263 i := rfl
  unfold msum vs
  rw [e0]
  obtain ⟨m, hm⟩ := Int.eq_ofNat_of_zero_le (show 0 ≤ s 263 i by omega)
  rw [hm, Int.toNat_natCast]
  have hp : 0 ≤ S * (n : Int) := Int.mul_nonneg hS (by omega)
  have key := sg_abs (f := fun j => mf s 1 (4 * i + j) * tV (mf s) S i x n j) (c := 3 * (S * n)) (n := m) (fun j hj => by
    obtain ⟨k, t, o, p, -, -, -, a4, a5, a6, -⟩ := c3 j (by omega)
    have hv := tV_bd (M := mf s) (i := i) (j := j) hx hn hS
    have e1 : mf s 1 (4 * i + j) = t := a4
    show -(3 * (S * n)) ≤ mf s 1 (4 * i + j) * tV (mf s) S i x n j ∧ mf s 1 (4 * i + j) * tV (mf s) S i x n j ≤ 3 * (S * n)
    rw [e1]
    rcases a6 with rfl | rfl | rfl | rfl | rfl | rfl <;> omega)
  have h4 : 3 * (S * (n : Int)) * (m : Int) ≤ 3 * (S * (n : Int)) * 4 := Int.mul_le_mul_of_nonneg_left (by omega) (by omega)
  omega
theorem ms_big {i x n : Nat} (h : Inv s) (hi : (i : Int) < s 242 16) (hx : x < 2 ^ n) (hn : n ≤ 24) : -2000000000000 ≤ msum (mf s) 5354228880 i x n ∧ msum (mf s) 5354228880 i x n ≤ 2000000000000 := by
  have := msum_bd (S := 5354228880) h hi hx hn (by decide)
  omega
theorem nv_ne {v : Int} (h : -9000000000000000000 < v ∧ v < 9000000000000000000) : ¬ w32 (lCmp v (-9000000000000000000)) = 0 := fun q => by
  have := lCmp_eq.mp q
  rw [w64_id (by omega) (by omega), w64_id (by omega) (by omega)] at this
  omega
theorem nv_eq : w32 (lCmp (-9000000000000000000) (-9000000000000000000)) = 0 := lCmp_eq.mpr rfl
theorem c_value {a1 a2 a3 : Int} (h1 : I32 a1) (h2 : I32 a2) (h3 : I32 a3) (h : Inv s) : Cal L s (hx_value L a1 a2 a3) (md_value L a1 a2 a3) w64 := by
  obtain ⟨R1, R2, R3⟩ := h.R
  obtain ⟨M1, M2, M3⟩ := h.M
  have hX := hx_value_eq L a1 a2 a3 s
  have hY := md_value_eq L a1 a2 a3 s
  rw [tst (co_hasRow_ok h1 (by omega))] at hX
  rw [tst (md_isRow_ok h1 (by omega))] at hY
  by_cases e1 : 0 ≤ a1 ∧ a1 < s 242 3
  case neg => exact Cal.pure (hX.trans (if_neg (by omega))) (hY.trans (if_neg e1)) rfl h
  rw [if_pos (by omega)] at hX
  rw [if_pos e1] at hY
  dsimp only at hX hY
  rw [tst (hx_isMeasure_ok h2 h)] at hX
  rw [tst (md_isMeasure_ok h2 h)] at hY
  by_cases e2 : 0 ≤ a2 ∧ a2 < s 242 16
  case neg => exact Cal.pure (hX.trans (if_neg e2)) (hY.trans (if_neg e2)) rfl h
  rw [if_pos e2] at hX hY
  dsimp only at hX hY
  rw [tst (hx_isIn_ok h3 i_lit i_lit)] at hX
  rw [tst (md_isIn_ok h3 i_lit i_lit)] at hY
  by_cases e3 : 0 ≤ a3 ∧ a3 ≤ 1
  case neg => exact Cal.pure (hX.trans (if_neg e3)) (hY.trans (if_neg e3)) rfl h
  rw [if_pos e3] at hX hY
  dsimp only at hX hY
  obtain ⟨r, rfl⟩ := Int.eq_ofNat_of_zero_le e1.1
  obtain ⟨i, rfl⟩ := Int.eq_ofNat_of_zero_le e2.1
  obtain ⟨x, n, x1, x2, n1, n2, n3, n4, n5⟩ := row_x h e1.2
  obtain ⟨k1, k2, -⟩ := me_shL (L := L) (i := i) (by omega)
  obtain ⟨v, u, v1, v2, v3, v4⟩ := md_valueOf_ok (L := L) h e2.2 n4 n3
  rw [if_pos (by omega), if_pos (by omega), if_pos (by omega), Int.toNat_natCast, Int.toNat_natCast, k2, if_pos k1, x2, n2, me_reckon_ok h e2.2 n4 n3 (by decide), ok_bind] at hX
  rw [if_pos (by omega), if_pos (by omega), Int.toNat_natCast, x1, n1, v1, ok_bind] at hY
  dsimp only at hX hY
  by_cases em : mhas (mf s) i x n = true
  · have hb := ms_big h e2.2 n4 n3
    rw [if_pos em] at v3
    rw [if_pos em, if_neg (nv_ne (by omega)), hx_part_ok (by omega) (by decide) h3, ok_bind] at hX
    rw [if_neg (by rw [v3, w32_1]; decide), v4 em, md_is_ok (by omega) (by decide), ok_bind] at hY
    dsimp only at hX hY
    rw [md_tells_ok h3, ok_bind, frc_w] at hY
    exact Cal.q hX hY rfl Eqh.rf ((v2.q (by decide) (Or.inl (by decide))).tr up01) h
  · rw [if_neg em] at v3
    rw [if_neg em, if_pos nv_eq] at hX
    rw [if_pos (by rw [v3]; exact w32_0)] at hY
    exact Cal.q hX hY rfl Eqh.rf (v2.q (by decide) (Or.inl (by decide))) h
/-- of the rows asked for: what their values are together, how many have one -/
noncomputable def mvF (s : hh_Sv) (t : Int) (i : Nat) (r : Nat) : Int := if (t = -1 ∨ s 243 r = t) ∧ mhas (mf s) i (s 245 r).toNat (s 244 r).toNat = true then msum (mf s) 5354228880 i (s 245 r).toNat (s 244 r).toNat else 0
noncomputable def mcF (s : hh_Sv) (t : Int) (i : Nat) (r : Nat) : Int := if (t = -1 ∨ s 243 r = t) ∧ mhas (mf s) i (s 245 r).toNat (s 244 r).toNat = true then 1 else 0
theorem mcF_bd (t : Int) (i n : Nat) : 0 ≤ sg (mcF s t i) n ∧ sg (mcF s t i) n ≤ n := by
  have a := sg_nn (f := mcF s t i) (n := n) (fun k _ => by unfold mcF; split <;> omega)
  have b := sg_le (f := mcF s t i) (c := 1) (n := n) (fun k _ => by unfold mcF; split <;> omega)
  omega
theorem mvF_bd {t : Int} {i : Nat} (h : Inv s) (hi : (i : Int) < s 242 16) {n : Nat} (hn : (n : Int) ≤ s 242 3) : -(2000000000000 * (n : Int)) ≤ sg (mvF s t i) n ∧ sg (mvF s t i) n ≤ 2000000000000 * (n : Int) := by
  refine sg_abs (fun k hk => ?_)
  obtain ⟨x, m, x1, x2, n1, n2, n3, n4, n5⟩ := row_x h (r := k) (by omega)
  have hb := ms_big h hi n4 n3
  unfold mvF
  rw [x1, n1, Int.toNat_natCast, Int.toNat_natCast]
  split <;> omega
theorem c_mean {a1 a2 a3 : Int} (h1 : I32 a1) (h2 : I32 a2) (h3 : I32 a3) (h : Inv s) : Cal L s (hx_mean L a1 a2 a3) (md_mean L a1 a2 a3) w64 := by
  obtain ⟨T1, T2, T3⟩ := h.T
  obtain ⟨R1, R2, R3⟩ := h.R
  obtain ⟨M1, M2, M3⟩ := h.M
  suffices hb : ∃ v s2, hx_mean_b1 L a1 a2 a3 s = ok L v s ∧ md_mean_b1 L a1 a2 a3 s = ok L v s2 ∧ Eqh s s2 by
    obtain ⟨v, s2, b1, b2, b3⟩ := hb
    by_cases e1 : a1 = -1
    · refine Cal.q (s1 := s) (s2 := s2) (v := v) (v2 := v) ?_ ?_ rfl Eqh.rf b3 h
      · rw [hx_mean_eq, h1.w, if_pos e1, b1]
      · rw [md_mean_eq, h1.w, if_pos e1, b2]
    · by_cases e2 : 0 ≤ a1 ∧ a1 < s 242 2
      · refine Cal.q (s1 := s) (s2 := s2) (v := v) (v2 := v) ?_ ?_ rfl Eqh.rf b3 h
        · rw [hx_mean_eq, h1.w, if_neg e1, tst (co_hasThrower_ok h1 (by omega)), if_pos (by omega)]
          exact b1
        · rw [md_mean_eq, h1.w, if_neg e1, tst (md_isThrower_ok h1 (by omega)), if_pos e2]
          exact b2
      · refine Cal.pure (v := -1000000000000) (v2 := -1000000000000) ?_ ?_ rfl h
        · rw [hx_mean_eq, h1.w, if_neg e1, tst (co_hasThrower_ok h1 (by omega)), if_neg (by omega)]
        · rw [md_mean_eq, h1.w, if_neg e1, tst (md_isThrower_ok h1 (by omega)), if_neg e2]
  have hX := hx_mean_b1_eq L a1 a2 a3 s
  have hY := md_mean_b1_eq L a1 a2 a3 s
  rw [tst (hx_isMeasure_ok h2 h)] at hX
  rw [tst (md_isMeasure_ok h2 h)] at hY
  by_cases e2 : 0 ≤ a2 ∧ a2 < s 242 16
  case neg => exact ⟨_, _, hX.trans (if_neg e2), hY.trans (if_neg e2), Eqh.rf⟩
  rw [if_pos e2] at hX hY
  dsimp only at hX hY
  rw [tst (hx_isIn_ok h3 i_lit i_lit)] at hX
  rw [tst (md_isIn_ok h3 i_lit i_lit)] at hY
  by_cases e3 : 0 ≤ a3 ∧ a3 ≤ 1
  case neg => exact ⟨_, _, hX.trans (if_neg e3), hY.trans (if_neg e3), Eqh.rf⟩
  rw [if_pos e3] at hX hY
  dsimp only at hX hY
  obtain ⟨i, rfl⟩ := Int.eq_ofNat_of_zero_le e2.1
  obtain ⟨k1, k2, -⟩ := me_shL (L := L) (i := i) (by omega)
  obtain ⟨n, hn, hn2⟩ := row_n h
  have hin2 : (0 : Int) ≤ (i : Int) ∧ (i : Int) < 12 := by omega
  have hv := mvF_bd (t := a1) h e2.2 (n := n) (by omega)
  have hc := mcF_bd (s := s) a1 i n
  have kX : ∀ (j r : Nat), r + j = n → hx_mean_b4 L a1 (i : Int) a3 (sg (mvF s a1 i) r) (sg (mcF s a1 i) r) (r : Int) s = hx_mean_b4 L a1 (i : Int) a3 (sg (mvF s a1 i) n) (sg (mcF s a1 i) n) (n : Int) s := by
    intro j
    induction j with
    | zero =>
      intro r e
      rw [Nat.add_zero] at e
      rw [e]
    | succ j ih =>
      intro r e
      rw [← ih (r + 1) (by omega)]
      obtain ⟨x, m, x1, x2, n1, n2, n3, n4, n5⟩ := row_x h (r := r) (by omega)
      have hin : (0 : Int) ≤ (r : Int) ∧ (r : Int) < 60 := by omega
      have hb := ms_big h e2.2 n4 n3
      rw [hx_mean_b4_eq, if_pos (by rw [R1, hn, w32_id (by omega) (by omega), w32_id (by omega) (by omega)]; omega), co_isOf_ok h h1 (by omega), ok_bind]
      dsimp only
      have s1 : sg (mvF s a1 i) (r + 1) = sg (mvF s a1 i) r + mvF s a1 i r := rfl
      have s2 : sg (mcF s a1 i) (r + 1) = sg (mcF s a1 i) r + mcF s a1 i r := rfl
      rw [s1, s2]
      unfold mvF mcF
      rw [x1, n1, Int.toNat_natCast, Int.toNat_natCast]
      by_cases e : a1 = -1 ∨ s 243 r = a1
      · rw [if_neg (show ¬ w32 (zb (a1 = -1 ∨ s 243 r = a1)) = 0 from fun q => zb_w.mp q e), if_pos hin2, if_pos hin, if_pos hin, Int.toNat_natCast, k2, if_pos k1, x2, n2, me_reckon_ok h e2.2 n4 n3 (by decide), ok_bind]
        dsimp only
        by_cases em : mhas (mf s) i x m = true
        · rw [if_pos em, if_neg (nv_ne (by omega)), if_pos ⟨e, em⟩, if_pos ⟨e, em⟩]
          rfl
        · rw [if_neg em, if_pos nv_eq, if_neg (fun q => em q.2), if_neg (fun q => em q.2), Int.add_zero, Int.add_zero]
          rfl
      · rw [if_pos (zb_w.mpr e), if_neg (fun q => e q.1), if_neg (fun q => e q.1), Int.add_zero, Int.add_zero]
        rfl
  have kY : ∀ (j r : Nat) (u : hh_Sv), r + j = n → Fr 40 42 s u → ∃ w, Fr 40 42 s w ∧ md_mean_b4 L a1 (i : Int) a3 (sg (mvF s a1 i) r) (sg (mcF s a1 i) r) (r : Int) u = md_mean_b4 L a1 (i : Int) a3 (sg (mvF s a1 i) n) (sg (mcF s a1 i) n) (n : Int) w := by
    intro j
    induction j with
    | zero =>
      intro r u e g
      rw [Nat.add_zero] at e
      exact ⟨u, g, by rw [e]⟩
    | succ j ih =>
      intro r u e g
      obtain ⟨x, m, x1, x2, n1, n2, n3, n4, n5⟩ := row_x h (r := r) (by omega)
      have hrow := h.row (r := r) (by omega)
      have hin : (0 : Int) ≤ (r : Int) ∧ (r : Int) < 60 := by omega
      have hb := ms_big h e2.2 n4 n3
      have s1 : sg (mvF s a1 i) (r + 1) = sg (mvF s a1 i) r + mvF s a1 i r := rfl
      have s2 : sg (mcF s a1 i) (r + 1) = sg (mcF s a1 i) r + mcF s a1 i r := rfl
      have hI : Inv u := (g.q (by decide) (Or.inl (by decide))).I h
      have b5 : a1 = -1 ∨ s 243 r = a1 → ∃ w, Fr 40 42 s w ∧ md_mean_b5 L a1 (i : Int) a3 (sg (mvF s a1 i) r) (sg (mcF s a1 i) r) (r : Int) u = md_mean_b4 L a1 (i : Int) a3 (sg (mvF s a1 i) n) (sg (mcF s a1 i) n) (n : Int) w := by
        intro e4
        obtain ⟨v, w, v1, v2, v3, v4⟩ := md_valueOf_ok (L := L) hI (i := i) (x := x) (n := m) (by rw [g _ _ (by omega)]; exact e2.2) n4 n3
        rw [g.mf] at v3 v4
        obtain ⟨w2, q1, q2⟩ := ih (r + 1) w (by omega) (g.tr v2)
        refine ⟨w2, q1, ?_⟩
        rw [← q2, md_mean_b5_eq, if_pos hin, if_pos hin, Int.toNat_natCast, g _ _ (by omega), g _ _ (by omega), x1, n1, v1, ok_bind, s1, s2]
        dsimp only
        unfold mvF mcF
        rw [x1, n1, Int.toNat_natCast, Int.toNat_natCast]
        by_cases em : mhas (mf s) i x m = true
        · rw [if_pos em] at v3
          rw [if_neg (by rw [v3, w32_1]; decide), v4 em, if_pos ⟨e4, em⟩, if_pos ⟨e4, em⟩]
          rfl
        · rw [if_neg em] at v3
          rw [if_pos (by rw [v3]; exact w32_0), if_neg (fun q => em q.2), if_neg (fun q => em q.2), Int.add_zero, Int.add_zero]
          rfl
      rw [md_mean_b4_eq, if_pos (by rw [g _ _ (by omega), hn, w32_id (by omega) (by omega), w32_id (by omega) (by omega)]; omega), h1.w]
      by_cases et : a1 = -1
      · rw [if_pos et]
        exact b5 (Or.inl et)
      · rw [if_neg et, if_pos hin, Int.toNat_natCast, g _ _ (by omega)]
        by_cases eo : s 243 r = a1
        · rw [if_pos (by rw [eo, h1.w])]
          exact b5 (Or.inr eo)
        · rw [if_neg (by rw [w32_id (by have := hrow.2.2.2.1; omega) (by have := hrow.2.2.2.1; omega)]; exact eo)]
          obtain ⟨w2, q1, q2⟩ := ih (r + 1) u (by omega) g
          refine ⟨w2, q1, ?_⟩
          rw [← q2, s1, s2]
          have ne : ¬ ((a1 = -1 ∨ s 243 r = a1) ∧ mhas (mf s) i (s 245 r).toNat (s 244 r).toNat = true) := fun q => by
            rcases q.1 with q | q
            · exact et q
            · exact eo q
          unfold mvF mcF
          rw [if_neg ne, if_neg ne, Int.add_zero, Int.add_zero]
          rfl
  have kx := kX n 0 (by omega)
  obtain ⟨w, w1, w2⟩ := kY n 0 s (by omega) Fr.rf
  have kx : hx_mean_b4 L a1 (i : Int) a3 0 0 0 s = _ := kx
  have w2 : md_mean_b4 L a1 (i : Int) a3 0 0 0 s = _ := w2
  rw [kx, hx_mean_b4_eq, if_neg (by rw [R1, hn]; omega)] at hX
  rw [w2, md_mean_b4_eq, if_neg (by rw [w1 _ _ (by omega), hn]; omega)] at hY
  rw [w32_id (by omega) (by omega)] at hX
  by_cases e0 : sg (mcF s a1 i) n = 0
  · rw [if_pos e0] at hX
    rw [if_pos ((lc_zero ⟨by omega, by omega⟩).mpr e0)] at hY
    exact ⟨_, _, hX, hY, w1.q (by decide) (Or.inl (by decide))⟩
  · rw [if_neg e0, hx_part_ok (by omega) (by omega) h3, ok_bind] at hX
    rw [if_neg (fun q => e0 ((lc_zero ⟨by omega, by omega⟩).mp q)), Int.mul_comm, md_is_ok (by omega) (by omega), ok_bind] at hY
    dsimp only at hX hY
    rw [md_tells_ok h3, ok_bind, frc_w] at hY
    exact ⟨_, _, hX, hY, (w1.q (by decide) (Or.inl (by decide))).tr up01⟩
end
