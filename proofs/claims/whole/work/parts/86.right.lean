/-! lean, right: the calls -/
theorem sg_ge {f : Nat → Int} : ∀ {n k : Nat}, (∀ k, k < n → 0 ≤ f k) → k < n → f k ≤ sg f n
  | 0, _, _, h => by omega
  | n + 1, k, h, hk => by
    rw [sg]
    have h0 := sg_nn (f := f) (n := n) (fun k hk => h k (by omega))
    have h1 := h n (by omega)
    by_cases e : k = n
    · subst e
      omega
    · have := sg_ge (f := f) (n := n) (k := k) (fun k hk => h k (by omega)) (by omega)
      omega
section
variable {L : Nat} {s : hh_Sv}
theorem Fc.q {u : hh_Sv} (g : ∀ k j, k ≠ 30 → k ≠ 31 → u k j = s k j) : Eqh s u := fun k j hk => g k j (fun q => hk (by subst q; exact ⟨by unfold scr; omega, by decide, by omega⟩)) (fun q => hk (by subst q; exact ⟨by unfold scr; omega, by decide, by omega⟩))
theorem md_areTenths_ok {a b : Int} (ha : I32 a) (hb : I32 b) : md_areTenths L a b s = ok L (zb ((1 ≤ a ∧ a ≤ 12) ∧ 1 ≤ b ∧ b ≤ 9)) s := by
  rw [md_areTenths_eq, tst (md_isIn_ok ha i_lit i_lit)]
  by_cases e1 : 1 ≤ a ∧ a ≤ 12
  · rw [if_pos e1]
    dsimp only
    rw [tst (md_isIn_ok hb i_lit i_lit)]
    by_cases e2 : 1 ≤ b ∧ b ≤ 9
    · rw [if_pos e2, zb_1 ⟨e1, e2⟩]
    · rw [if_neg e2, zb_0 (fun q => e2 q.2), md_areTenths_b1_eq]
  · rw [if_neg e1, zb_0 (fun q => e1 q.1), md_areTenths_b1_eq]
theorem c_lean {a1 a2 a3 a4 : Int} (h1 : I32 a1) (h2 : I32 a2) (h3 : I32 a3) (h4 : I32 a4) (h : Inv s) : Cal L s (hx_lean L a1 a2 a3 a4) (md_lean L a1 a2 a3 a4) w64 := by
  obtain ⟨M1, M2, M3⟩ := h.M
  have hX := hx_lean_eq L a1 a2 a3 a4 s
  have hY := md_lean_eq L a1 a2 a3 a4
  rw [tst (hx_isMeasure_ok h1 h)] at hX
  by_cases e1 : 0 ≤ a1 ∧ a1 < s 242 16
  case neg => exact Cal.pure (hX.trans (if_neg e1)) ((hY s).trans (by rw [tst (md_isMeasure_ok h1 h), if_neg e1])) rfl h
  rw [if_pos e1] at hX
  dsimp only at hX
  rw [tst (hx_isIn_ok h2 i_lit i_lit)] at hX
  by_cases e2 : 1 ≤ a2 ∧ a2 ≤ 12
  case neg => exact Cal.pure (hX.trans (if_neg e2)) ((hY s).trans (by rw [tst (md_isMeasure_ok h1 h), if_pos e1]; dsimp only; rw [tst (md_areTenths_ok h2 h3), if_neg (fun q => e2 q.1)])) rfl h
  rw [if_pos e2] at hX
  dsimp only at hX
  rw [tst (hx_isIn_ok h3 i_lit i_lit)] at hX
  by_cases e3 : 1 ≤ a3 ∧ a3 ≤ 9
  case neg => exact Cal.pure (hX.trans (if_neg e3)) ((hY s).trans (by rw [tst (md_isMeasure_ok h1 h), if_pos e1]; dsimp only; rw [tst (md_areTenths_ok h2 h3), if_neg (fun q => e3 q.2)])) rfl h
  rw [if_pos e3] at hX
  dsimp only at hX
  rw [tst (hx_isIn_ok h4 i_lit i_lit)] at hX
  by_cases e4 : 0 ≤ a4 ∧ a4 ≤ 1
  case neg => exact Cal.pure (hX.trans (if_neg e4)) ((hY s).trans (by rw [tst (md_isMeasure_ok h1 h), if_pos e1]; dsimp only; rw [tst (md_areTenths_ok h2 h3), if_pos ⟨e2, e3⟩]; dsimp only; rw [tst (md_isIn_ok h4 i_lit i_lit), if_neg e4])) rfl h
  rw [if_pos e4] at hX
  dsimp only at hX
  obtain ⟨i, rfl⟩ := Int.eq_ofNat_of_zero_le e1.1
  obtain ⟨n, rfl⟩ := Int.eq_ofNat_of_zero_le (show 0 ≤ a2 by omega)
  obtain ⟨p, rfl⟩ := Int.eq_ofNat_of_zero_le (show 0 ≤ a3 by omega)
  obtain ⟨q, hpq⟩ : ∃ q : Nat, p + q = 10 := ⟨10 - p, by omega⟩
  obtain ⟨k1, k2, -⟩ := me_shL (L := L) (i := i) (by omega)
  obtain ⟨u, u1, u2, u3, u4⟩ := le_reckon_ok (L := L) h e1.2 hpq (by omega) (show 1 ≤ n ∧ n ≤ 12 by omega)
  have hE := Fc.q u2
  have hI := hE.I h
  have emf : mf u = mf s := by
    funext k j
    exact u2 _ _ (by omega) (by omega)
  obtain ⟨w, w1, w2, w3, w4⟩ := md_leans_ok (L := L) hI (i := i) (by rw [u2 _ _ (by decide) (by decide)]; exact e1.2) hpq (by omega) (show 1 ≤ n ∧ n ≤ 12 by omega)
  rw [emf] at w3 w4
  have hc := lcF_bd (M := mf s) (i := i) hpq (show n ≤ 12 by omega) (Nat.le_refl (2 ^ n))
  have hv := lvF_bd h e1.2 hpq (show n ≤ 12 by omega) (Nat.le_refl (2 ^ n))
  rw [if_pos (by omega), Int.toNat_natCast, k2, u1, ok_bind] at hX
  dsimp only at hX
  rw [u3, u4] at hX
  have hY2 := hY u
  rw [tst (md_isMeasure_ok h1 hI), if_pos (by rw [u2 _ _ (by decide) (by decide)]; exact e1)] at hY2
  dsimp only at hY2
  rw [tst (md_areTenths_ok h2 h3), if_pos ⟨e2, e3⟩] at hY2
  dsimp only at hY2
  rw [tst (md_isIn_ok h4 i_lit i_lit), if_pos e4] at hY2
  dsimp only at hY2
  rw [w1, ok_bind] at hY2
  dsimp only at hY2
  by_cases e0 : sg (lcF (mf s) i n p q) (2 ^ n) = 0
  · rw [hx_part_no (by omega), ok_bind] at hX
    rw [if_pos (by rw [w4]; exact (lc_zero ⟨by omega, by omega⟩).mpr e0)] at hY2
    exact Cal.q hX hY2 rfl hE (w2.q (by decide) (Or.inl (by decide))) h
  · rw [hx_part_ok (by omega) (by omega) h4, ok_bind] at hX
    rw [if_neg (by rw [w4]; exact fun q => e0 ((lc_zero ⟨by omega, by omega⟩).mp q)), w3, w4, md_is_ok (by omega) (by omega), ok_bind] at hY2
    dsimp only at hX hY2
    rw [md_tells_ok h4, ok_bind, frc_w, Int.mul_comm (sg (lcF (mf s) i n p q) (2 ^ n))] at hY2
    exact Cal.q hX hY2 rfl hE ((w2.q (by decide) (Or.inl (by decide))).tr up01) h
theorem c_right {a1 a2 a3 a4 : Int} (h1 : I32 a1) (h2 : I32 a2) (h3 : I32 a3) (h4 : I32 a4) (h : Inv s) : Cal L s (hx_right L a1 a2 a3 a4) (md_right L a1 a2 a3 a4) w64 := by
  obtain ⟨R1, R2, R3⟩ := h.R
  obtain ⟨M1, M2, M3⟩ := h.M
  have hX := hx_right_eq L a1 a2 a3 a4 s
  have hY := md_right_eq L a1 a2 a3 a4
  rw [tst (co_hasRow_ok h1 (by omega))] at hX
  by_cases e1 : 0 ≤ a1 ∧ a1 < s 242 3
  case neg => exact Cal.pure (hX.trans (if_neg (by omega))) ((hY s).trans (by rw [tst (md_isRow_ok h1 (by omega)), if_neg e1])) rfl h
  rw [if_pos (by omega)] at hX
  dsimp only at hX
  rw [tst (hx_isMeasure_ok h2 h)] at hX
  by_cases e2 : 0 ≤ a2 ∧ a2 < s 242 16
  case neg => exact Cal.pure (hX.trans (if_neg e2)) ((hY s).trans (by rw [tst (md_isRow_ok h1 (by omega)), if_pos e1]; dsimp only; rw [tst (md_isMeasure_ok h2 h), if_neg e2])) rfl h
  rw [if_pos e2] at hX
  dsimp only at hX
  obtain ⟨r, rfl⟩ := Int.eq_ofNat_of_zero_le e1.1
  obtain ⟨i, rfl⟩ := Int.eq_ofNat_of_zero_le e2.1
  obtain ⟨x, n, x1, x2, n1, n2, n3, n4, n5⟩ := row_x h e1.2
  have hin : (0 : Int) ≤ (r : Int) ∧ (r : Int) < 60 := by omega
  have hI32 : I32 (n : Int) := ⟨by omega, by omega⟩
  have hYn : ¬ (((1 ≤ (n : Int) ∧ (n : Int) ≤ 12) ∧ 1 ≤ a3 ∧ a3 ≤ 9) ∧ 0 ≤ a4 ∧ a4 ≤ 1) → md_right L (r : Int) (i : Int) a3 a4 s = ok L (-1000000000000) s := fun hne => by
    rw [hY s, tst (md_isRow_ok h1 (by omega)), if_pos e1]
    dsimp only
    rw [tst (md_isMeasure_ok h2 h), if_pos e2]
    dsimp only
    rw [if_pos hin, Int.toNat_natCast, n1, tst (md_areTenths_ok hI32 h3)]
    by_cases z : (1 ≤ (n : Int) ∧ (n : Int) ≤ 12) ∧ 1 ≤ a3 ∧ a3 ≤ 9
    · rw [if_pos z]
      dsimp only
      rw [tst (md_isIn_ok h4 i_lit i_lit), if_neg (fun q => hne ⟨z, q⟩)]
    · rw [if_neg z]
  rw [tst (hx_isIn_ok h3 i_lit i_lit)] at hX
  by_cases e3 : 1 ≤ a3 ∧ a3 ≤ 9
  case neg => exact Cal.pure (hX.trans (if_neg e3)) (hYn (fun q => e3 q.1.2)) rfl h
  rw [if_pos e3] at hX
  dsimp only at hX
  rw [tst (hx_isIn_ok h4 i_lit i_lit)] at hX
  by_cases e4 : 0 ≤ a4 ∧ a4 ≤ 1
  case neg => exact Cal.pure (hX.trans (if_neg e4)) (hYn (fun q => e4 q.2)) rfl h
  rw [if_pos e4] at hX
  dsimp only at hX
  rw [if_pos hin, Int.toNat_natCast, n2, tst (hx_isIn_ok hI32 i_lit i_lit)] at hX
  by_cases e5 : 1 ≤ (n : Int) ∧ (n : Int) ≤ 12
  case neg => exact Cal.pure (hX.trans (if_neg e5)) (hYn (fun q => e5 q.1.1)) rfl h
  rw [if_pos e5] at hX
  dsimp only at hX
  obtain ⟨p, rfl⟩ := Int.eq_ofNat_of_zero_le (show 0 ≤ a3 by omega)
  obtain ⟨q, hpq⟩ : ∃ q : Nat, p + q = 10 := ⟨10 - p, by omega⟩
  obtain ⟨k1, k2, -⟩ := me_shL (L := L) (i := i) (by omega)
  obtain ⟨u, u1, u2, u3, u4⟩ := le_reckon_ok (L := L) h e2.2 hpq (by omega) (show 1 ≤ n ∧ n ≤ 12 by omega)
  have hc := lcF_bd (M := mf s) (i := i) hpq (show n ≤ 12 by omega) (Nat.le_refl (2 ^ n))
  have hv := lvF_bd h e2.2 hpq (show n ≤ 12 by omega) (Nat.le_refl (2 ^ n))
  have hb := msum_bd (S := 27720) h e2.2 n4 (by omega) (by decide)
  rw [if_pos (by omega), if_pos hin, Int.toNat_natCast, k2, if_pos k1, x2, me_reckon_ok h e2.2 n4 (by omega) (by decide), ok_bind] at hX
  dsimp only at hX
  have goY : ∀ z : hh_Sv, Eqh s z → mf z = mf s → z 242 3 = s 242 3 → z 242 16 = s 242 16 → z 244 r = (n : Int) → z 245 r = (x : Int) → ∃ w, md_right L (r : Int) (i : Int) (p : Int) a4 z = ok L (if mhas (mf s) i x n = true then frc (msum (mf s) 27720 i x n * sg (lcF (mf s) i n p q) (2 ^ n) - sg (lvF (mf s) i n p q) (2 ^ n)) (27720 * sg (lcF (mf s) i n p q) (2 ^ n)) a4 else -1000000000000) w ∧ Eqh z w := by
    intro z hz zm z3 z16 z244 z245
    have hI := hz.I h
    obtain ⟨w, w1, w2, w3, w4⟩ := md_leans_ok (L := L) hI (i := i) (by rw [z16]; exact e2.2) hpq (by omega) (show 1 ≤ n ∧ n ≤ 12 by omega)
    rw [zm] at w3 w4
    have w2q := w2.q (by decide) (Or.inl (by decide))
    obtain ⟨v, y, v1, v2, v3, v4⟩ := md_valueOf_ok (L := L) (w2q.I hI) (i := i) (x := x) (n := n) (by rw [w2 _ _ (by omega), z16]; exact e2.2) n4 n3
    rw [w2.mf, zm] at v3 v4
    have v2q := v2.q (by decide) (Or.inl (by decide))
    rw [hY z, tst (md_isRow_ok h1 (by rw [z3]; omega)), if_pos (by rw [z3]; exact e1)]
    dsimp only
    rw [tst (md_isMeasure_ok h2 hI), if_pos (by rw [z16]; exact e2)]
    dsimp only
    rw [if_pos hin, Int.toNat_natCast, z244, tst (md_areTenths_ok hI32 h3), if_pos ⟨e5, e3⟩]
    dsimp only
    rw [tst (md_isIn_ok h4 i_lit i_lit), if_pos e4]
    dsimp only
    rw [if_pos hin, z244, w1, ok_bind]
    dsimp only
    rw [if_pos hin, if_pos hin, w2 _ _ (by omega), w2 _ _ (by omega), z244, z245, v1, ok_bind]
    dsimp only
    by_cases em : mhas (mf s) i x n = true
    · rw [if_pos em] at v3
      have hpos : 0 < sg (lcF (mf s) i n p q) (2 ^ n) := by
        have a1 := sg_ge (f := lcF (mf s) i n p q) (n := 2 ^ n) (k := x) (fun k _ => by unfold lcF; split; exact lw_nn; omega) n4
        have a2 : lcF (mf s) i n p q x = lw p q n (pcf 32 x) := by unfold lcF; rw [if_pos em]
        have a3 : 0 < lw p q n (pcf 32 x) := Int.mul_pos (Int.pow_pos (by omega)) (Int.pow_pos (by omega))
        omega
      have ev : tDiv (w64 v) 193154 = msum (mf s) 27720 i x n := by
        rw [v4 em, ms_few (by omega) em, w64_id (by omega) (by omega)]
        unfold tDiv
        rw [opq_eq, Int.mul_tdiv_cancel_left _ (by decide)]
      have hq : -3991680000000000000 ≤ msum (mf s) 27720 i x n * sg (lcF (mf s) i n p q) (2 ^ n) ∧ msum (mf s) 27720 i x n * sg (lcF (mf s) i n p q) (2 ^ n) ≤ 3991680000000000000 := by
        have b1 := Int.mul_le_mul_of_nonneg_right (a := msum (mf s) 27720 i x n) (b := 3991680) (by omega) hc.1
        have b2 := Int.mul_le_mul_of_nonneg_right (a := -3991680) (b := msum (mf s) 27720 i x n) (by omega) hc.1
        omega
      rw [if_neg (by rw [v3, w32_1]; decide), ev, v2 _ _ (by omega), v2 _ _ (by omega), w3, w4, md_is_ok (by omega) (by omega), ok_bind]
      dsimp only
      rw [md_tells_ok h4, ok_bind, frc_w, if_pos em, Int.mul_comm (sg (lcF (mf s) i n p q) (2 ^ n)) 27720]
      exact ⟨_, rfl, (w2q.tr v2q).tr up01⟩
    · rw [if_neg em] at v3
      rw [if_pos (by rw [v3]; exact w32_0), if_neg em]
      exact ⟨_, rfl, w2q.tr v2q⟩
  by_cases em : mhas (mf s) i x n = true
  · obtain ⟨w, w1, w2⟩ := goY u (Fc.q u2) (by funext k j; exact u2 _ _ (by omega) (by omega)) (u2 _ _ (by decide) (by decide)) (u2 _ _ (by decide) (by decide)) (by rw [u2 _ _ (by decide) (by decide)]; exact n1) (by rw [u2 _ _ (by decide) (by decide)]; exact x1)
    have hpos : 0 < sg (lcF (mf s) i n p q) (2 ^ n) := by
      have a1 := sg_ge (f := lcF (mf s) i n p q) (n := 2 ^ n) (k := x) (fun k _ => by unfold lcF; split; exact lw_nn; omega) n4
      have a2 : lcF (mf s) i n p q x = lw p q n (pcf 32 x) := by unfold lcF; rw [if_pos em]
      have a3 : 0 < lw p q n (pcf 32 x) := Int.mul_pos (Int.pow_pos (by omega)) (Int.pow_pos (by omega))
      omega
    have hq : -3991680000000000000 ≤ msum (mf s) 27720 i x n * sg (lcF (mf s) i n p q) (2 ^ n) ∧ msum (mf s) 27720 i x n * sg (lcF (mf s) i n p q) (2 ^ n) ≤ 3991680000000000000 := by
      have b1 := Int.mul_le_mul_of_nonneg_right (a := msum (mf s) 27720 i x n) (b := 3991680) (by omega) hc.1
      have b2 := Int.mul_le_mul_of_nonneg_right (a := -3991680) (b := msum (mf s) 27720 i x n) (by omega) hc.1
      omega
    rw [if_pos em] at w1
    rw [if_pos em, if_neg (nv_ne (by omega)), if_pos (by omega), u1, ok_bind] at hX
    dsimp only at hX
    rw [u3, u4, hx_part_ok (by omega) (by omega) h4, ok_bind] at hX
    exact Cal.q hX w1 rfl (Fc.q u2) w2 h
  · obtain ⟨w, w1, w2⟩ := goY s Eqh.rf rfl rfl rfl n1 x1
    rw [if_neg em] at w1
    rw [if_neg em, if_pos nv_eq] at hX
    exact Cal.q hX w1 rfl Eqh.rf w2 h
end
