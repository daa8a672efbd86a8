/-! shuffle -/
/-- how many numbers below y have h bits; what they bring -/
def hbn (h : Nat) (y : Nat) : Nat := cnt (fun z => decide (pcf 32 z = h)) y
def hbs (h : Nat) (f : Nat → Int) (y : Nat) : Int := sg (fun z => if pcf 32 z = h then f z else 0) y
theorem cnt_add {f : Nat → Bool} {a : Nat} : ∀ b, cnt f (a + b) = cnt f a + cnt (fun k => f (a + k)) b
  | 0 => rfl
  | b + 1 => by rw [← Nat.add_assoc, cnt, cnt, cnt_add b, Nat.add_assoc]
theorem hbn_pow : ∀ (n h : Nat), n ≤ 31 → hbn h (2 ^ n) = bin n h
  | 0, h, _ => by
    unfold hbn
    cases h with
    | zero => simp [cnt, pcf_zero, bin]
    | succ h => simp [cnt, pcf_zero, bin]
  | n + 1, h, hn => by
    unfold hbn
    rw [Nat.pow_succ, Nat.mul_two, cnt_add]
    have e1 : cnt (fun z => decide (pcf 32 z = h)) (2 ^ n) = bin n h := hbn_pow n h (by omega)
    have e2 : ∀ z, z < 2 ^ n → pcf 32 (2 ^ n + z) = pcf 32 z + 1 := fun z hz => by
      have a1 := pc_split (k := n) (a := 1) (b := z) (by omega) hz
      rw [Nat.mul_one] at a1
      obtain ⟨w, hw⟩ : ∃ w, 32 - n = w + 1 := ⟨31 - n, by omega⟩
      rw [a1, hw, pcf, pcf_big hz (show n ≤ 32 by omega), show 1 / 2 = 0 from rfl, pcf_zero]
    rw [e1]
    cases h with
    | zero =>
      rw [cnt_congr (g := fun _ => false) (fun z hz => by rw [e2 z hz]; exact decide_eq_false (by omega)), bin_0, bin_0]
      have : ∀ m, cnt (fun _ => false) m = 0 := fun m => by
        induction m with
        | zero => rfl
        | succ m ih => rw [cnt, ih]; rfl
      rw [this]
    | succ h =>
      have e3 : cnt (fun z => decide (pcf 32 z = h)) (2 ^ n) = bin n h := hbn_pow n h (by omega)
      rw [cnt_congr (g := fun z => decide (pcf 32 z = h)) (fun z hz => by rw [e2 z hz]; exact decide_eq_decide.mpr (by omega)), e3, bin_s, Nat.add_comm]
theorem hbn_gap {h y z : Nat} (hyz : y ≤ z) (hn : ∀ w, y ≤ w → w < z → pcf 32 w ≠ h) : hbn h z = hbn h y := by
  obtain ⟨d, rfl⟩ := Nat.exists_eq_add_of_le hyz
  induction d with
  | zero => rfl
  | succ d ih =>
    have i := ih (by omega) (fun w h1 h2 => hn w h1 (by omega))
    unfold hbn at i ⊢
    rw [← Nat.add_assoc, cnt, i, decide_eq_false (hn (y + d) (by omega) (by omega))]
    rfl
theorem hbs_gap {h y z : Nat} {f : Nat → Int} (hyz : y ≤ z) (hn : ∀ w, y ≤ w → w < z → pcf 32 w ≠ h) : hbs h f z = hbs h f y := by
  obtain ⟨d, rfl⟩ := Nat.exists_eq_add_of_le hyz
  induction d with
  | zero => rfl
  | succ d ih =>
    have i := ih (by omega) (fun w h1 h2 => hn w h1 (by omega))
    unfold hbs at i ⊢
    rw [← Nat.add_assoc, sg, i, if_neg (hn (y + d) (by omega) (by omega)), Int.add_zero]
theorem hbn_succ {h y : Nat} (hy : pcf 32 y = h) : hbn h (y + 1) = hbn h y + 1 := by
  unfold hbn
  rw [cnt, decide_eq_true hy]
  rfl
theorem hbs_succ {h y : Nat} {f : Nat → Int} (hy : pcf 32 y = h) : hbs h f (y + 1) = hbs h f y + f y := by
  unfold hbs
  rw [sg, if_pos hy]
theorem hbn_mono {h y z : Nat} (hyz : y ≤ z) : hbn h y ≤ hbn h z := by
  obtain ⟨d, rfl⟩ := Nat.exists_eq_add_of_le hyz
  unfold hbn
  rw [cnt_add]
  omega
theorem hbn_same {h y z : Nat} (hyz : y ≤ z) (e : hbn h z = hbn h y) : ∀ w, y ≤ w → w < z → pcf 32 w ≠ h := fun w h1 h2 q => by
  have a := hbn_succ q
  have b := hbn_mono (h := h) h1
  have c := hbn_mono (h := h) (show w + 1 ≤ z by omega)
  omega
section
variable {L : Nat} {s : hh_Sv}
/-- which orders are counted -/
noncomputable def shf (M : Nat → Nat → Int) (i n : Nat) (w own : Int) (z : Nat) : Int := if mhas M i z n = true ∧ (w = 0 → own ≤ msum M 5354228880 i z n) then 1 else 0
theorem hx_ordersWith_ok {i n hb : Nat} {w own : Int} (h : Inv s) (hi : (i : Int) < s 242 16) (hn : 1 ≤ n ∧ n ≤ 16) (hh : hb ≤ n) (ho : -2000000000000 ≤ own ∧ own ≤ 2000000000000) : hx_ordersWith L (170 + 6 * i) (n : Int) (hb : Int) (if w = 0 then own else -8999999999999999999) s = ok L (hbs hb (shf (mf s) i n w own) (2 ^ n)) s := by
  obtain ⟨m1, m2, m3⟩ := h.M
  obtain ⟨k1, k2, -⟩ := me_shL (L := L) (i := i) (by omega)
  have h16 : 2 ^ n ≤ 2 ^ 16 := Nat.pow_le_pow_right (by decide) hn.2
  have hh2 : 2 ^ hb ≤ 2 ^ 16 := Nat.pow_le_pow_right (by decide) (by omega)
  have hbp := Nat.two_pow_pos hb
  have hbb := bin_bd (n := n) (k := hb) (by omega)
  have hle : 2 ^ hb ≤ 2 ^ n := Nat.pow_le_pow_right (by decide) hh
  have esh : iShl 1 (hb : Int) - 1 = ((2 ^ hb - 1 : Nat) : Int) := sh1 (by omega)
  rw [hx_ordersWith_eq, hx_choose_ok (by omega) (by omega), ok_bind, esh]
  dsimp only
  have hN : hbn hb (2 ^ n) = bin n hb := hbn_pow n hb (by omega)
  have step : ∀ (z : Nat) (c : Int) (t : Int), z < 2 ^ n → 0 ≤ t → t < ((bin n hb : Nat) : Int) → hx_ordersWith_b1 L (170 + 6 * i) (n : Int) (if w = 0 then own else -8999999999999999999) ((bin n hb : Nat) : Int) (z : Int) c t s = hx_ordersWith_b2 L (170 + 6 * i) (n : Int) (if w = 0 then own else -8999999999999999999) ((bin n hb : Nat) : Int) (z : Int) (c + shf (mf s) i n w own z) t s := by
    intro z c t hz ht0 ht
    have hms := ms_big (x := z) (n := n) h hi hz (by omega)
    rw [hx_ordersWith_b1_eq, if_pos (lCmp_lt.mpr (by rw [w64_id (by omega) (by omega), w64_id (by omega) (by omega)]; omega)), if_pos k1, me_reckon_ok h hi hz (by omega) (by decide), ok_bind]
    dsimp only
    unfold shf
    by_cases em : mhas (mf s) i z n = true
    · rw [if_pos em]
      by_cases ew : w = 0
      · rw [if_pos ew]
        by_cases eo : own ≤ msum (mf s) 5354228880 i z n
        · rw [if_neg (fun q => by
            have := lCmp_lt.mp q
            rw [w64_id (by omega) (by omega), w64_id (by omega) (by omega)] at this
            omega), if_pos ⟨em, fun _ => eo⟩]
        · rw [if_pos (lCmp_lt.mpr (by rw [w64_id (by omega) (by omega), w64_id (by omega) (by omega)]; omega)), if_neg (fun q => eo (q.2 ew)), Int.add_zero]
      · rw [if_neg ew, if_neg (fun q => by
            have := lCmp_lt.mp q
            rw [w64_id (by omega) (by omega), w64_id (by omega) (by omega)] at this
            omega), if_pos ⟨em, fun q => absurd q ew⟩]
    · rw [if_neg em]
      by_cases ew : w = 0
      · rw [if_pos ew, if_pos (lCmp_lt.mpr (by rw [w64_id (by omega) (by omega), w64_id (by omega) (by omega)]; omega)), if_neg (fun q => em q.1), Int.add_zero]
      · rw [if_neg ew, if_pos (lCmp_lt.mpr (by rw [w64_id (by omega) (by omega), w64_id (by omega) (by omega)]; omega)), if_neg (fun q => em q.1), Int.add_zero]
  by_cases h0 : hb = 0
  · subst h0
    have e1 : bin n 0 = 1 := bin_0 n
    rw [e1] at step hN ⊢
    have e2 := step 0 0 0 (Nat.two_pow_pos n) (by decide) (by decide)
    have e3 : hx_nextAlike L 0 s = ok L 0 s := by
      rw [hx_nextAlike_eq]
      have : bAnd 0 (-0) = 0 := by
        unfold bAnd
        rw [opq_eq]
        decide
      rw [this, if_pos w32_0]
    have e2 : hx_ordersWith_b1 L (170 + 6 * i) (n : Int) (if w = 0 then own else -8999999999999999999) ((1 : Nat) : Int) ((2 ^ 0 - 1 : Nat) : Int) 0 0 s = hx_ordersWith_b2 L (170 + 6 * i) (n : Int) (if w = 0 then own else -8999999999999999999) ((1 : Nat) : Int) 0 (0 + shf (mf s) i n w own 0) 0 s := e2
    rw [e2, hx_ordersWith_b2_eq, e3, ok_bind]
    dsimp only
    rw [hx_ordersWith_b1_eq, if_neg (fun q => by
      have := lCmp_lt.mp q
      rw [w64_id (by decide) (by decide), w64_id (by decide) (by decide)] at this
      omega)]
    have e4 : hbs 0 (shf (mf s) i n w own) (0 + 1) = hbs 0 (shf (mf s) i n w own) 0 + shf (mf s) i n w own 0 := hbs_succ (pcf_zero 32)
    have e5 : hbn 0 (0 + 1) = hbn 0 0 + 1 := hbn_succ (pcf_zero 32)
    have hnp := Nat.two_pow_pos n
    rw [hbs_gap (y := 0 + 1) (by omega) (hbn_same (by omega) (by rw [hN, e5]; rfl)), e4]
    rfl
  have key : ∀ (r t z : Nat), t + r = bin n hb → z < 1048576 → pcf 32 z = hb → hbn hb z = t → hx_ordersWith_b1 L (170 + 6 * i) (n : Int) (if w = 0 then own else -8999999999999999999) ((bin n hb : Nat) : Int) (z : Int) (hbs hb (shf (mf s) i n w own) z) (t : Int) s = ok L (hbs hb (shf (mf s) i n w own) (2 ^ n)) s := by
    intro r
    induction r with
    | zero =>
      intro t z e hz pz nz
      have hge : 2 ^ n ≤ z := by
        apply Classical.byContradiction
        intro hlt
        have a := hbn_succ pz
        have b := hbn_mono (h := hb) (show z + 1 ≤ 2 ^ n by omega)
        omega
      rw [hx_ordersWith_b1_eq, if_neg (fun q => by
        have := lCmp_lt.mp q
        rw [w64_id (by omega) (by omega), w64_id (by omega) (by omega)] at this
        omega), hbs_gap hge (hbn_same hge (by omega))]
    | succ r ih =>
      intro t z e hz pz nz
      have hlt : z < 2 ^ n := by
        apply Classical.byContradiction
        intro hge
        have b := hbn_mono (h := hb) (show 2 ^ n ≤ z by omega)
        omega
      have hz0 : z ≠ 0 := fun q => by
        rw [q, pcf_zero] at pz
        omega
      obtain ⟨j, m, a, hx, t1, t2⟩ := run_split hz0
      obtain ⟨e1, hK⟩ := hx_nextAlike_ok (L := L) (s := s) hx (by omega) t1 t2
      obtain ⟨p1, p2⟩ := nx_pc hx (by omega)
      have hnone := fun y a1 a2 => nx_none (y := y) hx (by omega) a1 a2
      have hnb : nx j m a < 1048576 := by
        have hl := nx_low (j := j) (m := m)
        have hp := Nat.two_pow_pos j
        have hmle : 2 ^ m ≤ 2 ^ (j + (m + 1)) := Nat.pow_le_pow_right (by decide) (by omega)
        have hx2 := hx
        rw [nx_pw] at hx2
        have hmul : 2 ^ (j + (m + 1)) * (2 * a + 1) = 2 ^ (j + (m + 1)) * (2 * a) + 2 ^ (j + (m + 1)) := by rw [Nat.mul_add, Nat.mul_one]
        unfold nx
        have : 2 ^ j ≤ 2 ^ j * (2 ^ (m + 1) - 1) := by
          have hq : 2 ≤ 2 ^ (m + 1) := by rw [Nat.pow_succ]; have := Nat.two_pow_pos m; omega
          exact Nat.le_mul_of_pos_right _ (by omega)
        omega
      rw [step z _ (t : Int) hlt (by omega) (by omega), hx_ordersWith_b2_eq, e1, ok_bind]
      dsimp only
      have g1 : hbn hb (nx j m a) = hbn hb (z + 1) := hbn_gap (by omega) (fun y a1 a2 => by rw [← pz]; exact hnone y (by omega) a2)
      have g2 : hbs hb (shf (mf s) i n w own) (nx j m a) = hbs hb (shf (mf s) i n w own) (z + 1) := hbs_gap (by omega) (fun y a1 a2 => by rw [← pz]; exact hnone y (by omega) a2)
      have := ih (t + 1) (nx j m a) (by omega) hnb (by rw [p1]; exact pz) (by rw [g1, hbn_succ pz, nz])
      rw [g2, hbs_succ pz] at this
      exact this
  have pz : pcf 32 (2 ^ hb - 1) = hb := pcf_ones (by omega)
  have hnone0 : ∀ y, 0 ≤ y → y < 2 ^ hb - 1 → pcf 32 y ≠ hb := fun y _ hy => by
    rw [pcf_big (show y < 2 ^ hb by omega) (show hb ≤ 32 by omega)]
    have := pcf_less hy
    omega
  have f0 := key (bin n hb) 0 (2 ^ hb - 1) (by omega) (by omega) pz (by rw [hbn_gap (Nat.zero_le _) hnone0]; rfl)
  rw [hbs_gap (Nat.zero_le _) hnone0] at f0
  exact f0
theorem shf_bd {M : Nat → Nat → Int} {i n hb m : Nat} {w own : Int} : 0 ≤ hbs hb (shf M i n w own) m ∧ hbs hb (shf M i n w own) m ≤ m := by
  have hb1 : ∀ k, 0 ≤ (if pcf 32 k = hb then shf M i n w own k else 0) ∧ (if pcf 32 k = hb then shf M i n w own k else 0) ≤ 1 := fun k => by
    unfold shf
    (repeat' split) <;> omega
  have a := sg_nn (f := fun z => if pcf 32 z = hb then shf M i n w own z else 0) (n := m) (fun k _ => (hb1 k).1)
  have b := sg_le (f := fun z => if pcf 32 z = hb then shf M i n w own z else 0) (c := 1) (n := m) (fun k _ => (hb1 k).2)
  unfold hbs
  omega
theorem md_shuffle_lp {i n hb : Nat} {w own : Int} (hw : I32 w) (h : Inv s) (hi : (i : Int) < s 242 16) (hn : 1 ≤ n ∧ n ≤ 16) (hh : hb ≤ n) (ho : -2000000000000 ≤ own ∧ own ≤ 2000000000000) : ∃ u, md_shuffle_b4 L (i : Int) w (n : Int) own (hb : Int) 0 0 0 s = ok L (if w = 0 then hbs hb (shf (mf s) i n 0 own) (2 ^ n) else hbs hb (shf (mf s) i n 1 own) (2 ^ n)) u ∧ Fr 40 42 s u := by
  obtain ⟨m1, m2, m3⟩ := h.M
  have h16 : 2 ^ n ≤ 2 ^ 16 := Nat.pow_le_pow_right (by decide) hn.2
  have esh : iShl 1 (n : Int) = ((2 ^ n : Nat) : Int) := by rw [iShl_id rfl (by omega), Int.one_mul, p2_c]
  have key : ∀ (j r : Nat) (u : hh_Sv), r + j = 2 ^ n → Fr 40 42 s u → ∃ v, md_shuffle_b4 L (i : Int) w (n : Int) own (hb : Int) (hbs hb (shf (mf s) i n 0 own) r) (hbs hb (shf (mf s) i n 1 own) r) (r : Int) u = ok L (if w = 0 then hbs hb (shf (mf s) i n 0 own) (2 ^ n) else hbs hb (shf (mf s) i n 1 own) (2 ^ n)) v ∧ Fr 40 42 s v := by
    intro j
    induction j with
    | zero =>
      intro r u e g
      rw [Nat.add_zero] at e
      subst e
      rw [md_shuffle_b4_eq, esh, if_neg (by omega), hw.w]
      by_cases ew : w = 0
      · rw [if_pos ew, if_pos ew]
        exact ⟨u, rfl, g⟩
      · rw [if_neg ew, if_neg ew]
        exact ⟨u, rfl, g⟩
    | succ j ih =>
      intro r u e g
      have hr : r < 2 ^ n := by omega
      have hpc : pcf 32 r ≤ n := by rw [pcf_big hr (by omega)]; exact pcf_le n r
      have hI : Inv u := (g.q (by decide) (Or.inl (by decide))).I h
      have hms := ms_big (x := r) (n := n) h hi hr (by omega)
      rw [md_shuffle_b4_eq, esh, if_pos (by rw [w32_id (by omega) (by omega), w32_id (by omega) (by omega)]; omega), md_bits_all L (by omega), ok_bind]
      dsimp only
      rw [w32_id (i := ((pcf 32 r : Nat) : Int)) (by omega) (by omega), w32_id (i := (hb : Int)) (by omega) (by omega)]
      by_cases ep : pcf 32 r = hb
      · obtain ⟨v, y, v1, v2, v3, v4⟩ := md_valueOf_ok (L := L) hI (i := i) (x := r) (n := n) (by rw [g _ _ (by omega)]; exact hi) hr (by omega)
        rw [g.mf] at v3 v4
        rw [if_pos (by omega), v1, ok_bind]
        dsimp only
        obtain ⟨q, q1, q2⟩ := ih (r + 1) y (by omega) (g.tr v2)
        rw [hbs_succ ep, hbs_succ ep] at q1
        refine ⟨q, ?_, q2⟩
        rw [← q1]
        unfold shf
        by_cases em : mhas (mf s) i r n = true
        · rw [if_pos em] at v3
          rw [if_neg (by rw [v3, w32_1]; decide), v4 em, if_pos (show mhas (mf s) i r n = true ∧ ((1 : Int) = 0 → own ≤ msum (mf s) 5354228880 i r n) from ⟨em, fun q => absurd q (by decide)⟩)]
          by_cases eo : own ≤ msum (mf s) 5354228880 i r n
          · rw [if_neg (fun q => by
              have := lCmp_lt.mp q
              rw [w64_id (by omega) (by omega), w64_id (by omega) (by omega)] at this
              omega), if_pos ⟨em, fun _ => eo⟩, md_shuffle_b8_eq]
            have e1 : md_one L 1 y = ok L 1 y := md_one_ok (o := 1) (Or.inr rfl)
            rw [e1, ok_bind]
            dsimp only
            rw [w32_1]
            rfl
          · rw [if_pos (lCmp_lt.mpr (by rw [w64_id (by omega) (by omega), w64_id (by omega) (by omega)]; omega)), if_neg (fun q => eo (q.2 rfl)), md_shuffle_b8_eq]
            have e1 : md_one L 0 y = ok L 0 y := md_one_ok (o := 0) (Or.inl rfl)
            rw [e1, ok_bind]
            dsimp only
            rw [w32_0]
            rfl
        · rw [if_neg em] at v3
          rw [if_pos (by rw [v3]; exact w32_0), if_neg (fun q => em q.1), if_neg (fun q => em q.1), Int.add_zero, Int.add_zero]
          rfl
      · rw [if_neg (by omega)]
        obtain ⟨q, q1, q2⟩ := ih (r + 1) u (by omega) g
        refine ⟨q, ?_, q2⟩
        rw [hbs_gap (y := r) (z := r + 1) (by omega) (fun w' a1 a2 => by rw [show w' = r by omega]; exact ep), hbs_gap (y := r) (z := r + 1) (by omega) (fun w' a1 a2 => by rw [show w' = r by omega]; exact ep)] at q1
        exact q1
  exact key (2 ^ n) 0 s (by omega) Fr.rf
theorem c_shuffle {a1 a2 a3 : Int} (h1 : I32 a1) (h2 : I32 a2) (h3 : I32 a3) (h : Inv s) : Cal L s (hx_shuffle L a1 a2 a3) (md_shuffle L a1 a2 a3) w64 := by
  obtain ⟨R1, R2, R3⟩ := h.R
  obtain ⟨M1, M2, M3⟩ := h.M
  have hX := hx_shuffle_eq L a1 a2 a3 s
  have hY := md_shuffle_eq L a1 a2 a3 s
  rw [tst (co_hasRow_ok h1 (by omega))] at hX
  rw [tst (md_isRow_ok h1 (by omega))] at hY
  by_cases e1 : 0 ≤ a1 ∧ a1 < s 242 3
  case neg => exact Cal.pure (hX.trans (if_neg (by omega))) (hY.trans (if_neg e1)) rfl h
  rw [if_pos (by omega)] at hX
  rw [if_pos e1] at hY
  dsimp only at hX hY
  rw [tst (hx_isMeasure_ok h2 h)] at hX
  rw [tst (md_isMeasure_ok h2 h)] at hY
  by_cases e2 : 0 ≤ a2 ∧ a2 < s 242 16
  case neg => exact Cal.pure (hX.trans (if_neg e2)) (hY.trans (if_neg e2)) rfl h
  rw [if_pos e2] at hX hY
  dsimp only at hX hY
  rw [tst (hx_isIn_ok h3 i_lit i_lit)] at hX
  rw [tst (md_isIn_ok h3 i_lit i_lit)] at hY
  by_cases e3 : 0 ≤ a3 ∧ a3 ≤ 1
  case neg => exact Cal.pure (hX.trans (if_neg e3)) (hY.trans (if_neg e3)) rfl h
  rw [if_pos e3] at hX hY
  dsimp only at hX hY
  obtain ⟨r, rfl⟩ := Int.eq_ofNat_of_zero_le e1.1
  obtain ⟨i, rfl⟩ := Int.eq_ofNat_of_zero_le e2.1
  obtain ⟨x, n, x1, x2, n1, n2, n3, n4, n5⟩ := row_x h e1.2
  have hin : (0 : Int) ≤ (r : Int) ∧ (r : Int) < 60 := by omega
  have hI32 : I32 (n : Int) := ⟨by omega, by omega⟩
  obtain ⟨k1, k2, -⟩ := me_shL (L := L) (i := i) (by omega)
  obtain ⟨v, u, v1, v2, v3, v4⟩ := md_valueOf_ok (L := L) h e2.2 n4 n3
  have v2q := v2.q (by decide) (Or.inl (by decide))
  rw [if_pos hin, Int.toNat_natCast, n2, tst (hx_isIn_ok hI32 i_lit i_lit)] at hX
  rw [if_pos hin, Int.toNat_natCast] at hY
  by_cases e5 : 1 ≤ (n : Int) ∧ (n : Int) ≤ 16
  case neg =>
    by_cases e6 : 16 < (n : Int)
    · exact Cal.pure (hX.trans (if_neg e5)) (hY.trans (if_pos (by rw [n1, hI32.w]; exact e6))) rfl h
    · have em : ¬ mhas (mf s) i x n = true := fun q => by
        unfold mhas at q
        rw [Bool.and_eq_true, decide_eq_true_eq] at q
        omega
      rw [if_neg em] at v3
      rw [if_neg (by rw [n1, hI32.w]; exact e6), if_pos hin, if_pos hin, n1, x1, v1, ok_bind] at hY
      dsimp only at hY
      rw [if_pos (by rw [v3]; exact w32_0)] at hY
      exact Cal.q (hX.trans (if_neg e5)) hY rfl Eqh.rf v2q h
  rw [if_pos e5] at hX
  rw [if_neg (by rw [n1, hI32.w]; omega), if_pos hin, if_pos hin, n1, x1, v1, ok_bind] at hY
  dsimp only at hX hY
  rw [if_pos (by omega), if_pos hin, Int.toNat_natCast, k2, if_pos k1, x2, me_reckon_ok h e2.2 n4 n3 (by decide), ok_bind] at hX
  dsimp only at hX
  by_cases em : mhas (mf s) i x n = true
  case neg =>
    rw [if_neg em] at v3
    rw [if_neg em, if_pos nv_eq] at hX
    rw [if_pos (by rw [v3]; exact w32_0)] at hY
    exact Cal.q hX hY rfl Eqh.rf v2q h
  have hb := ms_big h e2.2 n4 n3
  have hpc : pcf 32 x ≤ n := by rw [pcf_big n4 (by omega)]; exact pcf_le n x
  rw [if_pos em] at v3
  rw [if_pos em, if_neg (nv_ne (by omega)), if_pos (by omega), if_pos hin, x2, jin_bitCount_ok L (by omega), ok_bind, h3.w] at hX
  dsimp only at hX
  have b6 : ∀ z : Int, hx_shuffle_b6 L (170 + 6 * i) (n : Int) ((pcf 32 x : Nat) : Int) (if z = 0 then msum (mf s) 5354228880 i x n else -8999999999999999999) s = ok L (hbs (pcf 32 x) (shf (mf s) i n z (msum (mf s) 5354228880 i x n)) (2 ^ n)) s := fun z => by
    rw [hx_shuffle_b6_eq, hx_ordersWith_ok h e2.2 (by omega) hpc hb, ok_bind]
  obtain ⟨y, y1, y2⟩ := md_shuffle_lp (L := L) (i := i) (n := n) (hb := pcf 32 x) (own := msum (mf s) 5354228880 i x n) h3 (v2q.I h) (by rw [v2 _ _ (by omega)]; exact e2.2) (by omega) hpc hb
  rw [v2.mf] at y1
  rw [if_neg (by rw [v3, w32_1]; decide), if_pos hin, v2 _ _ (by omega), x1, md_bits_all L (by omega), ok_bind, v4 em] at hY
  dsimp only at hY
  rw [y1] at hY
  have y2q := y2.q (by decide) (Or.inl (by decide))
  by_cases ew : a3 = 0
  · have b0 := b6 0
    rw [if_pos rfl] at b0
    rw [if_pos ew, b0] at hX
    rw [if_pos ew] at hY
    exact Cal.q hX hY rfl Eqh.rf (v2q.tr y2q) h
  · have b1 := b6 1
    rw [if_neg (by decide)] at b1
    rw [if_neg ew, b1] at hX
    rw [if_neg ew] at hY
    exact Cal.q hX hY rfl Eqh.rf (v2q.tr y2q) h
end
