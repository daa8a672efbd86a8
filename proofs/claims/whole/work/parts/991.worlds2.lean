/-! worlds: the reference, the call -/
section
variable {L : Nat} {s : hh_Sv}
theorem md_worlds_lp {t n m i : Nat} {rs : List Ru} {a5 Z0 zz : Int} (h : Inv s) (ht : t < 12) (hS : ru_S s t rs) (hi : (i : Int) < s 242 16) (hn : 1 ≤ n ∧ n ≤ 24) (hm : m ≤ 60) (h5 : I32 a5) (hzz : zz = s 242 4) : ∀ (j w : Nat) (u : hh_Sv), w + j = m → FW s u → u 242 4 % 18446744073709551616 = wZ n Z0 w → ∃ y, md_worlds_b3 L (t : Int) (n : Int) (m : Int) (i : Int) a5 zz (sg (wvF (mf s) rs i n Z0) w) (sg (wcF (mf s) rs i n Z0) w) (w : Int) u = ok L (wAns a5 (sg (wvF (mf s) rs i n Z0) m) (sg (wcF (mf s) rs i n Z0) m)) y ∧ Eqh s y := by
  have hM := h.M
  have v0 : VB (fun _ => 0) 100 := fun k _ => by show (0 : Int) ≤ 0 ∧ (0 : Int) ≤ 100; omega
  have t16 : t < 16 := by omega
  have inner : ∀ (Z V C w : Int) (j k : Nat) (u : hh_Sv), k + j = n → FW s u → asM u (dV rs (fun _ => 0) Z k) → u 242 4 % 18446744073709551616 = dZ Z k → ∃ u', FW s u' ∧ u' 242 4 % 18446744073709551616 = dZ Z n ∧ md_worlds_b4 L (t : Int) (n : Int) (m : Int) (i : Int) a5 zz V C w ((wX rs Z k : Nat) : Int) (k : Int) u = md_worlds_b4 L (t : Int) (n : Int) (m : Int) (i : Int) a5 zz V C w ((wX rs Z n : Nat) : Int) (n : Int) u' := by
    intro Z V C w j
    induction j with
    | zero =>
      intro k u e g a gz
      rw [Nat.add_zero] at e
      subst e
      exact ⟨u, g, gz, rfl⟩
    | succ j ih =>
      intro k u e g a gz
      have hvb := dV_bd (Z := Z) hS.ok (by decide) v0 k
      obtain ⟨b1, b2⟩ := aimd_bd (v := dV rs (fun _ => 0) Z k) hS.ok
      obtain ⟨p, p1, p2, p3⟩ := md_hardNow_ok (L := L) (g.lw h.lw) t16 (FW.S h.lw g t16 hS) a hvb (by omega)
      have gp := g.tr p2.w
      obtain ⟨o, o1, o2, o3⟩ := md_guardNow_ok (L := L) (gp.lw h.lw) t16 (FW.S h.lw gp t16 hS) p3 (hvb.p45 (by omega) (by omega)) (by omega) (a := hdN rs (dV rs (fun _ => 0) Z k)) (by omega)
      have eg : gdN rs (s45 (dV rs (fun _ => 0) Z k) 0 0) (hdN rs (dV rs (fun _ => 0) Z k)) = gdN rs (dV rs (fun _ => 0) Z k) (hdN rs (dV rs (fun _ => 0) Z k)) := by unfold gdN; rw [s45_s45]
      rw [eg] at o1
      rw [s45_s45] at o3
      have go := gp.tr o2.w
      have eo4 : o 242 4 = u 242 4 := by rw [o2 _ _ (by decide) (by decide), p2 _ _ (by decide) (by decide)]
      have dr := md_draws_ok (L := L) (s := o) (Z := Z) (i := k) (by rw [eo4]; exact gz)
      have hz := dZ_next gz
      generalize hX : up o 242 4 (o 242 4 * 6364136223846793005 + 1442695040888963407) = X at dr
      have gX0 : ∀ k j, ¬ (k = 242 ∧ j = 4) → X k j = o k j := fun k j hk => by
        rw [← hX]
        unfold up
        rw [if_neg hk]
      have zX : X 242 4 % 18446744073709551616 = dZ Z (k + 1) := by rw [← hX, up_s, eo4]; exact hz
      have gX : FW s X := fun k j h1 h2 h3 => by
        rw [gX0 k j (by omega)]
        exact go k j h1 h2 h3
      have aX : asM X (s45 (dV rs (fun _ => 0) Z k) (hdN rs (dV rs (fun _ => 0) Z k)) 0) := fun k hk => by
        rw [gX0 _ _ (by omega)]
        exact o3 k hk
      obtain ⟨y, y1, y2, y3⟩ := md_chanceNow_ok (L := L) (gX.lw h.lw) t16 (FW.S h.lw gX t16 hS) aX (hvb.p45 (by omega) (by omega)) (by omega) (a := hdN rs (dV rs (fun _ => 0) Z k)) (b := gdN rs (dV rs (fun _ => 0) Z k) (hdN rs (dV rs (fun _ => 0) Z k))) (by omega) (by omega)
      rw [s45_s45] at y1 y3
      have gy := gX.tr y2.w
      have chb := chV_bd (rs := rs) (v := aimd rs (dV rs (fun _ => 0) Z k))
      obtain ⟨x, x1, x2, x3⟩ := md_goesOn_ok (L := L) (b := dB rs (fun _ => 0) Z k) (gy.lw h.lw) t16 (FW.S h.lw gy t16 hS) y3 (VB.aim hS.ok (show (3 : Int) ≤ 100 + (k : Int) by omega) hvb) (by omega) (a := hdN rs (dV rs (fun _ => 0) Z k)) (c := gdN rs (dV rs (fun _ => 0) Z k) (hdN rs (dV rs (fun _ => 0) Z k))) (by omega) (by omega)
      have es : s45 (s45 (dV rs (fun _ => 0) Z k) (hdN rs (dV rs (fun _ => 0) Z k)) (gdN rs (dV rs (fun _ => 0) Z k) (hdN rs (dV rs (fun _ => 0) Z k)))) (hdN rs (dV rs (fun _ => 0) Z k)) (gdN rs (dV rs (fun _ => 0) Z k) (hdN rs (dV rs (fun _ => 0) Z k))) = aimd rs (dV rs (fun _ => 0) Z k) := s45_s45
      rw [es] at x3
      obtain ⟨u', q1, q2, q3⟩ := ih (k + 1) x (by omega) (gy.tr x2.w) x3 (by rw [x2 _ _ (by decide) (by decide), y2 _ _ (by decide) (by decide)]; exact zX)
      refine ⟨u', q1, q2, ?_⟩
      have b6 : md_worlds_b6 L (t : Int) (n : Int) (m : Int) (i : Int) a5 zz V C w ((wX rs Z k : Nat) : Int) (k : Int) (hdN rs (dV rs (fun _ => 0) Z k)) (gdN rs (dV rs (fun _ => 0) Z k) (hdN rs (dV rs (fun _ => 0) Z k))) (((dB rs (fun _ => 0) Z k).toNat : Nat) : Int) y = md_worlds_b4 L (t : Int) (n : Int) (m : Int) (i : Int) a5 zz V C w ((wX rs Z (k + 1) : Nat) : Int) ((k : Int) + 1) x := by
        rw [md_worlds_b6_eq, md_one_ok (by have := Bool.toNat_le (dB rs (fun _ => 0) Z k); omega), ok_bind]
        dsimp only
        rw [x1, ok_bind, iShl_id rfl (by omega), ← p2_c, ← Int.natCast_mul, wX_or (by omega)]
      rw [← q3, md_worlds_b4_eq, if_pos (by rw [w32_id (by omega) (by omega), w32_id (by omega) (by omega)]; omega), p1, ok_bind]
      dsimp only
      rw [o1, ok_bind]
      dsimp only
      rw [dr, ok_bind]
      dsimp only
      have y1 : md_chanceNow L (t : Int) (hdN rs (dV rs (fun _ => 0) Z k)) (gdN rs (dV rs (fun _ => 0) Z k) (hdN rs (dV rs (fun _ => 0) Z k))) X = ok L (chV rs (aimd rs (dV rs (fun _ => 0) Z k))) y := y1
      rw [y1, ok_bind]
      dsimp only
      rw [w32_id (i := dZ Z (k + 1) / 8589934592 % 100) (by omega) (by omega), w32_id (i := chV rs (aimd rs (dV rs (fun _ => 0) Z k))) (by omega) (by omega)]
      have eb : dB rs (fun _ => 0) Z k = decide (dZ Z (k + 1) / 8589934592 % 100 < chV rs (aimd rs (dV rs (fun _ => 0) Z k))) := rfl
      by_cases qb : dZ Z (k + 1) / 8589934592 % 100 < chV rs (aimd rs (dV rs (fun _ => 0) Z k))
      · rw [eb, decide_eq_true qb] at b6
        rw [if_pos qb]
        exact b6
      · rw [eb, decide_eq_false qb] at b6
        rw [if_neg qb]
        exact b6
  have hC := wcF_bd (M := mf s) (rs := rs) (i := i) (n := n) (Z := Z0) m
  have hV := wvF_bd (rs := rs) (n := n) (Z := Z0) h hi hn.2 m
  intro j
  induction j with
  | zero =>
    intro w u e g gz
    rw [Nat.add_zero] at e
    subst e
    have gE : Eqh s (up u 242 4 zz) := fun k j hk => by
      by_cases e4 : k = 242 ∧ j = 4
      · rw [e4.1, e4.2, up_s, hzz]
      · unfold up
        rw [if_neg e4]
        refine g k j (fun e => hk (by subst e; exact ⟨by unfold scr; omega, by decide, by omega⟩)) (fun e => hk (by subst e; exact ⟨by unfold scr; omega, by decide, by omega⟩)) (fun e => ?_)
        rcases e with ⟨rfl, e | e⟩
        · exact e4 ⟨rfl, e⟩
        · exact hk (scr_f (by omega))
    rw [md_worlds_b3_eq, if_neg (by omega), h5.w]
    unfold wAns
    by_cases e5 : a5 = 2
    · rw [if_pos e5, if_pos e5]
      exact ⟨_, rfl, gE⟩
    · rw [if_neg e5, if_neg e5]
      by_cases e0 : sg (wcF (mf s) rs i n Z0) w = 0
      · rw [if_pos ((lc_zero ⟨by omega, by omega⟩).mpr e0), if_pos e0]
        exact ⟨_, rfl, gE⟩
      · rw [if_neg (fun q => e0 ((lc_zero ⟨by omega, by omega⟩).mp q)), if_neg e0, Int.mul_comm (sg (wcF (mf s) rs i n Z0) w), md_is_ok (by omega) (by omega), ok_bind]
        dsimp only
        rw [md_tells_ok h5, ok_bind, frc_w]
        exact ⟨_, rfl, gE.tr up01⟩
  | succ j ih =>
    intro w u e g gz
    obtain ⟨c, c1, c2, c3⟩ := md_begins_ok (L := L) (s := u)
    obtain ⟨u', q1, q2, q3⟩ := inner (wZ n Z0 w) (sg (wvF (mf s) rs i n Z0) w) (sg (wcF (mf s) rs i n Z0) w) (w : Int) n 0 c (by omega) (g.tr c2.w) c3 (by rw [c2 _ _ (by decide) (by decide)]; exact gz)
    have q3 : md_worlds_b4 L (t : Int) (n : Int) (m : Int) (i : Int) a5 zz (sg (wvF (mf s) rs i n Z0) w) (sg (wcF (mf s) rs i n Z0) w) (w : Int) 0 0 c = _ := q3
    have hb := ms_big h hi (wX_lt (rs := rs) (Z := wZ n Z0 w) n) hn.2
    have emf : mf u' = mf s := by
      funext a b
      exact q1 _ _ (by omega) (by omega) (by omega)
    obtain ⟨v, y, v1, v2, v3, v4⟩ := md_valueOf_M (L := L) (q1.mm h.1.2.2.2.2.1) (i := i) (x := wX rs (wZ n Z0 w) n) (n := n) (by rw [q1 _ _ (by decide) (by decide) (by decide)]; exact hi) (wX_lt n) hn.2
    rw [emf] at v3 v4
    have gy : FW s y := q1.tr (fun k j a b c => v2 k j (by omega))
    have s1 : sg (wvF (mf s) rs i n Z0) (w + 1) = sg (wvF (mf s) rs i n Z0) w + wvF (mf s) rs i n Z0 w := rfl
    have s2 : sg (wcF (mf s) rs i n Z0) (w + 1) = sg (wcF (mf s) rs i n Z0) w + wcF (mf s) rs i n Z0 w := rfl
    have hnx := ih (w + 1) y (by omega) gy (by rw [v2 _ _ (by omega)]; exact q2)
    rw [s1, s2] at hnx
    rw [md_worlds_b3_eq, if_pos (by rw [w32_id (by omega) (by omega), w32_id (by omega) (by omega)]; omega), c1, ok_bind]
    dsimp only
    rw [q3, md_worlds_b4_eq, if_neg (by omega), v1, ok_bind]
    dsimp only
    by_cases em : mhas (mf s) i (wX rs (wZ n Z0 w) n) n = true
    · have e1 : wvF (mf s) rs i n Z0 w = msum (mf s) 5354228880 i (wX rs (wZ n Z0 w) n) n := by unfold wvF; rw [if_pos em]
      have e2 : wcF (mf s) rs i n Z0 w = 1 := by unfold wcF; rw [if_pos em]
      rw [e1, e2] at hnx
      rw [if_pos em] at v3
      rw [if_neg (by rw [v3, w32_1]; decide), v4 em]
      exact hnx
    · have e1 : wvF (mf s) rs i n Z0 w = 0 := by unfold wvF; rw [if_neg em]
      have e2 : wcF (mf s) rs i n Z0 w = 0 := by unfold wcF; rw [if_neg em]
      rw [e1, e2, Int.add_zero, Int.add_zero] at hnx
      rw [if_neg em] at v3
      rw [if_pos (by rw [v3]; exact w32_0)]
      exact hnx
theorem c_worlds {a1 a2 a3 a4 a5 : Int} (h1 : I32 a1) (h2 : I32 a2) (h3 : I32 a3) (h4 : I32 a4) (h5 : I32 a5) (h : Inv s) : Cal L s (hx_worlds L a1 a2 a3 a4 a5) (md_worlds L a1 a2 a3 a4 a5) w64 := by
  obtain ⟨T1, T2, T3⟩ := h.T
  obtain ⟨M1, M2, M3⟩ := h.M
  have hX := hx_worlds_eq L a1 a2 a3 a4 a5 s
  have hY := fun z => md_worlds_eq L a1 a2 a3 a4 a5 z
  have hY0 := hY s
  rw [tst (co_hasThrower_ok h1 (by omega))] at hX
  rw [tst (md_isThrower_ok h1 (by omega))] at hY0
  by_cases e1 : 0 ≤ a1 ∧ a1 < s 242 2
  case neg => exact Cal.pure (hX.trans (if_neg (by omega))) (hY0.trans (if_neg e1)) rfl h
  rw [if_pos (by omega)] at hX
  rw [if_pos e1] at hY0
  dsimp only at hX hY0
  rw [tst (hx_isIn_ok h2 i_lit i_lit)] at hX
  rw [tst (md_isIn_ok h2 i_lit i_lit)] at hY0
  by_cases e2 : 1 ≤ a2 ∧ a2 ≤ 24
  case neg => exact Cal.pure (hX.trans (if_neg e2)) (hY0.trans (if_neg e2)) rfl h
  rw [if_pos e2] at hX hY0
  dsimp only at hX hY0
  rw [tst (hx_isIn_ok h3 i_lit i_lit)] at hX
  rw [tst (md_isIn_ok h3 i_lit i_lit)] at hY0
  by_cases e3 : 1 ≤ a3 ∧ a3 ≤ 60
  case neg => exact Cal.pure (hX.trans (if_neg e3)) (hY0.trans (if_neg e3)) rfl h
  rw [if_pos e3] at hX hY0
  dsimp only at hX hY0
  rw [tst (hx_isMeasure_ok h4 h)] at hX
  rw [tst (md_isMeasure_ok h4 h)] at hY0
  by_cases e4 : 0 ≤ a4 ∧ a4 < s 242 16
  case neg => exact Cal.pure (hX.trans (if_neg e4)) (hY0.trans (if_neg e4)) rfl h
  rw [if_pos e4] at hX hY0
  dsimp only at hX hY0
  rw [tst (hx_isIn_ok h5 i_lit i_lit)] at hX
  rw [tst (md_isIn_ok h5 i_lit i_lit)] at hY0
  by_cases e5 : 0 ≤ a5 ∧ a5 ≤ 2
  case neg => exact Cal.pure (hX.trans (if_neg e5)) (hY0.trans (if_neg e5)) rfl h
  rw [if_pos e5] at hX
  dsimp only at hX
  obtain ⟨t, rfl⟩ := Int.eq_ofNat_of_zero_le e1.1
  obtain ⟨n, rfl⟩ := Int.eq_ofNat_of_zero_le (show 0 ≤ a2 by omega)
  obtain ⟨m, rfl⟩ := Int.eq_ofNat_of_zero_le (show 0 ≤ a3 by omega)
  obtain ⟨i, rfl⟩ := Int.eq_ofNat_of_zero_le e4.1
  obtain ⟨rs, hS⟩ := h.law (t := t) (by omega)
  obtain ⟨y, y1, y2⟩ := hx_worlds_lp (L := L) (a5 := a5) (Z0 := s 9 2 % 18446744073709551616) h (show t < 12 by omega) hS e4.2 (show 1 ≤ n ∧ n ≤ 24 by omega) (show m ≤ 60 by omega) h5 (by omega) m 0 s (s 9 2) (by omega) FA.rf rfl
  have y1 : hx_worlds_b3 L (t : Int) (n : Int) (m : Int) (i : Int) a5 (s 9 2) 0 0 0 s = _ := y1
  rw [y1] at hX
  have yq := y2.q (by decide)
  have hI := yq.I h
  have hz0 : y 242 4 % 18446744073709551616 = s 9 2 % 18446744073709551616 := by rw [y2 _ _ (by decide)]; exact (w64_iff.mp h.1.2.1.2.2.1).symm
  obtain ⟨z, z1, z2⟩ := md_worlds_lp (L := L) (a5 := a5) (Z0 := s 9 2 % 18446744073709551616) (zz := y 242 4) hI (show t < 12 by omega) (hS.q h.lw yq (by omega)).1 (by rw [y2 _ _ (by decide)]; exact e4.2) (show 1 ≤ n ∧ n ≤ 24 by omega) (show m ≤ 60 by omega) h5 rfl m 0 y (by omega) (fun _ _ _ _ _ => rfl) hz0
  have emf : mf y = mf s := by
    funext a b
    exact y2 _ _ (by omega)
  rw [emf] at z1
  have z1 : md_worlds_b3 L (t : Int) (n : Int) (m : Int) (i : Int) a5 (y 242 4) 0 0 0 y = _ := z1
  have hYy := hY y
  rw [tst (md_isThrower_ok h1 (by rw [y2 _ _ (by decide)]; omega)), if_pos (by rw [y2 _ _ (by decide)]; exact e1)] at hYy
  dsimp only at hYy
  rw [tst (md_isIn_ok h2 i_lit i_lit), if_pos e2] at hYy
  dsimp only at hYy
  rw [tst (md_isIn_ok h3 i_lit i_lit), if_pos e3] at hYy
  dsimp only at hYy
  rw [tst (md_isMeasure_ok h4 hI), if_pos (by rw [y2 _ _ (by decide)]; exact e4)] at hYy
  dsimp only at hYy
  rw [tst (md_isIn_ok h5 i_lit i_lit), if_pos e5] at hYy
  dsimp only at hYy
  rw [z1] at hYy
  exact Cal.q hX hYy rfl yq z2 h
end
