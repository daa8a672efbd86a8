/-! give: the call -/
theorem tens_2 : ∀ j : Nat, j < 9 → st_o2 (2 * j) = 100 ^ j := by decide +kernel
theorem two_N : ∀ N : Nat, N < 9 → (1 : Int) * 2 ^ N = ((2 ^ N : Nat) : Int) ∧ 2 ^ N ≤ 256 := by decide +kernel
section
variable {L : Nat} {s : hh_Sv}
def FZ (s u : hh_Sv) : Prop := ∀ k j, k ≠ 38 → k ≠ 52 → k ≠ 53 → u k j = s k j
theorem FZ.q {u : hh_Sv} (h : FZ s u) : Eqh s u := fun k j hn => h k j (fun e => hn (by subst e; exact ⟨by unfold scr; omega, by decide, by omega⟩)) (fun e => hn (by subst e; exact ⟨by unfold scr; omega, by decide, by omega⟩)) (fun e => hn (by subst e; exact ⟨by unfold scr; omega, by decide, by omega⟩))
theorem FZ.w38 {u : hh_Sv} {i : Nat} {x : Int} (h : FZ s u) : FZ s (up u 38 i x) := fun k j a b c => by
  rw [up_k a]
  exact h k j a b c
theorem ga_begin_ok {q1 q2 : Nat} {n : Int} (h1 : 0 < q1) (h2 : 0 < q2) : ∃ u, ga_begin L q1 q2 n s = ok L 0 u ∧ FZ s u ∧ u 38 0 = n ∧ u 38 1 = (q1 : Int) ∧ u 38 2 = (q2 : Int) ∧ u 38 3 = 9 ∧ u 38 4 = 0 ∧ ∀ p, asC u (gc p 0) (g0 p) := by
  obtain ⟨w, w1, w2, w3⟩ := as_clear_ok (L := L) (s := up (up (up (up (up s 38 1 (q1 : Int)) 38 2 (q2 : Int)) 38 0 n) 38 3 9) 38 4 0) (gc_kd (o := true) (t := 0) (by decide)) (show 8 ≤ gc true 0 by decide)
  obtain ⟨u, u1, u2, u3⟩ := as_clear_ok (L := L) (s := w) (gc_kd (o := false) (t := 0) (by decide)) (show 8 ≤ gc false 0 by decide)
  have w1 : as_clear L 52 _ = _ := w1
  have u1 : as_clear L 53 _ = _ := u1
  have w2 : FA 52 _ w := w2
  have u2 : FA 53 w u := u2
  have g : FZ s (up (up (up (up (up s 38 1 (q1 : Int)) 38 2 (q2 : Int)) 38 0 n) 38 3 9) 38 4 0) := FZ.w38 (FZ.w38 (FZ.w38 (FZ.w38 (FZ.w38 (fun _ _ _ _ _ => rfl)))))
  refine ⟨u, ?_, fun k j a b c => ?_, ?_, ?_, ?_, ?_, ?_, fun p => ?_⟩
  · rw [ga_begin_eq, if_pos h1, if_pos h2, if_pos (by decide), w1, ok_bind, if_pos (by decide)]
    dsimp only
    rw [u1, ok_bind]
  · rw [u2 _ _ c, w2 _ _ b]
    exact g k j a b c
  · rw [u2 _ _ (by decide), w2 _ _ (by decide), up_j (by decide), up_j (by decide), up_s]
  · rw [u2 _ _ (by decide), w2 _ _ (by decide), up_j (by decide), up_j (by decide), up_j (by decide), up_j (by decide), up_s]
  · rw [u2 _ _ (by decide), w2 _ _ (by decide), up_j (by decide), up_j (by decide), up_j (by decide), up_s]
  · rw [u2 _ _ (by decide), w2 _ _ (by decide), up_j (by decide), up_s]
  · rw [u2 _ _ (by decide), w2 _ _ (by decide), up_s]
  · cases p
    · exact u3
    · exact asC.fr w3 (fun j => u2 _ _ (by decide))
/-- what both tell -/
noncomputable def gVal (R : Bool → List Ru) (N : Nat) (K m a6 : Int) : Int := frc (gE R K m N 0 g0) (100 ^ N) (tMod (w32 a6) 2)
theorem hx_give_3 {A : Bool → Nat} {R : Bool → List Ru} {N : Nat} {K m a6 : Int} (h : Gx s A R N K m) (hN : N ≤ 8) (hm : 0 ≤ m ∧ m ≤ 3) (h6 : 0 ≤ a6 ∧ a6 ≤ 3) (ha : ∀ p, asC s (gc p 0) (g0 p)) : ∃ y, hx_give_b3 L (N : Nat) a6 s = ok L (gVal R N K m a6) y ∧ FG 0 s y := by
  obtain ⟨y, y1, y2⟩ := hx_hitsFrom_ok (L := L) hN hm N 0 s g0 (by omega) h gGB0 ha
  have y1 : hx_hitsFrom L (7 + ((8 : Int) - 0).toNat) 0 s = _ := y1
  have hp := p8 N (by omega)
  have hp0 := p100 N
  have hE := gE_bd (R := R) (K := K) (m := m) N 0 g0
  have hE2 : (N : Int) * 100 ^ N ≤ 8 * 10000000000000000 := Int.mul_le_mul (by omega) hp (by omega) (by decide)
  refine ⟨y, ?_, y2⟩
  rw [hx_give_b3_eq, if_pos (by decide), y1, ok_bind, if_pos (by omega), show (2 * ((N : Nat) : Int)).toNat = 2 * N by omega]
  dsimp only
  rw [y2 _ _ (by omega), h.2.2.2.2.2.2.2.2.2 N hN, hx_part_ok (by omega) (by omega) (by rw [w32_id (by omega) (by omega), tMod_nn (by omega) (by decide)]; exact ⟨by omega, by omega⟩), ok_bind]
  rfl
theorem md_give_lp {A : Bool → Nat} {R : Bool → List Ru} {N : Nat} {K m a4 a6 : Int} (hL : iv_L s) (hA : ∀ p, A p < 12) (hS : ∀ p, ru_S s (A p) (R p)) (hN : N ≤ 8) (hK : 0 ≤ K ∧ K ≤ 5) (hm : 0 ≤ m ∧ m ≤ 3) (h6 : 0 ≤ a6 ∧ a6 ≤ 3) (eK : K = if a6 < 2 then 0 else a4) : ∀ (j w : Nat) (u : hh_Sv), w + j = 2 ^ N → FP s u → ∃ y, md_give_b3 L (A true : Nat) (A false : Nat) (N : Nat) a4 m a6 (sg (fun w => gW R K m N 0 g0 w * ((pcf N w : Nat) : Int)) w) (w : Nat) u = ok L (gVal R N K m a6) y ∧ Eqh s y := by
  obtain ⟨n1, n2⟩ := two_N N (by omega)
  intro j
  induction j with
  | zero =>
    intro w u e g
    rw [Nat.add_zero] at e
    subst e
    have hp := p8 N (by omega)
    have hp0 := p100 N
    have hE := gE_bd (R := R) (K := K) (m := m) N 0 g0
    have hE2 : (N : Int) * 100 ^ N ≤ 8 * 10000000000000000 := Int.mul_le_mul (by omega) hp (by omega) (by decide)
    have ht : I32 (tMod (w32 a6) 2) := by rw [w32_id (by omega) (by omega), tMod_nn (by omega) (by decide)]; exact ⟨by omega, by omega⟩
    refine ⟨up (up u 242 0 (frc (gE R K m N 0 g0) (100 ^ N) 0)) 242 1 (frc (gE R K m N 0 g0) (100 ^ N) 1), ?_, Eqh.up (by unfold scr2 scr; omega) (Eqh.up (by unfold scr2 scr; omega) g.q)⟩
    rw [md_give_b3_eq, iShl_id rfl (by omega), n1, if_neg (by omega), gW_hits, md_power_ok (by decide) (by omega), ok_bind]
    dsimp only
    rw [md_is_ok (by omega) (by omega), ok_bind]
    dsimp only
    rw [md_tells_ok ht, ok_bind, frc_w]
    rfl
  | succ j ih =>
    intro w u e g
    have b5 : ∃ y, md_give_b5 L (A true : Nat) (A false : Nat) (N : Nat) a4 m a6 (sg (fun w => gW R K m N 0 g0 w * ((pcf N w : Nat) : Int)) w) (w : Nat) (A true : Nat) (A false : Nat) (N : Nat) K u = ok L (gVal R N K m a6) y ∧ Eqh s y := by
      obtain ⟨x, x1, x2, x3⟩ := md_plays_ok (L := L) (R := R) (w := w) (g.q.lw hL) hA (fun p => ((hS p).q hL g.q (by have := hA p; omega)).1) hN hK hm (by omega)
      obtain ⟨y, y1, y2⟩ := ih (w + 1) x (by omega) (g.tr x2)
      refine ⟨y, ?_, y2⟩
      have hpl := pcf_le N w
      rw [md_give_b5_eq, x1, ok_bind]
      dsimp only
      rw [md_bits_all L (by omega), ok_bind, x3, pcf_big (n := N) (m := 32) (by omega) (by omega), w32_id (by omega) (by omega)]
      exact y1
    rw [md_give_b3_eq, iShl_id rfl (by omega), n1, if_pos (by rw [w32_id (by omega) (by omega), w32_id (by omega) (by omega)]; omega), w32_id (by omega) (by omega)]
    by_cases q : a6 < 2
    · rw [if_pos q] at eK
      rw [if_pos q, ← eK]
      exact b5
    · rw [if_neg q] at eK
      rw [if_neg q]
      rw [eK] at b5 ⊢
      exact b5
theorem c_give {a1 a2 a3 a4 a5 a6 : Int} (h1 : I32 a1) (h2 : I32 a2) (h3 : I32 a3) (h4 : I32 a4) (h5 : I32 a5) (h6 : I32 a6) (h : Inv s) : Cal L s (hx_give L a1 a2 a3 a4 a5 a6) (md_give L a1 a2 a3 a4 a5 a6) w64 := by
  obtain ⟨T1, T2, T3⟩ := h.T
  have hX := hx_give_eq L a1 a2 a3 a4 a5 a6 s
  have hY := fun z => md_give_eq L a1 a2 a3 a4 a5 a6 z
  have hY0 := hY s
  rw [tst (co_hasThrower_ok h1 (by omega))] at hX
  rw [tst (md_isThrower_ok h1 (by omega))] at hY0
  by_cases e1 : 0 ≤ a1 ∧ a1 < s 242 2
  case neg => exact Cal.pure (hX.trans (if_neg (by omega))) (hY0.trans (if_neg e1)) rfl h
  rw [if_pos (by omega)] at hX
  rw [if_pos e1] at hY0
  dsimp only at hX hY0
  rw [tst (co_hasThrower_ok h2 (by omega))] at hX
  rw [tst (md_isThrower_ok h2 (by omega))] at hY0
  by_cases e2 : 0 ≤ a2 ∧ a2 < s 242 2
  case neg => exact Cal.pure (hX.trans (if_neg (by omega))) (hY0.trans (if_neg e2)) rfl h
  rw [if_pos (by omega)] at hX
  rw [if_pos e2] at hY0
  dsimp only at hX hY0
  rw [h1.w, h2.w] at hX hY0
  by_cases e0 : a1 = a2
  case pos => exact Cal.pure (hX.trans (if_pos e0)) (hY0.trans (if_pos e0)) rfl h
  rw [if_neg e0] at hX hY0
  rw [tst (hx_isIn_ok h3 i_lit i_lit)] at hX
  rw [tst (md_isIn_ok h3 i_lit i_lit)] at hY0
  by_cases e3 : 1 ≤ a3 ∧ a3 ≤ 8
  case neg => exact Cal.pure (hX.trans (if_neg e3)) (hY0.trans (if_neg e3)) rfl h
  rw [if_pos e3] at hX hY0
  dsimp only at hX hY0
  rw [tst (hx_isIn_ok h4 i_lit i_lit)] at hX
  rw [tst (md_isIn_ok h4 i_lit i_lit)] at hY0
  by_cases e4 : 1 ≤ a4 ∧ a4 ≤ 5
  case neg => exact Cal.pure (hX.trans (if_neg e4)) (hY0.trans (if_neg e4)) rfl h
  rw [if_pos e4] at hX hY0
  dsimp only at hX hY0
  rw [tst (hx_isIn_ok h5 i_lit i_lit)] at hX
  rw [tst (md_isIn_ok h5 i_lit i_lit)] at hY0
  by_cases e5 : 0 ≤ a5 ∧ a5 ≤ 3
  case neg => exact Cal.pure (hX.trans (if_neg e5)) (hY0.trans (if_neg e5)) rfl h
  rw [if_pos e5] at hX hY0
  dsimp only at hX hY0
  rw [tst (hx_isIn_ok h6 i_lit i_lit)] at hX
  rw [tst (md_isIn_ok h6 i_lit i_lit)] at hY0
  by_cases e6 : 0 ≤ a6 ∧ a6 ≤ 3
  case neg => exact Cal.pure (hX.trans (if_neg e6)) (hY0.trans (if_neg e6)) rfl h
  rw [if_pos e6] at hX
  dsimp only at hX
  obtain ⟨t, rfl⟩ := Int.eq_ofNat_of_zero_le e1.1
  obtain ⟨r, rfl⟩ := Int.eq_ofNat_of_zero_le e2.1
  obtain ⟨N, rfl⟩ := Int.eq_ofNat_of_zero_le (show 0 ≤ a3 by omega)
  obtain ⟨rs, hS⟩ := h.law (t := t) (by omega)
  obtain ⟨rs2, hS2⟩ := h.law (t := r) (by omega)
  have hN : N ≤ 8 := by omega
  have eq1 : (s 16 t).toNat = ru_q s t := by unfold ru_q; rw [if_pos (by omega)]
  have eq2 : (s 16 r).toNat = ru_q s r := by unfold ru_q; rw [if_pos (by omega)]
  have gq1 := (h.cell (t := t) (by omega)).ge
  have gq2 := (h.cell (t := r) (by omega)).ge
  obtain ⟨A, hA⟩ : ∃ A : Bool → Nat, A = fun p => if p = true then t else r := ⟨_, rfl⟩
  obtain ⟨R, hR⟩ : ∃ R : Bool → List Ru, R = fun p => if p = true then rs else rs2 := ⟨_, rfl⟩
  have hAt : A true = t := by rw [hA]; rfl
  have hAf : A false = r := by rw [hA]; rfl
  have hRt : R true = rs := by rw [hR]; rfl
  have hRf : R false = rs2 := by rw [hR]; rfl
  have hA12 : ∀ p, A p < 12 := fun p => by
    cases p
    · rw [hAf]; omega
    · rw [hAt]; omega
  have hRS : ∀ p, ru_S s (A p) (R p) := fun p => by
    cases p
    · rw [hAf, hRf]; exact hS2
    · rw [hAt, hRt]; exact hS
  obtain ⟨u, u1, u2, u3, u4, u5, u6, u7, u8⟩ := ga_begin_ok (L := L) (s := s) (q1 := ru_q s t) (q2 := ru_q s r) (n := (N : Int)) (by omega) (by omega)
  rw [if_pos (by omega), if_pos (by omega), Int.toNat_natCast, Int.toNat_natCast, eq1, eq2, u1, ok_bind] at hX
  dsimp only at hX
  have mkG : ∀ (x : hh_Sv) (K : Int), FZ s x → x 38 0 = (N : Int) → x 38 1 = ((ru_q s t : Nat) : Int) → x 38 2 = ((ru_q s r : Nat) : Int) → (∀ z : Int, 0 ≤ z → z ≤ 8 → (x 38 3 ≤ z ↔ 0 < K ∧ K ≤ z)) → I32 (x 38 3) → (0 < K → x 38 4 = a5) → Gx x A R N K a5 := fun x K g b0 b1 b2 b3 b4 b5 => by
    have hq := fun p => (hRS p).q h.lw g.q (show A p < 16 by have := hA12 p; omega)
    refine ⟨g.q.lw h.lw, hA12, fun p => (hq p).1, b0, ?_, ?_, b3, b4, b5, fun j hj => ?_⟩
    · rw [(hq true).2, hAt]; exact b1
    · rw [(hq false).2, hAf]; exact b2
    · rw [g _ _ (by decide) (by decide) (by decide), h.1.1.1 _ (by omega)]
      exact tens_2 j (by omega)
  have fin : ∀ (x : hh_Sv) (K : Int), FZ s x → K = (if a6 < 2 then 0 else a4) → Gx x A R N K a5 → (∀ p, asC x (gc p 0) (g0 p)) → hx_give L (t : Int) (r : Int) (N : Int) a4 a5 a6 s = hx_give_b3 L (N : Int) a6 x → Cal L s (hx_give L (t : Int) (r : Int) (N : Int) a4 a5 a6) (md_give L (t : Int) (r : Int) (N : Int) a4 a5 a6) w64 := fun x K g hK hG hx8 hXx => by
    have hKb : 0 ≤ K ∧ K ≤ 5 := by rw [hK]; split <;> omega
    obtain ⟨y, y1, y2⟩ := hx_give_3 (L := L) hG hN e5 e6 hx8
    rw [y1] at hXx
    have yq : Eqh s y := g.q.tr y2.q
    have ey : y 242 2 = s 242 2 := by rw [y2 _ _ (by omega), g _ _ (by decide) (by decide) (by decide)]
    obtain ⟨z, z1, z2⟩ := md_give_lp (L := L) (s := y) (R := R) (a4 := a4) (yq.lw h.lw) hA12 (fun p => ((hRS p).q h.lw yq (by have := hA12 p; omega)).1) hN hKb e5 e6 hK (2 ^ N) 0 y (by omega) FP.rf
    have z1 : md_give_b3 L (A true : Nat) (A false : Nat) (N : Nat) a4 a5 a6 0 0 y = _ := z1
    rw [hAt, hAf] at z1
    have hYy := hY y
    rw [tst (md_isThrower_ok h1 (by omega)), if_pos (by omega)] at hYy
    dsimp only at hYy
    rw [tst (md_isThrower_ok h2 (by omega)), if_pos (by omega)] at hYy
    dsimp only at hYy
    rw [h1.w, h2.w, if_neg e0, tst (md_isIn_ok h3 i_lit i_lit), if_pos e3] at hYy
    dsimp only at hYy
    rw [tst (md_isIn_ok h4 i_lit i_lit), if_pos e4] at hYy
    dsimp only at hYy
    rw [tst (md_isIn_ok h5 i_lit i_lit), if_pos e5] at hYy
    dsimp only at hYy
    rw [tst (md_isIn_ok h6 i_lit i_lit), if_pos e6] at hYy
    dsimp only at hYy
    rw [z1] at hYy
    exact Cal.q hXx hYy rfl yq z2 h
  rw [h6.w] at hX
  by_cases q : a6 < 2
  · rw [if_pos q] at hX
    refine fin u 0 u2 (by rw [if_pos q]) (mkG u 0 u2 u3 u4 u5 (fun z z0 z1 => ?_) ?_ (fun k => absurd k (by decide))) u8 hX
    · rw [u6]; omega
    · rw [u6]; exact i_lit
  · rw [if_neg q, ga_giveAt_eq, ok_bind] at hX
    dsimp only at hX
    refine fin _ a4 u2.w38.w38 (by rw [if_neg q]) (mkG _ a4 u2.w38.w38 ?_ ?_ ?_ (fun z z0 z1 => ?_) ?_ (fun _ => up_s)) (fun p => (u8 p).fr (fun j => ?_)) hX
    · rw [up_j (by decide), up_j (by decide)]; exact u3
    · rw [up_j (by decide), up_j (by decide)]; exact u4
    · rw [up_j (by decide), up_j (by decide)]; exact u5
    · rw [up_j (by decide), up_s]; omega
    · rw [up_j (by decide), up_s]; exact h4
    · have := gc_bd (o := p) (t := 0)
      rw [up_k (by omega), up_k (by omega)]
end
