/-! bets, odds: the calls -/
section
variable {L : Nat} {s : hh_Sv}
theorem c_bets {a1 a2 a3 : Int} (h1 : I32 a1) (h2 : I32 a2) (h3 : I32 a3) (h : Inv s) : Cal L s (hx_bets L a1 a2 a3) (md_bets L a1 a2 a3) w32 := by
  obtain ⟨T1, T2, T3⟩ := h.T
  have hX := hx_bets_eq L a1 a2 a3 s
  have hY := fun z => md_bets_eq L a1 a2 a3 z
  have hY0 := hY s
  rw [tst (hx_isWatcher_ok h1)] at hX
  rw [tst (md_isWatcher_ok h1)] at hY0
  by_cases e1 : 0 ≤ a1 ∧ a1 ≤ 3
  case neg => exact Cal.pure (hX.trans (if_neg e1)) (hY0.trans (if_neg e1)) rfl h
  rw [if_pos e1] at hX hY0
  dsimp only at hX hY0
  rw [tst (co_hasThrower_ok h2 (by omega))] at hX
  rw [tst (md_isThrower_ok h2 (by omega))] at hY0
  by_cases e2 : 0 ≤ a2 ∧ a2 < s 242 2
  case neg => exact Cal.pure (hX.trans (if_neg (by omega))) (hY0.trans (if_neg e2)) rfl h
  rw [if_pos (by omega)] at hX
  rw [if_pos e2] at hY0
  dsimp only at hX hY0
  rw [tst (hx_isIn_ok h3 i_lit i_lit)] at hX
  rw [tst (md_isIn_ok h3 i_lit i_lit)] at hY0
  by_cases e3 : 0 ≤ a3 ∧ a3 ≤ 3
  case neg => exact Cal.pure (hX.trans (if_neg e3)) (hY0.trans (if_neg e3)) rfl h
  rw [if_pos e3] at hX
  dsimp only at hX
  obtain ⟨wt, rfl⟩ := Int.eq_ofNat_of_zero_le e1.1
  obtain ⟨t, rfl⟩ := Int.eq_ofNat_of_zero_le e2.1
  obtain ⟨w, rfl⟩ := Int.eq_ofNat_of_zero_le e3.1
  obtain ⟨rs, hS⟩ := h.law (t := t) (by omega)
  obtain ⟨bs, hB⟩ := h.law (t := 12 + wt) (by omega)
  have fin : ∀ y, hx_bets L (wt : Int) (t : Int) (w : Int) s = ok L (sg (rF s rs t (btF bs w)) (s 242 3).toNat) y → FA 29 s y → Cal L s (hx_bets L (wt : Int) (t : Int) (w : Int)) (md_bets L (wt : Int) (t : Int) (w : Int)) w32 := by
    intro y y1 y2
    have yq := y2.q (by decide)
    have hI := yq.I h
    obtain ⟨z, z1, z2, z3⟩ := md_lays_ok (L := L) hI (show t < 12 by omega) (show wt < 4 by omega) (hS.q h.lw yq (by omega)).1 (hB.q h.lw yq (by omega)).1
    have z3w := z3 w (by omega)
    rw [rF_cg (s := s) (fun k j hk => y2 _ _ (by omega)), y2 _ _ (by decide)] at z3w
    have hYy := hY y
    rw [tst (md_isWatcher_ok h1), if_pos e1] at hYy
    dsimp only at hYy
    rw [tst (md_isThrower_ok h2 (by rw [y2 _ _ (by decide)]; omega)), if_pos (by rw [y2 _ _ (by decide)]; exact e2)] at hYy
    dsimp only at hYy
    rw [tst (md_isIn_ok h3 i_lit i_lit), if_pos e3] at hYy
    dsimp only at hYy
    rw [z1, ok_bind, if_pos (by omega), Int.toNat_natCast] at hYy
    dsimp only at hYy
    rw [z3w] at hYy
    exact Cal.q y1 hYy rfl yq z2.q h
  have cb := fun (o p : Nat) (ho : o = 0 ∨ o = 1) (hp : p = 0 ∨ p = 1) => hx_countBets_ok (L := L) h (show t < 12 by omega) (show wt < 4 by omega) hS hB ho hp
  rw [w32_id (i := (w : Int)) (by omega) (by omega), hx_bets_b4_eq, hx_bets_b4_eq, w32_id (i := (w : Int)) (by omega) (by omega), tMod_nn (by omega) (by decide), w32_id (i := (w : Int) % 2) (by omega) (by omega)] at hX
  have hw4 : w = 0 ∨ w = 1 ∨ w = 2 ∨ w = 3 := by omega
  rcases hw4 with rfl | rfl | rfl | rfl
  · obtain ⟨y, y1, y2⟩ := cb 1 0 (Or.inr rfl) (Or.inl rfl)
    have y1 : hx_countBets L (wt : Int) (t : Int) 1 0 s = _ := y1
    rw [if_pos (by decide), if_neg (by decide), hx_bets_b6_eq, y1, ok_bind] at hX
    exact fin y hX y2
  · obtain ⟨y, y1, y2⟩ := cb 1 1 (Or.inr rfl) (Or.inr rfl)
    have y1 : hx_countBets L (wt : Int) (t : Int) 1 1 s = _ := y1
    rw [if_pos (by decide), if_pos (by decide), hx_bets_b6_eq, y1, ok_bind] at hX
    exact fin y hX y2
  · obtain ⟨y, y1, y2⟩ := cb 0 0 (Or.inl rfl) (Or.inl rfl)
    have y1 : hx_countBets L (wt : Int) (t : Int) 0 0 s = _ := y1
    rw [if_neg (by decide), if_neg (by decide), hx_bets_b6_eq, y1, ok_bind] at hX
    exact fin y hX y2
  · obtain ⟨y, y1, y2⟩ := cb 0 1 (Or.inl rfl) (Or.inr rfl)
    have y1 : hx_countBets L (wt : Int) (t : Int) 0 1 s = _ := y1
    rw [if_neg (by decide), if_pos (by decide), hx_bets_b6_eq, y1, ok_bind] at hX
    exact fin y hX y2
/-- ways, from l right bets on -/
def osm (H Q B : Nat) : Nat → Nat → Int
  | _, 0 => 0
  | l, j + 1 => ((bin H l : Nat) : Int) * ((bin Q (B - l) : Nat) : Int) + osm H Q B (l + 1) j
theorem hx_odds_lp {H A B : Nat} (hA : A ≤ 60) (hH : H ≤ A) (hB : B ≤ 1440) : ∀ (j l : Nat) (acc : Int), l ≤ 1500 → j = B + 1 - l → hx_odds_b5 L (A : Int) (B : Int) (H : Int) acc (l : Int) s = ok L (acc + osm H (A - H) B l j) s := by
  intro j
  induction j with
  | zero =>
    intro l acc hl e
    rw [hx_odds_b5_eq, if_pos (by rw [w32_id (by omega) (by omega), w32_id (by omega) (by omega)]; omega), osm, Int.add_zero]
  | succ j ih =>
    intro l acc hl e
    have := ih (l + 1) (acc + ((bin H l : Nat) : Int) * ((bin (A - H) (B - l) : Nat) : Int)) (by omega) (by omega)
    rw [hx_odds_b5_eq, if_neg (by rw [w32_id (by omega) (by omega), w32_id (by omega) (by omega)]; omega), hx_choose_ok (by omega) (by omega), ok_bind, show (A : Int) - (H : Int) = ((A - H : Nat) : Int) by omega, show (B : Int) - (l : Int) = ((B - l : Nat) : Int) by omega]
    dsimp only
    rw [hx_choose_ok (by omega) (by omega), ok_bind, osm, ← Int.add_assoc]
    exact this
/-- the table of ways alone has changed -/
def FH (s u : hh_Sv) : Prop := (∀ a b, a ≠ 268 → ¬ (a = 242 ∧ b = 50) → u a b = s a b) ∧ iv_H u
theorem FH.v {u : hh_Sv} (h : FH s u) : Eqv s u := fun k j hn => h.1 k j (fun e => hn (by subst e; unfold scr; omega)) (fun e => hn (by obtain ⟨e1, e2⟩ := e; subst e1; subst e2; unfold scr; omega))
theorem FH.tr {u w : hh_Sv} (h1 : FH s u) (h2 : FH u w) : FH s w := ⟨fun a b c d => (h2.1 a b c d).trans (h1.1 a b c d), h2.2⟩
theorem md_odds_lp {H A B : Nat} (hA : A ≤ 60) (hH : H ≤ A) (hB : B ≤ 1440) : ∀ (j l : Nat) (acc : Int) (u : hh_Sv), l ≤ 1500 → j = B + 1 - l → FH s u → s 281 0 = (B : Int) → ∃ y, md_odds_b5 L (A : Int) (H : Int) acc (l : Int) u = ok L (acc + osm H (A - H) B l j) y ∧ FH s y := by
  intro j
  induction j with
  | zero =>
    intro l acc u hl e g e0
    rw [md_odds_b5_eq, if_pos (by decide), if_pos (by rw [g.1 _ _ (by decide) (by decide), e0, w32_id (by omega) (by omega), w32_id (by omega) (by omega)]; omega), osm, Int.add_zero]
    exact ⟨u, rfl, g⟩
  | succ j ih =>
    intro l acc u hl e g e0
    obtain ⟨w, w1, w2, w3⟩ := md_choose_ok (L := L) (n := H) (k := l) g.2 (by omega) (by omega)
    have gw := g.tr ⟨w2, w3⟩
    obtain ⟨y, y1, y2, y3⟩ := md_choose_ok (L := L) (n := A - H) (k := B - l) w3 (by omega) (by omega)
    have gy := gw.tr ⟨y2, y3⟩
    have := ih (l + 1) (acc + ((bin H l : Nat) : Int) * ((bin (A - H) (B - l) : Nat) : Int)) y (by omega) (by omega) gy e0
    rw [md_odds_b5_eq, if_pos (by decide), if_neg (by rw [g.1 _ _ (by decide) (by decide), e0, w32_id (by omega) (by omega), w32_id (by omega) (by omega)]; omega), w1, ok_bind, if_pos (by decide)]
    dsimp only
    rw [gw.1 _ _ (by decide) (by decide), e0, show (A : Int) - (H : Int) = ((A - H : Nat) : Int) by omega, show (B : Int) - (l : Int) = ((B - l : Nat) : Int) by omega, y1, ok_bind, osm, ← Int.add_assoc]
    exact this
theorem c_odds {a1 a2 a3 : Int} (h1 : I32 a1) (h2 : I32 a2) (h3 : I32 a3) (h : Inv s) : Cal L s (hx_odds L a1 a2 a3) (md_odds L a1 a2 a3) w64 := by
  obtain ⟨T1, T2, T3⟩ := h.T
  obtain ⟨R1, R2, R3⟩ := h.R
  have hX := hx_odds_eq L a1 a2 a3 s
  have hY := fun z => md_odds_eq L a1 a2 a3 z
  have hY0 := hY s
  rw [tst (hx_isWatcher_ok h1)] at hX
  rw [tst (md_isWatcher_ok h1)] at hY0
  by_cases e1 : 0 ≤ a1 ∧ a1 ≤ 3
  case neg => exact Cal.pure (hX.trans (if_neg e1)) (hY0.trans (if_neg e1)) rfl h
  rw [if_pos e1] at hX hY0
  dsimp only at hX hY0
  rw [tst (co_hasThrower_ok h2 (by omega))] at hX
  rw [tst (md_isThrower_ok h2 (by omega))] at hY0
  by_cases e2 : 0 ≤ a2 ∧ a2 < s 242 2
  case neg => exact Cal.pure (hX.trans (if_neg (by omega))) (hY0.trans (if_neg e2)) rfl h
  rw [if_pos (by omega)] at hX
  rw [if_pos e2] at hY0
  dsimp only at hX hY0
  rw [tst (hx_isIn_ok h3 i_lit i_lit)] at hX
  rw [tst (md_isIn_ok h3 i_lit i_lit)] at hY0
  by_cases e3 : 0 ≤ a3 ∧ a3 ≤ 1
  case neg => exact Cal.pure (hX.trans (if_neg e3)) (hY0.trans (if_neg e3)) rfl h
  rw [if_pos e3] at hX
  dsimp only at hX
  obtain ⟨wt, rfl⟩ := Int.eq_ofNat_of_zero_le e1.1
  obtain ⟨t, rfl⟩ := Int.eq_ofNat_of_zero_le e2.1
  obtain ⟨rs, hS⟩ := h.law (t := t) (by omega)
  obtain ⟨bs, hB⟩ := h.law (t := 12 + wt) (by omega)
  obtain ⟨b1, b2, b3, b4⟩ := sums_bd h (t : Int) (i := (s 242 3).toNat) (Nat.le_refl _)
  have hle : sg (fHits s t) (s 242 3).toNat ≤ sg (fThrows s t) (s 242 3).toNat := sg_lle (fun k hk => (fHits_bd h (t : Int) k (by omega)).2)
  obtain ⟨A, hA⟩ := Int.eq_ofNat_of_zero_le b1
  obtain ⟨H, hH⟩ := Int.eq_ofNat_of_zero_le b3
  have hAs : ∀ z, FA 29 s z → Eqh s z := fun z g => g.q (by decide)
  have yY : ∀ y, FA 29 s y → md_odds L (wt : Int) (t : Int) a3 y = (md_hundredthsOf L (t : Int) y).bind (fun r4 => if 60 < w32 (r4.2.2 242 61) then ok L (-1) r4.2.2 else (md_lays_ L (wt : Int) (t : Int) r4.2.2).bind (fun r5 => if w32 a3 = 1 then if 0 ≤ 0 ∧ 0 < 4 then (md_choose L (r4.2.2 242 61) (r5.2.2 281 0) r5.2.2).bind (fun r6 => ok L r6.1 r6.2.2) else none else if 0 ≤ 1 ∧ 1 < 4 then md_odds_b5 L (r4.2.2 242 61) (r4.2.2 242 62) 0 (r5.2.2 281 1) r5.2.2 else none)) := fun y g => by
    rw [hY y, tst (md_isWatcher_ok h1), if_pos e1]
    dsimp only
    rw [tst (md_isThrower_ok h2 (by rw [g _ _ (by decide)]; omega)), if_pos (by rw [g _ _ (by decide)]; exact e2)]
    dsimp only
    rw [tst (md_isIn_ok h3 i_lit i_lit), if_pos e3]
  rw [co_countThrows_ok h h2, ok_bind, hA] at hX
  dsimp only at hX
  rw [w32_id (i := (A : Int)) (by omega) (by omega)] at hX
  have cgT : ∀ y, FA 29 s y → sg (fThrows y t) (y 242 3).toNat = (A : Int) ∧ sg (fHits y t) (y 242 3).toNat = (H : Int) := fun y g => by
    have f1 : fThrows y t = fThrows s t := by
      funext k
      unfold fThrows
      rw [g _ _ (by decide), g _ _ (by decide)]
    have f2 : fHits y t = fHits s t := by
      funext k
      unfold fHits
      rw [g _ _ (by decide), g _ _ (by decide)]
    rw [f1, f2, g _ _ (by decide), hA, hH]
    exact ⟨rfl, rfl⟩
  by_cases e60 : 60 < (A : Int)
  · rw [if_pos e60] at hX
    obtain ⟨z, z1, z2, z3, z4⟩ := md_hundredthsOf_ok (L := L) h h2 e2.1
    have hYs := yY s FA.rf
    rw [z1, ok_bind] at hYs
    dsimp only at hYs
    rw [if_pos (by rw [z3, hA, w32_id (by omega) (by omega)]; exact e60)] at hYs
    exact Cal.q hX hYs rfl Eqh.rf z2 h
  rw [if_neg e60] at hX
  obtain ⟨y, y1, y2⟩ := hx_countBets_ok (L := L) h (show t < 12 by omega) (show wt < 4 by omega) hS hB (Or.inr rfl : (1 : Nat) = 0 ∨ 1 = 1) (Or.inl rfl : (0 : Nat) = 0 ∨ 0 = 1)
  have y1 : hx_countBets L (wt : Int) (t : Int) 1 0 s = ok L (sg (rF s rs t (btF bs 0)) (s 242 3).toNat) y := y1
  rw [y1, ok_bind, h3.w] at hX
  dsimp only at hX
  have bd := fun w => rF_bd (rs := rs) (t := (t : Int)) (f := btF bs w) h (show (0 : Int) ≤ 1 by decide) btF_bd (n := (s 242 3).toNat) (by omega)
  obtain ⟨B0, hB0⟩ := Int.eq_ofNat_of_zero_le (bd 0).1
  obtain ⟨B1, hB1⟩ := Int.eq_ofNat_of_zero_le (bd 1).1
  have hb0 := (bd 0).2
  have hb1 := (bd 1).2
  rw [hB0] at hX hb0
  rw [hB1] at hb1
  -- the reference, from any state of the class behind
  have goY : ∀ y, FA 29 s y → ∃ z, md_odds L (wt : Int) (t : Int) a3 y = ok L (if a3 = 1 then ((bin A B0 : Nat) : Int) else osm H (A - H) B0 B1 (B0 + 1 - B1)) z ∧ Eqv y z ∧ iv_H z := by
    intro y g
    have yq := hAs y g
    have hI := yq.I h
    obtain ⟨c1, c2⟩ := cgT y g
    obtain ⟨z, z1, z2, z3, z4⟩ := md_hundredthsOf_ok (L := L) hI h2 e2.1
    rw [c1] at z3
    rw [c2] at z4
    have zI := z2.I hI
    have q2 := yq.tr z2
    obtain ⟨x, x1, x2, x3⟩ := md_lays_ok (L := L) zI (show t < 12 by omega) (show wt < 4 by omega) (hS.q h.lw q2 (by omega)).1 (hB.q h.lw q2 (by omega)).1
    have x30 := x3 0 (by decide)
    have x31 := x3 1 (by decide)
    have gq : ∀ k j, ¬ scr2 k j → z k j = s k j := q2
    rw [rF_cg (s := s) (fun k j hk => gq _ _ (by unfold scr2 scr; omega)), gq _ _ (by unfold scr2 scr; omega), hB0] at x30
    rw [rF_cg (s := s) (fun k j hk => gq _ _ (by unfold scr2 scr; omega)), gq _ _ (by unfold scr2 scr; omega), hB1] at x31
    have xH : iv_H x := x2.q.H zI.2
    rw [yY y g, z1, ok_bind]
    dsimp only
    rw [if_neg (by rw [z3, w32_id (by omega) (by omega)]; exact e60), x1, ok_bind, h3.w]
    dsimp only
    by_cases e31 : a3 = 1
    · obtain ⟨o, o1, o2, o3⟩ := md_choose_ok (L := L) (n := A) (k := B0) xH (by omega) (by omega)
      rw [if_pos e31, if_pos (by decide), z3, x30, o1, ok_bind, if_pos e31]
      exact ⟨o, rfl, (z2.tr x2.q).v.tr (FH.v ⟨o2, o3⟩), o3⟩
    · obtain ⟨o, o1, o2⟩ := md_odds_lp (L := L) (s := x) (H := H) (A := A) (B := B0) (by omega) (by omega) (by omega) (B0 + 1 - B1) B1 0 x (by omega) rfl ⟨fun _ _ _ _ => rfl, xH⟩ x30
      rw [if_neg e31, if_pos (by decide), z3, z4, x31, o1, if_neg e31, Int.zero_add]
      exact ⟨o, rfl, (z2.tr x2.q).v.tr o2.v, o2.2⟩
  by_cases e31 : a3 = 1
  · obtain ⟨z, z1, z2, z3⟩ := goY y y2
    rw [if_pos e31, hx_choose_ok (by omega) (by omega), ok_bind] at hX
    rw [if_pos e31] at z1
    exact Cal.qy hX z1 rfl (hAs y y2).v z2 h z3
  · have hIy := (hAs y y2).I h
    have Sy := (hS.q h.lw (hAs y y2) (show t < 16 by omega)).1
    have By := (hB.q h.lw (hAs y y2) (show 12 + wt < 16 by omega)).1
    obtain ⟨x, x1, x2⟩ := hx_countBets_ok (L := L) hIy (show t < 12 by omega) (show wt < 4 by omega) Sy By (Or.inr rfl : (1 : Nat) = 0 ∨ 1 = 1) (Or.inr rfl : (1 : Nat) = 0 ∨ 1 = 1)
    have x1 : hx_countBets L (wt : Int) (t : Int) 1 1 y = ok L (sg (rF y rs t (btF bs 1)) (y 242 3).toNat) x := x1
    rw [rF_cg (s := s) (fun k j hk => y2 _ _ (by omega)), y2 _ _ (by decide), hB1] at x1
    have gx := y2.tr x2
    obtain ⟨z, z1, z2, z3⟩ := goY x gx
    obtain ⟨c1, c2⟩ := cgT y y2
    rw [if_neg e31, co_countHits_ok hIy h2, ok_bind, c2] at hX
    dsimp only at hX
    rw [x1, ok_bind] at hX
    dsimp only at hX
    rw [hx_odds_lp (by omega) (by omega) (by omega) (B0 + 1 - B1) B1 0 (by omega) rfl, Int.zero_add] at hX
    rw [if_neg e31] at z1
    exact Cal.qy hX z1 rfl (hAs x gx).v z2 h z3
end
