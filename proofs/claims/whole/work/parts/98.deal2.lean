/-! deal -/
section
variable {L : Nat} {s : hh_Sv}
/-- the reference deals; c is the class's state behind its own -/
theorem md_deal_lp {r n m t : Nat} {rs : List Ru} {v : Nat → Int} {Z N : Int} {q : hh_Sv} (h : Inv s) (hr : (r : Int) < s 242 3) (hn : s 244 r = (n : Int)) (hm : n + m ≤ 24) (ht : t < 12) (hL : iv_L q) (hS : ru_S q t rs) (hv : VB v N) (hN : 100 ≤ N ∧ N ≤ 1000) : ∀ (j i : Nat) (u : hh_Sv) (c : Int), i + j = m → FE q u → (∀ k j, 244 ≤ k ∧ k ≤ 247 → u k j = dT s r n rs v Z i k j) → asM u (dV rs v Z i) → u 242 4 % 18446744073709551616 = dZ Z i → c = ((cnt (dB rs v Z) i : Nat) : Int) → ∃ w, md_deal_b3 L (r : Int) (m : Int) (t : Int) c (i : Int) u = ok L ((cnt (dB rs v Z) m : Nat) : Int) w ∧ FE q w ∧ (∀ k j, 244 ≤ k ∧ k ≤ 247 → w k j = dT s r n rs v Z m k j) ∧ w 242 4 % 18446744073709551616 = dZ Z m := by
  have hR := h.R
  intro j
  induction j with
  | zero =>
    intro i u c e g gT a gz ec
    rw [Nat.add_zero] at e
    subst e
    rw [md_deal_b3_eq, if_neg (by omega), ec]
    exact ⟨u, rfl, g, gT, gz⟩
  | succ j ih =>
    intro i u c e g gT a gz ec
    obtain ⟨hT, hT2, hT3⟩ := dT_ok (v := v) (Z := Z) h hr hn hS.ok i (by omega)
    obtain ⟨b1, b2⟩ := aimd_bd (v := dV rs v Z i) hS.ok
    have hvb := dV_bd (Z := Z) hS.ok hN.1 hv i
    have t16 : t < 16 := by omega
    obtain ⟨p, p1, p2, p3⟩ := md_hardNow_ok (L := L) (g.lw hL) t16 (FE.S hL g t16 hS) a hvb (by omega)
    have gp := g.tr p2.e
    obtain ⟨o, o1, o2, o3⟩ := md_guardNow_ok (L := L) (gp.lw hL) t16 (FE.S hL gp t16 hS) p3 (hvb.p45 (by omega) (by omega)) (by omega) (a := hdN rs (dV rs v Z i)) (by omega)
    have eg : gdN rs (s45 (dV rs v Z i) 0 0) (hdN rs (dV rs v Z i)) = gdN rs (dV rs v Z i) (hdN rs (dV rs v Z i)) := by unfold gdN; rw [s45_s45]
    rw [eg] at o1
    rw [s45_s45] at o3
    have go := gp.tr o2.e
    have eo4 : o 242 4 = u 242 4 := by rw [o2 _ _ (by decide) (by decide), p2 _ _ (by decide) (by decide)]
    have dr := md_draws_ok (L := L) (s := o) (Z := Z) (i := i) (by rw [eo4]; exact gz)
    have hz := dZ_next gz
    generalize hX : up o 242 4 (o 242 4 * 6364136223846793005 + 1442695040888963407) = X at dr
    have gX0 : ∀ k j, ¬ (k = 242 ∧ j = 4) → X k j = o k j := fun k j hk => by
      rw [← hX]
      unfold up
      rw [if_neg hk]
    have zX : X 242 4 % 18446744073709551616 = dZ Z (i + 1) := by rw [← hX, up_s, eo4]; exact hz
    have gX : FE q X := fun k j h1 h2 h3 h4 => by
      rw [gX0 k j h3]
      exact go k j h1 h2 h3 h4
    have aX : asM X (s45 (dV rs v Z i) (hdN rs (dV rs v Z i)) 0) := fun k hk => by
      rw [gX0 _ _ (by omega)]
      exact o3 k hk
    obtain ⟨y, y1, y2, y3⟩ := md_chanceNow_ok (L := L) (gX.lw hL) t16 (FE.S hL gX t16 hS) aX (hvb.p45 (by omega) (by omega)) (by omega) (a := hdN rs (dV rs v Z i)) (b := gdN rs (dV rs v Z i) (hdN rs (dV rs v Z i))) (by omega) (by omega)
    rw [s45_s45] at y1 y3
    have gy := gX.tr y2.e
    have gTy : ∀ k j, 244 ≤ k ∧ k ≤ 247 → y k j = dT s r n rs v Z i k j := fun k j hk => by
      rw [y2 _ _ (by omega) (by omega), gX0 _ _ (by omega), o2 _ _ (by omega) (by omega), p2 _ _ (by omega) (by omega)]
      exact gT k j hk
    have chb := chV_bd (rs := rs) (v := aimd rs (dV rs v Z i))
    obtain ⟨r1, r2, r3, r4, r5, r6, r7, r8, r9⟩ := hT.row (r := r) (by rw [hT3 _ _ (by decide) (by decide)]; exact hr)
    rw [hT2, Int.toNat_natCast] at r6
    have b5 : ∃ w, md_deal_b5 L (r : Int) (m : Int) (t : Int) c (i : Int) (hdN rs (dV rs v Z i)) (gdN rs (dV rs v Z i) (hdN rs (dV rs v Z i))) (((dB rs v Z i).toNat : Nat) : Int) y = ok L ((cnt (dB rs v Z) m : Nat) : Int) w ∧ FE q w ∧ (∀ k j, 244 ≤ k ∧ k ≤ 247 → w k j = dT s r n rs v Z m k j) ∧ w 242 4 % 18446744073709551616 = dZ Z m := by
      have add := md_adds_ok (L := L) (s := y) (r := r) (l := n + i) (a2 := (((dB rs v Z i).toNat : Nat) : Int)) (hd := hdN rs (dV rs v Z i)) (gd := gdN rs (dV rs v Z i) (hdN rs (dV rs v Z i))) (by omega) (by rw [gTy _ _ (by decide), hT2]) (by omega) (by rw [gTy _ _ (by decide)]; exact r6)
      rw [w_bool] at add
      generalize hW : adM y r (n + i) (((dB rs v Z i).toNat : Nat) : Int) (hdN rs (dV rs v Z i)) (gdN rs (dV rs v Z i) (hdN rs (dV rs v Z i))) = W at add
      have gW0 : ∀ k j, ¬ (244 ≤ k ∧ k ≤ 247) → W k j = y k j := fun k j hk => by rw [← hW]; exact adM_c hk
      have gW : FE q W := fun k j h1 h2 h3 h4 => by
        rw [gW0 k j h4]
        exact gy k j h1 h2 h3 h4
      have gWT : ∀ k j, 244 ≤ k ∧ k ≤ 247 → W k j = dT s r n rs v Z (i + 1) k j := fun k j hk => by
        rw [← hW, dT]
        refine adM_cg (fun k j hk => ?_) k j hk
        rw [gTy k j hk, adC_m (by omega)]
      have aW : asM W (aimd rs (dV rs v Z i)) := fun k hk => by
        rw [gW0 _ _ (by decide)]
        exact y3 k hk
      obtain ⟨x, x1, x2, x3⟩ := md_goesOn_ok (L := L) (b := dB rs v Z i) (gW.lw hL) t16 (FE.S hL gW t16 hS) aW (VB.aim hS.ok (show 3 ≤ N + (i : Int) by omega) hvb) (by omega) (a := hdN rs (dV rs v Z i)) (c := gdN rs (dV rs v Z i) (hdN rs (dV rs v Z i))) (by omega) (by omega)
      have es : s45 (aimd rs (dV rs v Z i)) (hdN rs (dV rs v Z i)) (gdN rs (dV rs v Z i) (hdN rs (dV rs v Z i))) = aimd rs (dV rs v Z i) := s45_s45
      rw [es] at x3
      rw [md_deal_b5_eq, add, ok_bind]
      dsimp only
      rw [x1, ok_bind]
      dsimp only
      rw [md_one_ok (by have := Bool.toNat_le (dB rs v Z i); omega), ok_bind]
      exact ih (i + 1) x _ (by omega) (gW.tr x2.e) (fun k j hk => by rw [x2 _ _ (by omega) (by omega)]; exact gWT k j hk) x3 (by rw [x2 _ _ (by decide) (by decide), gW0 _ _ (by decide), y2 _ _ (by decide) (by decide)]; exact zX) (by rw [ec, cnt]; omega)
    rw [md_deal_b3_eq, if_pos (by rw [w32_id (by omega) (by omega), w32_id (by omega) (by omega)]; omega), p1, ok_bind]
    dsimp only
    rw [o1, ok_bind]
    dsimp only
    rw [dr, ok_bind]
    dsimp only
    have y1 : md_chanceNow L (t : Int) (hdN rs (dV rs v Z i)) (gdN rs (dV rs v Z i) (hdN rs (dV rs v Z i))) X = ok L (chV rs (aimd rs (dV rs v Z i))) y := y1
    rw [y1, ok_bind]
    dsimp only
    rw [w32_id (i := dZ Z (i + 1) / 8589934592 % 100) (by omega) (by omega), w32_id (i := chV rs (aimd rs (dV rs v Z i))) (by omega) (by omega)]
    have eb : dB rs v Z i = decide (dZ Z (i + 1) / 8589934592 % 100 < chV rs (aimd rs (dV rs v Z i))) := rfl
    by_cases qb : dZ Z (i + 1) / 8589934592 % 100 < chV rs (aimd rs (dV rs v Z i))
    · rw [eb, decide_eq_true qb] at b5
      rw [if_pos qb]
      exact b5
    · rw [eb, decide_eq_false qb] at b5
      rw [if_neg qb]
      exact b5
theorem c_deal {a1 a2 : Int} (h1 : I32 a1) (h2 : I32 a2) (h : Inv s) : Cal L s (hx_deal L a1 a2) (md_deal L a1 a2) w32 := by
  obtain ⟨R1, R2, R3⟩ := h.R
  have hX := hx_deal_eq L a1 a2 s
  have hY := fun z => md_deal_eq L a1 a2 z
  rw [tst (co_hasRow_ok h1 (by omega))] at hX
  by_cases e1 : 0 ≤ a1 ∧ a1 < s 242 3
  case neg => exact Cal.pure (hX.trans (if_neg (by omega))) ((hY s).trans (by rw [tst (md_isRow_ok h1 (by omega)), if_neg e1])) rfl h
  rw [if_pos (by omega)] at hX
  dsimp only at hX
  obtain ⟨r, rfl⟩ := Int.eq_ofNat_of_zero_le e1.1
  have hin : (0 : Int) ≤ (r : Int) ∧ (r : Int) < 60 := by omega
  obtain ⟨x, n, hw⟩ := row_RW h e1.2
  have hw' := hw
  obtain ⟨w1, w2, w3, w4, w5, w6, w7, w8, w9, w10⟩ := hw'
  have hYn : ¬ (1 ≤ a2 ∧ a2 ≤ 24 - (n : Int)) → md_deal L (r : Int) a2 s = ok L (-1) s := fun hne => by
    rw [hY s, tst (md_isRow_ok h1 (by omega)), if_pos e1]
    dsimp only
    rw [if_pos hin, Int.toNat_natCast, w7, tst (md_isIn_ok h2 i_lit ⟨by omega, by omega⟩), if_neg hne]
  rw [tst (hx_isIn_ok h2 i_lit i_lit)] at hX
  by_cases e2 : 1 ≤ a2 ∧ a2 ≤ 24
  case neg => exact Cal.pure (hX.trans (if_neg e2)) (hYn (by omega)) rfl h
  rw [if_pos e2] at hX
  dsimp only at hX
  rw [if_pos hin, Int.toNat_natCast] at hX
  by_cases e3 : 24 < (n : Int) + a2
  · exact Cal.pure (hX.trans (if_pos (by rw [w6, w32_id (by omega) (by omega)]; exact e3))) (hYn (by omega)) rfl h
  rw [if_neg (by rw [w6, w32_id (by omega) (by omega)]; exact e3)] at hX
  obtain ⟨m, rfl⟩ := Int.eq_ofNat_of_zero_le (show 0 ≤ a2 by omega)
  obtain ⟨t, t1, t2, t3⟩ := h.owner e1.2
  obtain ⟨rs, hS⟩ := h.law (t := t) (by omega)
  obtain ⟨u, u1, u2, u3⟩ := hx_walkTo_ok (L := L) h hw t1 t2 hS (Nat.le_refl n)
  rw [if_neg (by omega)] at u3
  have hb := wk_bd (x := x) hS.ok (i := n) (fun j hj => (w10 j (by omega)).2.2)
  obtain ⟨q, q1, q2, q3, q4⟩ := hx_deal_lp (L := L) (Z := s 9 2 % 18446744073709551616) h e1.2 w7 (show n + m ≤ 24 by omega) t1 hS hb (by omega) m 0 u 0 (by omega) u2.d (fun k j hk => by rw [u2 _ _ (by omega)]; rfl) u3 (by rw [u2 _ _ (by decide)]; rfl) rfl
  rw [hx_lawOf_ok h w1 t1 t2, ok_bind] at hX
  dsimp only at hX
  rw [if_pos hin, w6, u1, ok_bind, Int.toNat_natCast] at hX
  dsimp only at hX
  have q1 : hx_deal_b3 L (r : Int) (m : Int) (ru_q s t) 0 0 u = _ := q1
  rw [q1] at hX
  -- the reference
  have Lq := q2.lw h.lw
  obtain ⟨Sq, -⟩ := FD.S h.lw q2 (show t < 16 by omega) hS
  have g1 : ∀ k j, 242 ≤ k → q k j = s k j := fun k j hk => q2 k j (by omega) (by omega) (by omega)
  have hmid : ∃ y, md_ahead L (r : Int) (n : Int) q = ok L 0 y ∧ FM q y ∧ asM y (wk rs x (fun k => s 246 (24 * r + k)) (fun k => s 247 (24 * r + k)) n) := by
    exact md_ahead_ok Lq (hw.m.eq (fun k j hk => g1 _ _ (by omega))) t1 (by rw [g1 _ _ (by decide)]; exact t3) Sq (Nat.le_refl n)
  obtain ⟨y, y1, y2, y3⟩ := hmid
  have hz0 : s 242 4 % 18446744073709551616 = s 9 2 % 18446744073709551616 := (w64_iff.mp h.1.2.1.2.2.1).symm
  obtain ⟨z, z1, z2, z3, z4⟩ := md_deal_lp (L := L) (Z := s 9 2 % 18446744073709551616) (q := q) h e1.2 w7 (show n + m ≤ 24 by omega) t1 Lq Sq hb (by omega) m 0 y 0 (by omega) y2.e (fun k j hk => by rw [y2 _ _ (by omega) (by omega), g1 _ _ (by omega)]; rfl) y3 (by rw [y2 _ _ (by decide) (by decide), g1 _ _ (by decide), hz0]; rfl) rfl
  have z1 : md_deal_b3 L (r : Int) (m : Int) (t : Int) 0 0 y = _ := z1
  have hYq := hY q
  rw [tst (md_isRow_ok h1 (by rw [g1 _ _ (by decide)]; omega)), if_pos (by rw [g1 _ _ (by decide)]; exact e1)] at hYq
  dsimp only at hYq
  rw [if_pos hin, Int.toNat_natCast, g1 244 r (by decide), w7, tst (md_isIn_ok h2 i_lit ⟨by omega, by omega⟩), if_pos (by omega)] at hYq
  dsimp only at hYq
  rw [if_pos hin, if_pos hin, g1 244 r (by decide), w7, y1, ok_bind] at hYq
  dsimp only at hYq
  rw [g1 243 r (by decide), t3, z1] at hYq
  obtain ⟨hT, hT2, hT3⟩ := dT_ok (v := wk rs x (fun k => s 246 (24 * r + k)) (fun k => s 247 (24 * r + k)) n) (Z := s 9 2 % 18446744073709551616) h e1.2 w7 hS.ok m (by omega)
  generalize hTT : dT s r n rs (wk rs x (fun k => s 246 (24 * r + k)) (fun k => s 247 (24 * r + k)) n) (s 9 2 % 18446744073709551616) m = T at *
  refine ⟨_, _, _, _, hX, hYq, rfl, ?_, fun k hk => funext fun j => q2 _ _ (by omega) (by omega) (by omega), fun k hk => funext fun j => by rw [z2 _ _ (by omega) (by omega) (by omega) (by omega), q2 _ _ (by omega) (by omega) (by omega)]⟩
  have hE : Inv (up (up T 9 2 (z 9 2)) 242 4 (z 242 4)) := by
    refine hT.court ?_ (fun k j h1 h2 h3 => ?_)
    · obtain ⟨c1, c2, c3, c4, c5, c6, c7⟩ := hT.1.2.1
      refine ⟨?_, ?_, ?_, ?_, ?_, fun q hq => ?_, fun a q z1 z2 z3 z4 => ?_⟩
      · rw [up_k (by decide), up_j (by decide), up_j (by decide), up_k (by decide)]; exact c1
      · rw [up_k (by decide), up_j (by decide), up_j (by decide), up_k (by decide)]; exact c2
      · rw [up_k (by decide), up_s, up_s]
        have e9 : z 9 2 = q 9 2 := z2 _ _ (by decide) (by decide) (by decide) (by decide)
        rw [e9]
        exact w64_iff.mpr (q4.trans z4.symm)
      · rw [up_j (by decide), up_k (by decide)]; exact c4
      · rw [up_j (by decide), up_k (by decide)]; exact c5
      · rw [up_j (by decide), up_k (by decide)] at hq
        refine (c6 q hq).eqv (fun a a1 a5 => ?_) ?_ ?_ ?_ (fun k hk => ?_) (fun k hk => ?_)
        · rw [up_k (by omega), up_k (by omega)]
        all_goals rw [up_k (by decide), up_k (by decide)]
      · rw [up_j (by decide), up_k (by decide)] at z3
        rw [up_k (by omega), up_k (by omega)]
        exact c7 a q z1 z2 z3 z4
    · unfold up
      rw [if_neg (by omega), if_neg (by omega)]
  refine Eqh.I (fun k j hn => ?_) hE
  have hn2 : k ≠ 29 ∧ k ≠ 259 ∧ k ≠ 262 := ⟨fun e => hn (by subst e; exact ⟨by unfold scr; omega, by decide, by omega⟩), fun e => hn (by subst e; exact ⟨by unfold scr; omega, by decide, by omega⟩), fun e => hn (by subst e; exact ⟨by unfold scr; omega, by decide, by omega⟩)⟩
  unfold up
  by_cases c1 : k = 242 ∧ j = 4
  · rw [if_pos c1, c1.1, c1.2]
  rw [if_neg c1]
  by_cases c2 : k = 9 ∧ j = 2
  · rw [if_pos c2, c2.1, c2.2]
  rw [if_neg c2]
  by_cases c3 : 244 ≤ k ∧ k ≤ 247
  · exact z3 k j c3
  rw [z2 k j hn2.2.1 hn2.2.2 c1 c3]
  by_cases c4 : 11 ≤ k ∧ k ≤ 14
  · exact q3 k j c4
  rw [q2 k j hn2.1 c2 c4, hT3 k j c4 c3]
end
