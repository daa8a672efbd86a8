/-! bets: the reference, the call -/
section
variable {L : Nat} {s : hh_Sv}
def FB (s u : hh_Sv) : Prop := ∀ k j, k ≠ 259 → k ≠ 262 → k ≠ 281 → u k j = s k j
theorem FB.rf : FB s s := fun _ _ _ _ _ => rfl
theorem FB.tr {u w : hh_Sv} (h1 : FB s u) (h2 : FB u w) : FB s w := fun k j a b c => (h2 k j a b c).trans (h1 k j a b c)
theorem FM.b {u : hh_Sv} (h : FM s u) : FB s u := fun k j a b _ => h k j a b
theorem FB.up {u : hh_Sv} {j : Nat} {w : Int} (h : FB s u) : FB s (up u 281 j w) := fun k i a b c => by
  rw [up_k c]
  exact h k i a b c
theorem FB.q {u : hh_Sv} (h : FB s u) : Eqh s u := fun k j hn => h k j (fun e => hn (by subst e; exact ⟨by unfold scr; omega, by decide, by omega⟩)) (fun e => hn (by subst e; exact ⟨by unfold scr; omega, by decide, by omega⟩)) (fun e => hn (by subst e; exact ⟨by unfold scr; omega, by decide, by omega⟩))
theorem ru_f_id : ∀ {bs : List Ru}, (∀ r ∈ bs, r.1 ≤ 5) → ru_f bs = bs := fun {bs} h => by
  unfold ru_f
  exact List.filter_eq_self.mpr (fun a ha => decide_eq_true (h a ha))
theorem md_bet_lp {sl : Nat} {bs : List Ru} {v : Nat → Int} {N : Int} {a2 a4 a5 : Int} (hsl : 12 ≤ sl ∧ sl < 16) (hB : ru_S s sl bs) (ha : asM s v) (hv : VB v N) (hN : N < 2147483648) : ∀ (i : Nat) (u : hh_Sv), i ≤ bs.length → F9 s u → ∃ u', F9 s u' ∧ md_lays__b5 L a2 (sl : Int) a4 a5 ((fk v (bs.drop i) : Nat) : Int) (((24 * sl + i : Nat) : Int) - 1) u = md_lays__b5 L a2 (sl : Int) a4 a5 ((fk v bs : Nat) : Int) (((24 * sl : Nat) : Int) - 1) u' := by
  have hid : ru_f bs = bs := ru_f_id (fun r hr => (hB.2.1 r hr).2 hsl.1)
  have hM := hB.2.2.2.2.1
  rw [hid] at hM
  have hl := hB.1
  intro i
  induction i with
  | zero =>
    intro u hi g
    rw [List.drop_zero, Nat.add_zero]
    exact ⟨u, g, rfl⟩
  | succ i ih =>
    intro u hi g
    obtain ⟨r, r1, r2, r3⟩ := drop_at (rs := bs) (i := i) (by omega)
    obtain ⟨c1, c2, c3, c4, c5⟩ := hM.2 i r r1
    have hMu : ru_M u sl bs := hM.eqv (by omega) hl hB.2.2.1 (g _ _ (by decide)) (fun k j _ _ _ => g _ _ (by omega)) (fun k j _ _ _ => g _ _ (by omega))
    obtain ⟨w, w1, w2⟩ := md_isTrue_ok (L := L) (show sl < 16 by omega) hMu hl hB.2.2.1 r1 (hB.ok r r3) (ha.f9 g) hv hN
    have gw : F9 s w := fun a b hn => (w2 a b hn).trans (g a b hn)
    obtain ⟨u', q1, q2⟩ := ih w (by omega) gw
    refine ⟨u', q1, ?_⟩
    rw [← q2, r2, fk, show (((24 * sl + (i + 1) : Nat) : Int) - 1) = ((24 * sl + i : Nat) : Int) by omega, md_lays__b5_eq, if_neg (by rw [w32_id (by omega) (by omega), w32_id (by omega) (by omega)]; omega), w1, ok_bind]
    dsimp only
    cases e : rtr v r.2.2
    · rw [if_pos bw_f, if_neg (by decide)]
      rfl
    · rw [if_neg bw_t, if_pos (by omega), Int.toNat_natCast, gw _ _ (by decide), c1, if_pos rfl]
      rfl
theorem md_lays_ok {t wt : Nat} {rs bs : List Ru} (h : Inv s) (ht : t < 12) (hwt : wt < 4) (hS : ru_S s t rs) (hB : ru_S s (12 + wt) bs) : ∃ y, md_lays_ L (wt : Int) (t : Int) s = ok L 0 y ∧ FB s y ∧ ∀ w, w < 4 → y 281 w = sg (rF s rs t (btF bs w)) (s 242 3).toNat := by
  obtain ⟨R1, R2, R3⟩ := h.R
  obtain ⟨R, hR, hR2⟩ := row_n h
  have t16 : t < 16 := by omega
  rw [md_lays__eq, hR, Int.toNat_natCast]
  have first : ∃ u, md_lays__b1 L (wt : Int) (t : Int) 0 s = md_lays__b3 L (t : Int) ((12 + wt : Nat) : Int) 0 u ∧ FB s u ∧ ∀ w, w < 4 → u 281 w = 0 := by
    refine lp_st (n := 4) (fun z u => md_lays__b1 L (wt : Int) (t : Int) z u) (fun i u => FB s u ∧ ∀ w, w < i → u 281 w = 0) (fun q => ∃ u, q = md_lays__b3 L (t : Int) ((12 + wt : Nat) : Int) 0 u ∧ FB s u ∧ ∀ w, w < 4 → u 281 w = 0) ?_ ?_ 4 0 s (by omega) ⟨FB.rf, fun w hw => by omega⟩
    · intro i u hi ⟨g, p⟩
      refine ⟨up u 281 i 0, ⟨g.up, fun w hw => ?_⟩, ?_⟩
      · by_cases e : w = i
        · rw [e, up_s]
        · rw [up_j e]
          exact p w (by omega)
      · show md_lays__b1 L (wt : Int) (t : Int) (i : Int) u = md_lays__b1 L (wt : Int) (t : Int) ((i : Int) + 1) (up u 281 i 0)
        rw [md_lays__b1_eq, if_pos (by rw [w32_id (by omega) (by omega)]; omega), if_pos (by omega), Int.toNat_natCast]
    · intro u ⟨g, p⟩
      refine ⟨u, ?_, g, p⟩
      show md_lays__b1 L (wt : Int) (t : Int) ((4 : Nat) : Int) u = _
      rw [md_lays__b1_eq, if_neg (by rw [w32_id (by decide) (by decide)]; decide), show (12 : Int) + (wt : Int) = ((12 + wt : Nat) : Int) by omega]
  obtain ⟨u0, f1, f2, f3⟩ := first
  rw [f1]
  have main : ∀ (j r : Nat) (u : hh_Sv), r + j = R → FB s u → (∀ w, w < 4 → u 281 w = sg (rF s rs t (btF bs w)) r) → ∃ y, md_lays__b3 L (t : Int) ((12 + wt : Nat) : Int) (r : Int) u = ok L 0 y ∧ FB s y ∧ ∀ w, w < 4 → y 281 w = sg (rF s rs t (btF bs w)) R := by
    intro j
    induction j with
    | zero =>
      intro r u e g p
      rw [Nat.add_zero] at e
      subst e
      rw [md_lays__b3_eq, if_neg (by rw [g _ _ (by decide) (by decide) (by decide), hR]; omega)]
      exact ⟨u, rfl, g, p⟩
    | succ j ih =>
      intro r u e g p
      have hr : (r : Int) < s 242 3 := by omega
      obtain ⟨x, n, hw⟩ := row_RW h hr
      obtain ⟨ex, en⟩ := hw.x
      obtain ⟨b1, b2, b3, b4, b5, b6, b7, b8, b9⟩ := h.row hr
      have w10 := hw.2.2.2.2.2.2.2.2.2
      have hn := hw.2.1
      have hin : (0 : Int) ≤ (r : Int) ∧ (r : Int) < 60 := by have := hw.1; omega
      rw [md_lays__b3_eq, if_pos (by rw [g _ _ (by decide) (by decide) (by decide), hR, w32_id (by omega) (by omega), w32_id (by omega) (by omega)]; omega)]
      by_cases eo : s 243 r = (t : Int)
      case neg =>
        have e0 : ∀ w, sg (rF s rs t (btF bs w)) (r + 1) = sg (rF s rs t (btF bs w)) r := fun w => by
          rw [sg]
          unfold rF
          rw [if_neg eo, Int.add_zero]
        have hnx := ih (r + 1) u (by omega) g (fun w hw => by rw [e0]; exact p w hw)
        rw [md_lays__b4_eq, if_pos hin, Int.toNat_natCast]
        have ew : ¬ w32 (u 243 r) = w32 (t : Int) := by
          rw [g _ _ (by decide) (by decide) (by decide), w32_id (by omega) (by omega), w32_id (by omega) (by omega)]
          exact eo
        by_cases en0 : w32 0 < w32 (u 244 r)
        · rw [if_pos en0, if_pos hin, if_neg ew]
          exact hnx
        · rw [if_neg en0]
          exact hnx
      have inner : ∀ (j k : Nat) (u : hh_Sv), k + j = n → FB s u → (∀ w, w < 4 → u 281 w = sg (rF s rs t (btF bs w)) r + sg (gF s rs (btF bs w) r) k) → ∃ u', FB s u' ∧ (∀ w, w < 4 → u' 281 w = sg (rF s rs t (btF bs w)) r + sg (gF s rs (btF bs w) r) n) ∧ md_lays__b4 L (t : Int) ((12 + wt : Nat) : Int) (r : Int) (k : Int) u = md_lays__b4 L (t : Int) ((12 + wt : Nat) : Int) (r : Int) (n : Int) u' := by
        intro j
        induction j with
        | zero =>
          intro k u e g p
          rw [Nat.add_zero] at e
          subst e
          exact ⟨u, g, p, rfl⟩
        | succ j ih2 =>
          intro k u e g p
          have hwu := hw.m.q g.q
          obtain ⟨Su, -⟩ := hS.q h.lw g.q t16
          obtain ⟨y, y1, y2, y3⟩ := md_ahead_ok (L := L) (g.q.lw h.lw) hwu ht (by rw [g _ _ (by decide) (by decide) (by decide)]; exact eo) Su (show k ≤ n by omega)
          have gy := g.tr y2.b
          have hwy := hw.m.q gy.q
          have hb := wk_bd (x := x) hS.ok (i := k) (fun j hj => (w10 j (by omega)).2.2)
          have hrk : (0 ≤ s 246 (24 * r + k) ∧ s 246 (24 * r + k) ≤ 3) ∧ 0 ≤ s 247 (24 * r + k) ∧ s 247 (24 * r + k) ≤ 3 := (w10 k (by omega)).2.2
          have ev : s45 (wk rs x (fun k => s 246 (24 * r + k)) (fun k => s 247 (24 * r + k)) k) (s 246 (24 * r + k)) (s 247 (24 * r + k)) = v45 s rs r k := by unfold v45; rw [ex]
          obtain ⟨z, z1, z2, z3⟩ := md_asks_ok (L := L) (a := s 246 (24 * r + k)) (b := s 247 (24 * r + k)) y3
          rw [ev] at z3
          have hv45 := hb.p45 (h := s 246 (24 * r + k)) (g := s 247 (24 * r + k)) (by omega) (by omega)
          rw [ev] at hv45
          have gz := gy.tr z2.b
          obtain ⟨Bz, -⟩ := hB.q h.lw gz.q (show 12 + wt < 16 by omega)
          have hid : ru_f bs = bs := ru_f_id (fun r hr => (hB.2.1 r hr).2 (by omega))
          have hMz := Bz.2.2.2.2.1
          rw [hid] at hMz
          obtain ⟨q, q1, q2⟩ := md_bet_lp (L := L) (a2 := (t : Int)) (a4 := (r : Int)) (a5 := (k : Int)) (show 12 ≤ 12 + wt ∧ 12 + wt < 16 by omega) Bz z3 hv45 (by omega) bs.length z (Nat.le_refl _) (fun _ _ _ => rfl)
          rw [List.drop_length, fk] at q2
          have gq : FB s q := gz.tr (F9.m q1).b
          have hwq := hw.m.q gq.q
          have pq : ∀ w, w < 4 → q 281 w = sg (rF s rs t (btF bs w)) r + sg (gF s rs (btF bs w) r) k := fun w hw => by
            rw [q1 _ _ (by decide), z2 _ _ (by decide) (by decide), y2 _ _ (by decide) (by decide)]
            exact p w hw
          have e4 : ∀ w, sg (gF s rs (btF bs w) r) (k + 1) = sg (gF s rs (btF bs w) r) k + btF bs w (v45 s rs r k) (x.testBit k) := fun w => by
            rw [sg]
            have : gF s rs (btF bs w) r k = btF bs w (v45 s rs r k) (x.testBit k) := by unfold gF; rw [ex]
            rw [this]
          have tb := Bool.toNat_le (x.testBit k)
          have hlen := hB.1
          suffices hfin : ∃ q', FB s q' ∧ (∀ w, w < 4 → q' 281 w = sg (rF s rs t (btF bs w)) r + sg (gF s rs (btF bs w) r) (k + 1)) ∧ md_lays__b4 L (t : Int) ((12 + wt : Nat) : Int) (r : Int) (k : Int) u = md_lays__b4 L (t : Int) ((12 + wt : Nat) : Int) (r : Int) ((k : Int) + 1) q' by
            obtain ⟨q', g', p', r'⟩ := hfin
            obtain ⟨u', v1, v2, v3⟩ := ih2 (k + 1) q' (by omega) g' p'
            exact ⟨u', v1, v2, r'.trans v3⟩
          rw [md_lays__b4_eq, if_pos hin, Int.toNat_natCast, if_pos (by rw [hwu.2.2.2.2.1, w32_id (by omega) (by omega), w32_id (by omega) (by omega)]; omega), if_pos hin, if_pos (by rw [g _ _ (by decide) (by decide) (by decide), eo]), y1, ok_bind]
          dsimp only
          rw [md_hardAt_ok hwy (by omega), ok_bind]
          dsimp only
          rw [md_guardAt_ok hwy (by omega), ok_bind]
          dsimp only
          rw [z1, ok_bind, if_pos (by omega), Int.toNat_natCast]
          dsimp only
          rw [hMz.1, show 24 * ((12 + wt : Nat) : Int) + ((bs.length : Nat) : Int) - 1 = ((24 * (12 + wt) + bs.length : Nat) : Int) - 1 by omega]
          have q2 : md_lays__b5 L (t : Int) ((12 + wt : Nat) : Int) (r : Int) (k : Int) 5 (((24 * (12 + wt) + bs.length : Nat) : Int) - 1) z = _ := q2
          have hfk := fk_le (v := v45 s rs r k) hB.ok
          have b1 : ∀ w, (fk (v45 s rs r k) bs = (if w < 2 then 0 else 4) ∧ (w % 2 = 1 → x.testBit k = decide (w < 2))) → btF bs w (v45 s rs r k) (x.testBit k) = 1 := fun w q => if_pos q
          have b0 : ∀ w, ¬ (fk (v45 s rs r k) bs = (if w < 2 then 0 else 4) ∧ (w % 2 = 1 → x.testBit k = decide (w < 2))) → btF bs w (v45 s rs r k) (x.testBit k) = 0 := fun w q => if_neg q
          rw [q2, md_lays__b5_eq, if_pos (by rw [w32_id (by omega) (by omega), w32_id (by omega) (by omega)]; omega), w32_id (i := ((fk (v45 s rs r k) bs : Nat) : Int)) (by omega) (by omega)]
          by_cases f0 : fk (v45 s rs r k) bs = 0
          · have c0 : btF bs 0 (v45 s rs r k) (x.testBit k) = 1 := b1 0 ⟨by rw [f0]; rfl, fun q => absurd q (by decide)⟩
            have c1 : btF bs 1 (v45 s rs r k) (x.testBit k) = (((x.testBit k).toNat : Nat) : Int) := by
              cases hb2 : x.testBit k
              · rw [← hb2]
                rw [b0 1 (fun q => by have := q.2 rfl; rw [hb2] at this; exact absurd this (by decide)), hb2]
                rfl
              · rw [← hb2]
                rw [b1 1 ⟨by rw [f0]; rfl, fun _ => by rw [hb2]; rfl⟩, hb2]
                rfl
            have c2 : btF bs 2 (v45 s rs r k) (x.testBit k) = 0 := b0 2 (fun q => by have := q.1; rw [f0] at this; exact absurd this (by decide))
            have c3 : btF bs 3 (v45 s rs r k) (x.testBit k) = 0 := b0 3 (fun q => by have := q.1; rw [f0] at this; exact absurd this (by decide))
            rw [if_pos (by omega), if_pos (by decide), if_pos (by decide), if_pos (by decide), md_hit (hw.m.q (gq.up (j := 0) (w := q 281 0 + 1)).q) (by omega), ok_bind]
            dsimp only
            rw [md_one_ok (by omega), ok_bind, if_pos (by decide)]
            dsimp only
            rw [md_lays__b8_eq, if_neg (by rw [w32_id (by omega) (by omega)]; omega)]
            refine ⟨_, gq.up.up, fun w hw => ?_, rfl⟩
            have hw4 : w = 0 ∨ w = 1 ∨ w = 2 ∨ w = 3 := by omega
            rcases hw4 with rfl | rfl | rfl | rfl
            · rw [up_j (by decide), up_s, pq 0 (by decide), e4, c0, Int.add_assoc]
            · rw [up_s, pq 1 (by decide), e4, c1, Int.add_assoc]
            · rw [up_j (by decide), up_j (by decide), pq 2 (by decide), e4, c2, Int.add_zero]
            · rw [up_j (by decide), up_j (by decide), pq 3 (by decide), e4, c3, Int.add_zero]
          · have c0 : btF bs 0 (v45 s rs r k) (x.testBit k) = 0 := b0 0 (fun q => f0 q.1)
            have c1 : btF bs 1 (v45 s rs r k) (x.testBit k) = 0 := b0 1 (fun q => f0 q.1)
            rw [if_neg (by omega), md_lays__b8_eq, w32_id (i := ((fk (v45 s rs r k) bs : Nat) : Int)) (by omega) (by omega)]
            by_cases f4 : fk (v45 s rs r k) bs = 4
            · have c2 : btF bs 2 (v45 s rs r k) (x.testBit k) = 1 := b1 2 ⟨by rw [f4]; rfl, fun q => absurd q (by decide)⟩
              have b10 : ∀ c : Nat, (c = 0 ∨ c = 1) → btF bs 3 (v45 s rs r k) (x.testBit k) = (c : Int) → ∃ q', FB s q' ∧ (∀ w, w < 4 → q' 281 w = sg (rF s rs t (btF bs w)) r + sg (gF s rs (btF bs w) r) (k + 1)) ∧ md_lays__b10 L (t : Int) ((12 + wt : Nat) : Int) (r : Int) (k : Int) 3 (q 281 3) (c : Int) (up q 281 2 (q 281 2 + 1)) = md_lays__b4 L (t : Int) ((12 + wt : Nat) : Int) (r : Int) ((k : Int) + 1) q' := fun c hc c3 => by
                rw [md_lays__b10_eq, md_one_ok hc, ok_bind, if_pos (by decide)]
                refine ⟨_, gq.up.up, fun w hw => ?_, rfl⟩
                have hw4 : w = 0 ∨ w = 1 ∨ w = 2 ∨ w = 3 := by omega
                rcases hw4 with rfl | rfl | rfl | rfl
                · rw [up_j (by decide), up_j (by decide), pq 0 (by decide), e4, c0, Int.add_zero]
                · rw [up_j (by decide), up_j (by decide), pq 1 (by decide), e4, c1, Int.add_zero]
                · rw [up_j (by decide), up_s, pq 2 (by decide), e4, c2, Int.add_assoc]
                · show up (up q 281 2 (q 281 2 + 1)) 281 3 (q 281 3 + (c : Int)) 281 3 = _
                  rw [up_s, pq 3 (by decide), e4, c3, Int.add_assoc]
              rw [if_pos (by omega), if_pos (by decide), if_pos (by decide), if_pos (by decide), md_hit (hw.m.q (gq.up (j := 2) (w := q 281 2 + 1)).q) (by omega), ok_bind]
              dsimp only
              cases hb2 : x.testBit k
              · rw [hb2] at b10 b1
                rw [if_pos bw_f]
                exact b10 1 (Or.inr rfl) (b1 3 ⟨by rw [f4]; rfl, fun _ => rfl⟩)
              · rw [hb2] at b10 b0
                rw [if_neg bw_t]
                exact b10 0 (Or.inl rfl) (b0 3 (fun q => by have := q.2 rfl; exact absurd this (by decide)))
            · have c2 : btF bs 2 (v45 s rs r k) (x.testBit k) = 0 := b0 2 (fun q => f4 q.1)
              have c3 : btF bs 3 (v45 s rs r k) (x.testBit k) = 0 := b0 3 (fun q => f4 q.1)
              rw [if_neg (by omega)]
              refine ⟨q, gq, fun w hw => ?_, rfl⟩
              have hw4 : w = 0 ∨ w = 1 ∨ w = 2 ∨ w = 3 := by omega
              rcases hw4 with rfl | rfl | rfl | rfl
              · rw [pq 0 (by decide), e4, c0, Int.add_zero]
              · rw [pq 1 (by decide), e4, c1, Int.add_zero]
              · rw [pq 2 (by decide), e4, c2, Int.add_zero]
              · rw [pq 3 (by decide), e4, c3, Int.add_zero]
      obtain ⟨u', q1, q2, q3⟩ := inner n 0 u (by omega) g (fun w hw => by rw [p w hw]; show _ = sg (rF s rs t (btF bs w)) r + 0; rw [Int.add_zero])
      have q3 : md_lays__b4 L (t : Int) ((12 + wt : Nat) : Int) (r : Int) 0 u = _ := q3
      rw [q3, md_lays__b4_eq, if_pos hin, Int.toNat_natCast, if_neg (by rw [(hw.m.q q1.q).2.2.2.2.1]; omega)]
      refine ih (r + 1) u' (by omega) q1 (fun w hw => ?_)
      rw [q2 w hw, sg]
      congr 1
      unfold rF
      rw [if_pos eo, en]
  exact main R 0 u0 (by omega) f2 f3
end
