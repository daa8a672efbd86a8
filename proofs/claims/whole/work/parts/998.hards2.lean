/-! hards: the reference, the call -/
section
variable {L : Nat} {s : hh_Sv}
def F7 (s u : hh_Sv) : Prop := ∀ k j, k ≠ 277 → u k j = s k j
theorem F7.rf : F7 s s := fun _ _ _ => rfl
theorem F7.tr {u w : hh_Sv} (h1 : F7 s u) (h2 : F7 u w) : F7 s w := fun k j a => (h2 k j a).trans (h1 k j a)
theorem F7.up {u : hh_Sv} {j : Nat} {w : Int} (h : F7 s u) : F7 s (up u 277 j w) := fun k i a => by
  rw [up_k a]
  exact h k i a
theorem F7.q {u : hh_Sv} (h : F7 s u) : Eqh s u := fun k j hn => h k j (fun e => hn (by subst e; exact ⟨by unfold scr; omega, by decide, by omega⟩))
theorem md_counts_step {t r k hh : Nat} {b bb : Bool} {u : hh_Sv} (hh3 : hh ≤ 3) : ∃ y, md_counts_b6 L (t : Int) (r : Int) (k : Int) (4 * (hh : Int)) ((b.toNat : Nat) : Int) ((bb.toNat : Nat) : Int) u = md_counts_b4 L (t : Int) (r : Int) ((k : Int) + 1) y ∧ F7 u y ∧ (∀ q w, q ≤ 3 → w ≤ 3 → q ≠ hh → y 277 (4 * q + w) = u 277 (4 * q + w)) ∧ y 277 (4 * hh) = u 277 (4 * hh) + ((b.toNat : Nat) : Int) ∧ y 277 (4 * hh + 1) = u 277 (4 * hh + 1) + 1 ∧ y 277 (4 * hh + 2) = u 277 (4 * hh + 2) + (((b && bb).toNat : Nat) : Int) ∧ y 277 (4 * hh + 3) = u 277 (4 * hh + 3) + ((bb.toNat : Nat) : Int) := by
  have n0 : (4 * (hh : Int)).toNat = 4 * hh := by omega
  have n1 : (4 * (hh : Int) + 1).toNat = 4 * hh + 1 := by omega
  have n2 : (4 * (hh : Int) + 2).toNat = 4 * hh + 2 := by omega
  have n3 : (4 * (hh : Int) + 3).toNat = 4 * hh + 3 := by omega
  have b8 : ∀ (c : Bool) (v : hh_Sv), ∃ y, md_counts_b8 L (t : Int) (r : Int) (k : Int) (4 * (hh : Int)) ((bb.toNat : Nat) : Int) (4 * (hh : Int) + 2) (v 277 (4 * hh + 2)) ((c.toNat : Nat) : Int) v = md_counts_b4 L (t : Int) (r : Int) ((k : Int) + 1) y ∧ y = up (up v 277 (4 * hh + 2) (v 277 (4 * hh + 2) + ((c.toNat : Nat) : Int))) 277 (4 * hh + 3) (v 277 (4 * hh + 3) + ((bb.toNat : Nat) : Int)) := fun c v => by
    refine ⟨_, ?_, rfl⟩
    rw [md_counts_b8_eq, if_pos (by omega), if_pos (by omega), md_one_ok (by have := Bool.toNat_le bb; omega), ok_bind, if_pos (by omega), n2, n3, up_j (by omega)]
  obtain ⟨v, hv⟩ : ∃ v, v = up (up u 277 (4 * hh) (u 277 (4 * hh) + ((b.toNat : Nat) : Int))) 277 (4 * hh + 1) (u 277 (4 * hh + 1) + 1) := ⟨_, rfl⟩
  have v2 : v 277 (4 * hh + 2) = u 277 (4 * hh + 2) := by rw [hv, up_j (by omega), up_j (by omega)]
  have v3 : v 277 (4 * hh + 3) = u 277 (4 * hh + 3) := by rw [hv, up_j (by omega), up_j (by omega)]
  have e6 : md_counts_b6 L (t : Int) (r : Int) (k : Int) (4 * (hh : Int)) ((b.toNat : Nat) : Int) ((bb.toNat : Nat) : Int) u = md_counts_b8 L (t : Int) (r : Int) (k : Int) (4 * (hh : Int)) ((bb.toNat : Nat) : Int) (4 * (hh : Int) + 2) (v 277 (4 * hh + 2)) (((b && bb).toNat : Nat) : Int) v := by
    rw [md_counts_b6_eq, if_pos (by omega), if_pos (by omega), if_pos (by omega), if_pos (by omega), if_pos (by omega), n0, n1, n2, up_j (show 4 * hh + 1 ≠ 4 * hh by omega), ← hv]
    cases bb
    · rw [if_pos bw_f, Bool.and_false]
      rfl
    · rw [if_neg bw_t, Bool.and_true]
  obtain ⟨y, y1, y2⟩ := b8 (b && bb) v
  refine ⟨y, e6.trans y1, ?_, fun q w hq hw hne => ?_, ?_, ?_, ?_, ?_⟩
  · rw [y2, hv]
    exact F7.rf.up.up.up.up
  · rw [y2, up_j (by omega), up_j (by omega), hv, up_j (by omega), up_j (by omega)]
  · rw [y2, up_j (by omega), up_j (by omega), hv, up_j (by omega), up_s]
  · rw [y2, up_j (by omega), up_j (by omega), hv, up_s]
  · rw [y2, up_j (by omega), up_s, v2]
  · rw [y2, up_s, v3]
theorem md_counts_ok {t : Nat} (h : Inv s) (ht : t < 12) : ∃ y, md_counts L (t : Int) s = ok L 0 y ∧ F7 s y ∧ ∀ q w, q ≤ 3 → w ≤ 3 → y 277 (4 * q + w) = sg (hT s t q w) (s 242 3).toNat := by
  obtain ⟨R1, R2, R3⟩ := h.R
  obtain ⟨R, hR, hR2⟩ := row_n h
  rw [md_counts_eq, hR, Int.toNat_natCast]
  have first : ∃ u, md_counts_b1 L (t : Int) 0 s = md_counts_b3 L (t : Int) 0 u ∧ F7 s u ∧ ∀ w, w < 16 → u 277 w = 0 := by
    refine lp_st (n := 16) (fun z u => md_counts_b1 L (t : Int) z u) (fun i u => F7 s u ∧ ∀ w, w < i → u 277 w = 0) (fun q => ∃ u, q = md_counts_b3 L (t : Int) 0 u ∧ F7 s u ∧ ∀ w, w < 16 → u 277 w = 0) ?_ ?_ 16 0 s (by omega) ⟨F7.rf, fun w hw => by omega⟩
    · intro i u hi ⟨g, p⟩
      refine ⟨up u 277 i 0, ⟨g.up, fun w hw => ?_⟩, ?_⟩
      · by_cases e : w = i
        · rw [e, up_s]
        · rw [up_j e]
          exact p w (by omega)
      · show md_counts_b1 L (t : Int) (i : Int) u = md_counts_b1 L (t : Int) ((i : Int) + 1) (up u 277 i 0)
        rw [md_counts_b1_eq, if_pos (by rw [w32_id (by omega) (by omega)]; omega), if_pos (by omega), Int.toNat_natCast]
    · intro u ⟨g, p⟩
      refine ⟨u, ?_, g, p⟩
      show md_counts_b1 L (t : Int) ((16 : Nat) : Int) u = _
      rw [md_counts_b1_eq, if_neg (by rw [w32_id (by decide) (by decide)]; decide)]
  obtain ⟨u0, f1, f2, f3⟩ := first
  rw [f1]
  have main : ∀ (j r : Nat) (u : hh_Sv), r + j = R → F7 s u → (∀ q w, q ≤ 3 → w ≤ 3 → u 277 (4 * q + w) = sg (hT s t q w) r) → ∃ y, md_counts_b3 L (t : Int) (r : Int) u = ok L 0 y ∧ F7 s y ∧ ∀ q w, q ≤ 3 → w ≤ 3 → y 277 (4 * q + w) = sg (hT s t q w) R := by
    intro j
    induction j with
    | zero =>
      intro r u e g p
      rw [Nat.add_zero] at e
      subst e
      rw [md_counts_b3_eq, if_neg (by rw [g _ _ (by decide), hR]; omega)]
      exact ⟨u, rfl, g, p⟩
    | succ j ih =>
      intro r u e g p
      have hr : (r : Int) < s 242 3 := by omega
      obtain ⟨x, n, hw⟩ := row_RW h hr
      obtain ⟨ex, en⟩ := hw.x
      obtain ⟨b1, b2, b3, b4, b5, b6, b7, b8, b9⟩ := h.row hr
      have w10 := hw.2.2.2.2.2.2.2.2.2
      have hn := hw.2.1
      have hin : (0 : Int) ≤ (r : Int) ∧ (r : Int) < 60 := by have := hw.1; omega
      rw [md_counts_b3_eq, if_pos (by rw [g _ _ (by decide), hR, w32_id (by omega) (by omega), w32_id (by omega) (by omega)]; omega)]
      by_cases eo : s 243 r = (t : Int)
      case neg =>
        have e0 : ∀ q w, sg (hT s t q w) (r + 1) = sg (hT s t q w) r := fun q w => by
          rw [sg]
          unfold hT
          rw [if_neg eo, Int.add_zero]
        have hnx := ih (r + 1) u (by omega) g (fun q w hq hw => by rw [e0]; exact p q w hq hw)
        rw [md_counts_b4_eq, if_pos hin, Int.toNat_natCast]
        have ew : ¬ w32 (u 243 r) = w32 (t : Int) := by
          rw [g _ _ (by decide), w32_id (by omega) (by omega), w32_id (by omega) (by omega)]
          exact eo
        by_cases en0 : w32 0 < w32 (u 244 r)
        · rw [if_pos en0, if_pos hin, if_neg ew]
          exact hnx
        · rw [if_neg en0]
          exact hnx
      have inner : ∀ (j k : Nat) (u : hh_Sv), k + j = n → F7 s u → (∀ q w, q ≤ 3 → w ≤ 3 → u 277 (4 * q + w) = sg (hT s t q w) r + ((cnt (hbw x (fun k => s 246 (24 * r + k)) q w) k : Nat) : Int)) → ∃ u', F7 s u' ∧ (∀ q w, q ≤ 3 → w ≤ 3 → u' 277 (4 * q + w) = sg (hT s t q w) r + ((cnt (hbw x (fun k => s 246 (24 * r + k)) q w) n : Nat) : Int)) ∧ md_counts_b4 L (t : Int) (r : Int) (k : Int) u = md_counts_b4 L (t : Int) (r : Int) (n : Int) u' := by
        intro j
        induction j with
        | zero =>
          intro k u e g p
          rw [Nat.add_zero] at e
          subst e
          exact ⟨u, g, p, rfl⟩
        | succ j ih2 =>
          intro k u e g p
          have hwu := hw.m.q g.q
          have hrk : 0 ≤ s 246 (24 * r + k) ∧ s 246 (24 * r + k) ≤ 3 := (w10 k (by omega)).2.2.1
          obtain ⟨hh, hhe⟩ := Int.eq_ofNat_of_zero_le hrk.1
          obtain ⟨bb, hbb⟩ : ∃ bb : Bool, bb = (decide (1 ≤ k) && x.testBit (k - 1)) := ⟨_, rfl⟩
          have tb := Bool.toNat_le (x.testBit k)
          obtain ⟨y, y1, y2, y3, y4, y5, y6, y7⟩ := md_counts_step (L := L) (t := t) (r := r) (k := k) (hh := hh) (b := x.testBit k) (bb := bb) (u := u) (by omega)
          have py : ∀ q w, q ≤ 3 → w ≤ 3 → y 277 (4 * q + w) = sg (hT s t q w) r + ((cnt (hbw x (fun k => s 246 (24 * r + k)) q w) (k + 1) : Nat) : Int) := fun q w hq hw => by
            rw [cnt]
            have pu := p q w hq hw
            by_cases eq : q = hh
            · subst eq
              have ed : decide ((fun k => s 246 (24 * r + k)) k = ((q : Nat) : Int)) = true := decide_eq_true hhe
              have hw4 : w = 0 ∨ w = 1 ∨ w = 2 ∨ w = 3 := by omega
              rcases hw4 with rfl | rfl | rfl | rfl
              · have e1 : hbw x (fun k => s 246 (24 * r + k)) q 0 k = x.testBit k := by
                  unfold hbw
                  rw [ed, Bool.true_and, show decide (0 % 2 = 1) = false from rfl, Bool.false_or, show decide (0 < 2) = true from rfl, Bool.true_or, Bool.and_true]
                rw [e1]
                rw [Nat.add_zero] at pu ⊢
                rw [y4, pu]
                omega
              · have e1 : hbw x (fun k => s 246 (24 * r + k)) q 1 k = true := by
                  unfold hbw
                  rw [ed, Bool.true_and, show decide (1 % 2 = 1) = true from rfl, Bool.true_or, show decide (1 < 2) = true from rfl, Bool.true_or]
                  rfl
                rw [e1, y5, pu]
                show _ = sg (hT s t q 1) r + ((cnt (hbw x (fun k => s 246 (24 * r + k)) q 1) k + 1 : Nat) : Int)
                omega
              · have e1 : hbw x (fun k => s 246 (24 * r + k)) q 2 k = (x.testBit k && bb) := by
                  unfold hbw
                  rw [ed, Bool.true_and, show decide (2 % 2 = 1) = false from rfl, Bool.false_or, show decide (2 < 2) = false from rfl, Bool.false_or, hbb]
                rw [e1, y6, pu]
                omega
              · have e1 : hbw x (fun k => s 246 (24 * r + k)) q 3 k = bb := by
                  unfold hbw
                  rw [ed, Bool.true_and, show decide (3 % 2 = 1) = true from rfl, Bool.true_or, show decide (3 < 2) = false from rfl, Bool.false_or, Bool.true_and, hbb]
                rw [e1, y7, pu]
                omega
            · have e1 : hbw x (fun k => s 246 (24 * r + k)) q w k = false := by
                unfold hbw
                rw [decide_eq_false (show ¬ (fun k => s 246 (24 * r + k)) k = (q : Int) by show ¬ s 246 (24 * r + k) = (q : Int); omega), Bool.false_and]
              rw [y3 q w hq hw eq, pu, e1]
              rfl
          obtain ⟨u', q1, q2, q3⟩ := ih2 (k + 1) y (by omega) (g.tr y2) py
          refine ⟨u', q1, q2, ?_⟩
          rw [← q3, md_counts_b4_eq, if_pos hin, Int.toNat_natCast, if_pos (by rw [hwu.2.2.2.2.1, w32_id (by omega) (by omega), w32_id (by omega) (by omega)]; omega), if_pos hin, if_pos (by rw [g _ _ (by decide), eo]), md_hardAt_ok hwu (by omega), ok_bind]
          dsimp only
          rw [md_hit hwu (by omega), ok_bind]
          dsimp only
          rw [md_one_ok (by omega), ok_bind, w32_id (i := (k : Int)) (by omega) (by omega), hhe]
          dsimp only
          by_cases ek : 1 ≤ k
          · rw [if_pos (by omega), show (k : Int) - 1 = ((k - 1 : Nat) : Int) by omega, md_hit hwu (by omega), ok_bind]
            dsimp only
            rw [decide_eq_true ek, Bool.true_and] at hbb
            rw [← hbb]
            cases bb
            · rw [if_pos bw_f, md_counts_b5_eq]
              exact y1
            · rw [if_neg bw_t]
              exact y1
          · rw [decide_eq_false ek, Bool.false_and] at hbb
            subst hbb
            rw [if_neg (by omega), md_counts_b5_eq]
            exact y1
      obtain ⟨u', q1, q2, q3⟩ := inner n 0 u (by omega) g (fun q w hq hw => by rw [p q w hq hw]; show _ = sg (hT s t q w) r + 0; rw [Int.add_zero])
      have q3 : md_counts_b4 L (t : Int) (r : Int) 0 u = _ := q3
      rw [q3, md_counts_b4_eq, if_pos hin, Int.toNat_natCast, if_neg (by rw [(hw.m.q q1.q).2.2.2.2.1]; omega)]
      refine ih (r + 1) u' (by omega) q1 (fun q w hq hw => ?_)
      rw [q2 q w hq hw, sg]
      congr 1
      unfold hT
      rw [if_pos eo, ex, en]
  exact main R 0 u0 (by omega) f2 (fun q w hq hw => f3 _ (by omega))
theorem c_hards {a1 a2 a3 : Int} (h1 : I32 a1) (h2 : I32 a2) (h3 : I32 a3) (h : Inv s) : Cal L s (hx_hards L a1 a2 a3) (md_hards L a1 a2 a3) w32 := by
  obtain ⟨T1, T2, T3⟩ := h.T
  have hX := hx_hards_eq L a1 a2 a3 s
  have hY := md_hards_eq L a1 a2 a3 s
  rw [tst (co_hasThrower_ok h1 (by omega))] at hX
  rw [tst (md_isThrower_ok h1 (by omega))] at hY
  by_cases e1 : 0 ≤ a1 ∧ a1 < s 242 2
  case neg => exact Cal.pure (hX.trans (if_neg (by omega))) (hY.trans (if_neg e1)) rfl h
  rw [if_pos (by omega)] at hX
  rw [if_pos e1] at hY
  dsimp only at hX hY
  rw [tst (hx_isIn_ok h2 i_lit i_lit)] at hX
  rw [tst (md_isIn_ok h2 i_lit i_lit)] at hY
  by_cases e2 : 0 ≤ a2 ∧ a2 ≤ 3
  case neg => exact Cal.pure (hX.trans (if_neg e2)) (hY.trans (if_neg e2)) rfl h
  rw [if_pos e2] at hX hY
  dsimp only at hX hY
  rw [tst (hx_isIn_ok h3 i_lit i_lit)] at hX
  rw [tst (md_isIn_ok h3 i_lit i_lit)] at hY
  by_cases e3 : 0 ≤ a3 ∧ a3 ≤ 3
  case neg => exact Cal.pure (hX.trans (if_neg e3)) (hY.trans (if_neg e3)) rfl h
  rw [if_pos e3] at hX hY
  dsimp only at hX hY
  obtain ⟨t, rfl⟩ := Int.eq_ofNat_of_zero_le e1.1
  obtain ⟨q, rfl⟩ := Int.eq_ofNat_of_zero_le e2.1
  obtain ⟨w, rfl⟩ := Int.eq_ofNat_of_zero_le e3.1
  obtain ⟨y, y1, y2, y3⟩ := md_counts_ok (L := L) h (show t < 12 by omega)
  rw [co_countHard_ok h (by omega) (by omega) (by omega), ok_bind] at hX
  rw [y1, ok_bind, if_pos (by omega), show (4 * (q : Int) + (w : Int)).toNat = 4 * q + w by omega] at hY
  dsimp only at hX hY
  rw [y3 q w (by omega) (by omega)] at hY
  exact Cal.q hX hY rfl Eqh.rf y2.q h
end
