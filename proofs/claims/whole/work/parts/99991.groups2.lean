/-! groups: the reference, the call -/
section
variable {L : Nat} {s : hh_Sv}
/-- the reference's best, against the numbers -/
def gM (u : hh_Sv) (n : Nat) (st : Gst) : Prop := u 279 0 = st.1 ∧ (st.1 ≠ -1 → u 279 1 = st.2.1 ∧ u 279 2 = st.2.2 ∧ u 279 3 = (n : Int) - st.2.1 - st.2.2)
theorem md_groups_lp {P : Nat → Int} {n k : Nat} {a2 : Int} (hP : ∀ i, 0 ≤ P i ∧ P i ≤ 144000) (hn : n ≤ 12) (hk : 1 ≤ k ∧ k ≤ 3) (hu : ∀ i, i < n → s 278 i = P i) (h65 : s 242 65 = (n : Int)) : ∀ (j a : Nat) (u : hh_Sv), a + j = n → FA 279 s u → gM u n (gou P n k a) → ∃ y, md_groups_b4 L (k : Int) a2 ((a : Int) + 1) u = (if 0 ≤ a2 ∧ a2 < 4 then ok L (y 279 a2.toNat) y else none) ∧ FA 279 s y ∧ gM y n (gou P n k n) := by
  intro j
  induction j with
  | zero =>
    intro a u e g p
    rw [Nat.add_zero] at e
    subst e
    rw [md_groups_b4_eq, g _ _ (by decide), h65, if_pos (by rw [w32_id (by omega) (by omega), w32_id (by omega) (by omega)]; omega)]
    exact ⟨u, rfl, g, p⟩
  | succ j ih =>
    intro a u e g p
    have inner : ∀ (j b : Nat) (u : hh_Sv), b + j = n - (a + 1) + 1 → FA 279 s u → gM u n (gin P n k (a + 1) (gou P n k a) b) → ∃ y, md_groups_b5 L (k : Int) a2 ((a + 1 : Nat) : Int) (b : Int) u = md_groups_b4 L (k : Int) a2 (((a + 1 : Nat) : Int) + 1) y ∧ FA 279 s y ∧ gM y n (gou P n k (a + 1)) := by
      intro j
      induction j with
      | zero =>
        intro b u e2 g p
        rw [Nat.add_zero] at e2
        subst e2
        rw [md_groups_b5_eq, g _ _ (by decide), h65, if_pos (by rw [w32_id (by omega) (by omega), w32_id (by omega) (by omega)]; omega)]
        exact ⟨u, rfl, g, p⟩
      | succ j ih2 =>
        intro b u e2 g p
        have hg := (gou_ok hP (k := k) hn (m := a) (by omega)).1
        have hgi := (gin_ok hP (k := k) (a := a + 1) hn (by omega) hg (m := b) (by omega)).1
        have hs := gsm_bd hP (n := n) (a := a + 1) (b := b) hn (by omega) (by omega)
        have hnx := fun u' g' => ih2 (b + 1) u' (by omega) g'
        have est : gin P n k (a + 1) (gou P n k a) (b + 1) = gstp P n k (gin P n k (a + 1) (gou P n k a) b) (a + 1) b := rfl
        rw [est] at hnx
        generalize gin P n k (a + 1) (gou P n k a) b = st at *
        have huu : ∀ i, i < n → u 278 i = P i := fun i hi => by rw [g _ _ (by decide)]; exact hu i hi
        have u65 : u 242 65 = (n : Int) := by rw [g _ _ (by decide)]; exact h65
        have no : gvl n k (a + 1) b = false → ∃ y, md_groups_b5 L (k : Int) a2 ((a + 1 : Nat) : Int) ((b : Int) + 1) u = md_groups_b4 L (k : Int) a2 (((a + 1 : Nat) : Int) + 1) y ∧ FA 279 s y ∧ gM y n (gou P n k (a + 1)) := fun q => by
          have e3 : gstp P n k st (a + 1) b = st := by unfold gstp; rw [if_neg (by rw [q]; decide)]
          rw [e3] at hnx
          exact hnx u g p
        have b13 : ∀ c : Bool, (decide (0 < b) == decide (1 < k)) = true → c = decide (0 < n - (a + 1) - b) → ∃ y, md_groups_b11 L (k : Int) a2 ((a + 1 : Nat) : Int) (b : Int) ((c.toNat : Nat) : Int) u = md_groups_b4 L (k : Int) a2 (((a + 1 : Nat) : Int) + 1) y ∧ FA 279 s y ∧ gM y n (gou P n k (a + 1)) := fun c hc1 hc => by
          have hgv : gvl n k (a + 1) b = (c == decide (2 < k)) := by unfold gvl; rw [hc1, Bool.true_and, hc]
          have p13 : ∀ d : Bool, d = decide (2 < k) → ∃ y, md_groups_b13 L (k : Int) a2 ((a + 1 : Nat) : Int) (b : Int) ((c.toNat : Nat) : Int) ((d.toNat : Nat) : Int) u = md_groups_b4 L (k : Int) a2 (((a + 1 : Nat) : Int) + 1) y ∧ FA 279 s y ∧ gM y n (gou P n k (a + 1)) := fun d hd => by
            have tc := Bool.toNat_le c
            have td := Bool.toNat_le d
            rw [md_groups_b13_eq, w32_id (i := ((c.toNat : Nat) : Int)) (by omega) (by omega), w32_id (i := ((d.toNat : Nat) : Int)) (by omega) (by omega)]
            rw [← hd] at hgv
            by_cases ecd : c = d
            · have hv : gvl n k (a + 1) b = true := by rw [hgv, ecd]; cases d <;> rfl
              have ap1 : md_apart L 0 ((a + 1 : Nat) : Int) u = ok L (aps P 0 (a + 1)) u := md_apart_ok (f := 0) hP hn huu (by omega) (by omega)
              have ap2 := md_apart_ok (L := L) (s := u) (f := a + 1) (m := b) (e := ((a + 1 : Nat) : Int) + (b : Int)) hP hn huu (by omega) (by omega)
              have ap3 := md_apart_ok (L := L) (s := u) (f := a + 1 + b) (m := n - (a + 1) - b) (e := (n : Int)) hP hn huu (by omega) (by omega)
              have esum : aps P 0 (a + 1) + aps P (a + 1) b + aps P (a + 1 + b) (n - (a + 1) - b) = gsm P n (a + 1) b := rfl
              have w0 : w32 (u 279 0) = st.1 := by rw [p.1]; exact w32_id (by have := hgi.1; omega) (by have := hgi.1; omega)
              have ws : w32 (gsm P n (a + 1) b) = gsm P n (a + 1) b := w32_id (by omega) (by omega)
              rw [if_pos (by rw [ecd]), md_tries__eq, ap1, ok_bind]
              dsimp only
              rw [ap2, ok_bind, show ((a + 1 : Nat) : Int) + (b : Int) = ((a + 1 + b : Nat) : Int) by omega]
              dsimp only
              rw [u65, ap3, ok_bind, if_pos (by decide)]
              dsimp only
              rw [esum]
              have yes : (st.1 = -1 ∨ gsm P n (a + 1) b < st.1) → ∃ y, ((md_tries__b1 L ((a + 1 : Nat) : Int) (b : Int) (gsm P n (a + 1) b) u).bind fun r1 => md_groups_b5 L (k : Int) a2 ((a + 1 : Nat) : Int) ((b : Int) + 1) r1.2.2) = md_groups_b4 L (k : Int) a2 (((a + 1 : Nat) : Int) + 1) y ∧ FA 279 s y ∧ gM y n (gou P n k (a + 1)) := fun q => by
                have e3 : gstp P n k st (a + 1) b = (gsm P n (a + 1) b, (((a + 1 : Nat) : Int), (b : Int))) := by unfold gstp; rw [if_pos hv, if_pos q]
                rw [e3] at hnx
                rw [md_tries__b1_eq, if_pos (by decide), if_pos (by decide), if_pos (by decide), if_pos (by decide), ok_bind, u65]
                dsimp only
                refine hnx _ g.up.up.up.up ⟨?_, fun _ => ⟨?_, ?_, ?_⟩⟩
                · rw [up_j (by decide), up_j (by decide), up_j (by decide), up_s]
                · rw [up_j (by decide), up_j (by decide), up_s]
                · rw [up_j (by decide), up_s]
                · rw [up_s]
              by_cases q1 : st.1 = -1
              · rw [if_pos (by rw [w0]; exact q1)]
                exact yes (Or.inl q1)
              · rw [if_neg (by rw [w0]; exact q1), if_pos (by decide)]
                by_cases q2 : gsm P n (a + 1) b < st.1
                · rw [if_pos (by rw [w0, ws]; exact q2)]
                  exact yes (Or.inr q2)
                · have e3 : gstp P n k st (a + 1) b = st := by
                    unfold gstp
                    rw [if_pos hv, if_neg (fun q => by
                      rcases q with q | q
                      · exact q1 q
                      · exact q2 q)]
                  rw [e3] at hnx
                  rw [if_neg (by rw [w0, ws]; exact q2), ok_bind]
                  exact hnx u g p
            · rw [if_neg (fun q => ecd (by cases c <;> cases d <;> first | rfl | (exact absurd q (by decide))))]
              exact no (by rw [hgv]; cases c <;> cases d <;> first | rfl | (exact absurd rfl ecd))
          rw [md_groups_b11_eq, w32_id (by omega) (by omega)]
          by_cases q : 2 < k
          · rw [if_pos (by omega)]
            exact p13 true (by rw [decide_eq_true q])
          · rw [if_neg (by omega)]
            exact p13 false (by rw [decide_eq_false q])
        have b9 : ∀ c d : Bool, c = decide (0 < b) → d = decide (1 < k) → ∃ y, md_groups_b9 L (k : Int) a2 ((a + 1 : Nat) : Int) (b : Int) ((n - (a + 1) - b : Nat) : Int) ((c.toNat : Nat) : Int) ((d.toNat : Nat) : Int) u = md_groups_b4 L (k : Int) a2 (((a + 1 : Nat) : Int) + 1) y ∧ FA 279 s y ∧ gM y n (gou P n k (a + 1)) := fun c d hc hd => by
          have tc := Bool.toNat_le c
          have td := Bool.toNat_le d
          rw [md_groups_b9_eq, w32_id (i := ((c.toNat : Nat) : Int)) (by omega) (by omega), w32_id (i := ((d.toNat : Nat) : Int)) (by omega) (by omega)]
          by_cases ecd : c = d
          · have h1 : (decide (0 < b) == decide (1 < k)) = true := by rw [← hc, ← hd, ecd]; cases d <;> rfl
            rw [if_pos (by rw [ecd]), w32_id (i := ((n - (a + 1) - b : Nat) : Int)) (by omega) (by omega)]
            by_cases q : 0 < n - (a + 1) - b
            · rw [if_pos (by omega)]
              exact b13 true h1 (by rw [decide_eq_true q])
            · rw [if_neg (by omega)]
              exact b13 false h1 (by rw [decide_eq_false q])
          · rw [if_neg (fun q => ecd (by cases c <;> cases d <;> first | rfl | (exact absurd q (by decide))))]
            exact no (by unfold gvl; rw [← hc, ← hd]; cases c <;> cases d <;> first | rfl | (exact absurd rfl ecd))
        have b7 : ∀ c : Bool, c = decide (0 < b) → ∃ y, md_groups_b7 L (k : Int) a2 ((a + 1 : Nat) : Int) (b : Int) ((n - (a + 1) - b : Nat) : Int) ((c.toNat : Nat) : Int) u = md_groups_b4 L (k : Int) a2 (((a + 1 : Nat) : Int) + 1) y ∧ FA 279 s y ∧ gM y n (gou P n k (a + 1)) := fun c hc => by
          rw [md_groups_b7_eq, w32_id (by omega) (by omega)]
          by_cases q : 1 < k
          · rw [if_pos (by omega)]
            exact b9 c true hc (by rw [decide_eq_true q])
          · rw [if_neg (by omega)]
            exact b9 c false hc (by rw [decide_eq_false q])
        rw [md_groups_b5_eq, u65, if_neg (by rw [w32_id (by omega) (by omega), w32_id (by omega) (by omega)]; omega), w32_id (i := (b : Int)) (by omega) (by omega), show (n : Int) - ((a + 1 : Nat) : Int) - (b : Int) = ((n - (a + 1) - b : Nat) : Int) by omega]
        by_cases q : 0 < b
        · rw [if_pos (by omega)]
          exact b7 true (by rw [decide_eq_true q])
        · rw [if_neg (by omega)]
          exact b7 false (by rw [decide_eq_false q])
    obtain ⟨y, y1, y2, y3⟩ := inner (n - (a + 1) + 1) 0 u (by omega) g p
    have y1 : md_groups_b5 L (k : Int) a2 ((a : Int) + 1) 0 u = md_groups_b4 L (k : Int) a2 (((a + 1 : Nat) : Int) + 1) y := y1
    rw [md_groups_b4_eq, g _ _ (by decide), h65, if_neg (by rw [w32_id (by omega) (by omega), w32_id (by omega) (by omega)]; omega), y1]
    exact ih (a + 1) y (by omega) y2 y3
theorem c_groups {a1 a2 : Int} (h1 : I32 a1) (h2 : I32 a2) (h : Inv s) : Cal L s (hx_groups L a1 a2) (md_groups L a1 a2) w32 := by
  obtain ⟨T1, T2, T3⟩ := h.T
  have hX := hx_groups_eq L a1 a2 s
  have hY := fun z => md_groups_eq L a1 a2 z
  rw [tst (hx_isIn_ok h1 i_lit i_lit)] at hX
  by_cases e1 : 1 ≤ a1 ∧ a1 ≤ 3
  case neg => exact Cal.pure (hX.trans (if_neg e1)) ((hY s).trans (by rw [tst (md_isIn_ok h1 i_lit i_lit), if_neg e1])) rfl h
  rw [if_pos e1] at hX
  dsimp only at hX
  rw [tst (hx_isIn_ok h2 i_lit i_lit)] at hX
  by_cases e2 : 0 ≤ a2 ∧ a2 ≤ 3
  case neg => exact Cal.pure (hX.trans (if_neg e2)) ((hY s).trans (by rw [tst (md_isIn_ok h1 i_lit i_lit), if_pos e1]; dsimp only; rw [tst (md_isIn_ok h2 i_lit i_lit), if_neg e2])) rfl h
  rw [if_pos e2] at hX
  dsimp only at hX
  obtain ⟨k, rfl⟩ := Int.eq_ofNat_of_zero_le (show 0 ≤ a1 by omega)
  obtain ⟨T, hT⟩ := Int.eq_ofNat_of_zero_le T2
  obtain ⟨b1, hP⟩ := srt_bd h T
  obtain ⟨y, y1, y2, y3⟩ := hx_sortPeople_ok (L := L) h hT
  have yq := y2.q (by decide)
  obtain ⟨z, z1, z2, z3, z4⟩ := md_sorts_ok (L := L) (yq.I h) (T := T) (by rw [y2 _ _ (by decide)]; exact hT)
  rw [srt_cg (s := s) (fun k j hk => y2 _ _ (by omega)) (y2 _ _ (by decide))] at z3 z4
  rw [y1, ok_bind] at hX
  dsimp only at hX
  have hYy := hY y
  rw [tst (md_isIn_ok h1 i_lit i_lit), if_pos e1] at hYy
  dsimp only at hYy
  rw [tst (md_isIn_ok h2 i_lit i_lit), if_pos e2] at hYy
  dsimp only at hYy
  rw [z1, ok_bind] at hYy
  dsimp only at hYy
  generalize hn : (srt s T).1 = n at *
  rw [w32_id (i := (n : Int)) (by omega) (by omega), h1.w] at hX
  by_cases en : (n : Int) < (k : Int)
  · rw [if_pos en] at hX
    rw [if_pos (by rw [z3, w32_id (by omega) (by omega), h1.w]; exact en)] at hYy
    exact Cal.q hX hYy rfl yq z2.q h
  rw [if_neg en] at hX
  have kX := hx_groups_lp (L := L) (s := y) (P := (srt s T).2) (n := n) (k := k) (a2 := a2) hP (by omega) (by omega) y3 h2 n 0 (by omega)
  have kX : hx_groups_b4 L (k : Int) a2 (n : Int) (-1) 0 0 1 y = _ := kX
  rw [kX] at hX
  obtain ⟨w, w1, w2, w3⟩ := md_groups_lp (L := L) (s := z) (P := (srt s T).2) (n := n) (k := k) (a2 := a2) hP (by omega) (by omega) z4 z3 n 0 (up z 279 0 (-1)) (by omega) FA.rf.up ⟨up_s, fun q => absurd rfl q⟩
  have w1 : md_groups_b4 L (k : Int) a2 1 (up z 279 0 (-1)) = _ := w1
  rw [if_neg (by rw [z3, w32_id (by omega) (by omega), h1.w]; exact en), if_pos (by decide), w1, if_pos (by omega)] at hYy
  have hne := (gou_ok hP (k := k) (show n ≤ 12 by omega) (m := n) (Nat.le_refl _)).2 (gvl_ex (by omega) (by omega))
  obtain ⟨v1, v2, v3⟩ := w3.2 hne
  have v0 := w3.1
  have wq : Eqh z w := fun a b hh => w2 a b (fun e => hh (by subst e; exact ⟨by unfold scr; omega, by decide, by omega⟩))
  refine Cal.q hX hYy ?_ yq (z2.q.tr wq) h
  have h4 : a2 = 0 ∨ a2 = 1 ∨ a2 = 2 ∨ a2 = 3 := by omega
  rcases h4 with rfl | rfl | rfl | rfl
  · rw [if_pos rfl]
    show w32 _ = w32 (w 279 0)
    rw [v0]
  · rw [if_neg (by decide), if_pos rfl]
    show w32 _ = w32 (w 279 1)
    rw [v1]
  · rw [if_neg (by decide), if_neg (by decide), if_pos rfl]
    show w32 _ = w32 (w 279 2)
    rw [v2]
  · rw [if_neg (by decide), if_neg (by decide), if_neg (by decide)]
    show w32 _ = w32 (w 279 3)
    rw [v3]
end
