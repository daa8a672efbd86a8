/-! all rows together: the reference -/
section
variable {L : Nat} {s : hh_Sv}
/-- one row more -/
theorem md_tog_row {t r n h M : Nat} {V : Nat → Int} (hH : iv_H s) (hn : n ≤ 24) (hh : h ≤ n) (hM : M + (h - 1) < 1400) (hV : ∀ k, k ≤ M → s 269 k = V k) (h52 : s 242 52 = (M : Int)) (hVb : ∀ k, 0 ≤ V k ∧ V k ≤ 4000000000000000000) (hVt : ∀ k, M < k → V k = 0) : ∃ y, md_togethers_b8 L (t : Int) (r : Int) (n : Int) (h : Int) ((h - 1 : Nat) : Int) 0 s = md_togethers_b5 L (t : Int) ((r : Int) + 1) y ∧ FT s y ∧ (∀ j, j = 51 ∨ j = 53 → y 242 j = s 242 j) ∧ y 242 52 = ((M + (h - 1) : Nat) : Int) ∧ ∀ k, k ≤ M + (h - 1) → y 269 k = cv V (pw n h) k := by
  obtain ⟨hi, hhi⟩ : ∃ hi : Nat, hi = h - 1 := ⟨_, rfl⟩
  rw [← hhi] at hM ⊢
  have phi : ∀ i, hi < i → pw n h i = 0 := fun i q => pw_hi (by omega)
  -- zeroes
  have b8 : ∀ (j k : Nat) (u : hh_Sv), k + j = M + hi + 1 → FT s u → (∀ j, 51 ≤ j → j ≤ 53 → u 242 j = s 242 j) → (∀ a, u 269 a = s 269 a) → (∀ a, a < k → u 270 a = 0) → ∃ v, md_togethers_b8 L (t : Int) (r : Int) (n : Int) (h : Int) (hi : Int) (k : Int) u = md_togethers_b10 L (t : Int) (r : Int) (n : Int) (h : Int) (hi : Int) 0 v ∧ FT s v ∧ (∀ j, 51 ≤ j → j ≤ 53 → v 242 j = s 242 j) ∧ (∀ a, v 269 a = s 269 a) ∧ ∀ a, a ≤ M + hi → v 270 a = 0 := by
    intro j
    induction j with
    | zero =>
      intro k u e g g1 g2 p
      rw [Nat.add_zero] at e
      subst e
      rw [md_togethers_b8_eq, g1 52 (by decide) (by decide), h52, if_pos (by rw [w32_id (by omega) (by omega), w32_id (by omega) (by omega)]; omega)]
      exact ⟨u, rfl, g, g1, g2, fun a ha => p a (by omega)⟩
    | succ j ih =>
      intro k u e g g1 g2 p
      rw [md_togethers_b8_eq, g1 52 (by decide) (by decide), h52, if_neg (by rw [w32_id (by omega) (by omega), w32_id (by omega) (by omega)]; omega), if_pos (by omega), Int.toNat_natCast]
      refine ih (k + 1) _ (by omega) (g.wr (Or.inr (Or.inl rfl))) (fun j q1 q2 => by rw [up_k (by decide)]; exact g1 j q1 q2) (fun a => by rw [up_k (by decide)]; exact g2 a) (fun a ha => ?_)
      by_cases ea : a = k
      · rw [ea, up_s]
      · rw [up_j ea]
        exact p a (by omega)
  -- spread
  have b11 : ∀ (K : Nat), K ≤ M → V K ≠ 0 → ∀ (j i : Nat) (u : hh_Sv), i + j = hi + 1 → FT s u → (∀ j, 51 ≤ j → j ≤ 53 → u 242 j = s 242 j) → (∀ a, u 269 a = s 269 a) → (∀ m, m ≤ M + hi → u 270 m = csp V (pw n h) hi K m + if K ≤ m ∧ m < K + i then V K * pw n h (m - K) else 0) → ∃ v, md_togethers_b11 L (t : Int) (r : Int) (n : Int) (h : Int) (hi : Int) (K : Int) (i : Int) u = md_togethers_b10 L (t : Int) (r : Int) (n : Int) (h : Int) (hi : Int) ((K : Int) + 1) v ∧ FT s v ∧ (∀ j, 51 ≤ j → j ≤ 53 → v 242 j = s 242 j) ∧ (∀ a, v 269 a = s 269 a) ∧ ∀ m, m ≤ M + hi → v 270 m = csp V (pw n h) hi (K + 1) m := by
    intro K hK hVK j
    have vk := hVb K
    induction j with
    | zero =>
      intro i u e g g1 g2 p
      rw [Nat.add_zero] at e
      subst e
      rw [md_togethers_b11_eq, if_pos (by rw [w32_id (by omega) (by omega), w32_id (by omega) (by omega)]; omega)]
      refine ⟨u, rfl, g, g1, g2, fun m hm => ?_⟩
      rw [p m hm]
      have e1 : csp V (pw n h) hi (K + 1) m = csp V (pw n h) hi K m + if K ≤ m ∧ m ≤ K + hi then V K * pw n h (m - K) else 0 := rfl
      rw [e1]
      congr 1
      by_cases q : K ≤ m ∧ m ≤ K + hi
      · rw [if_pos q, if_pos (by omega)]
      · rw [if_neg q, if_neg (by omega)]
    | succ j ih =>
      intro i u e g g1 g2 p
      obtain ⟨w, w1, w2⟩ := md_pairWays_ok (L := L) (s := u) (n := n) (h := h) (i := i) g.2 hn hh (by omega)
      have gw := g.tr w2.t
      rw [md_togethers_b11_eq, if_neg (by rw [w32_id (by omega) (by omega), w32_id (by omega) (by omega)]; omega), if_pos (by omega), Int.toNat_natCast, g2, hV K hK, if_pos ((lc_pos ⟨by omega, by omega⟩).mpr (by omega)), if_pos (by omega), if_pos (by omega), w1, ok_bind, if_pos (by omega), show ((K : Int) + (i : Int)).toNat = K + i by omega]
      dsimp only
      refine ih (i + 1) _ (by omega) (gw.wr (Or.inr (Or.inl rfl))) (fun j q1 q2 => by rw [up_k (by decide), w2.1 _ _ (by decide) (by omega)]; exact g1 j q1 q2) (fun a => by rw [up_k (by decide), w2.1 _ _ (by decide) (by omega)]; exact g2 a) (fun m hm => ?_)
      by_cases em : m = K + i
      · rw [em, up_s, p (K + i) (by omega), if_neg (by omega), if_pos (by omega), show K + i - K = i by omega, Int.add_zero]
      · rw [up_j em, w2.1 _ _ (by decide) (by omega), p m hm]
        congr 1
        by_cases q : K ≤ m ∧ m < K + i
        · rw [if_pos q, if_pos (by omega)]
        · rw [if_neg q, if_neg (by omega)]
  have b14 : ∀ (j k : Nat) (u : hh_Sv), k + j = M + hi + 1 → FT s u → (∀ j, j = 51 ∨ j = 53 → u 242 j = s 242 j) → u 242 52 = ((M + hi : Nat) : Int) → (∀ m, m ≤ M + hi → u 270 m = cv V (pw n h) m) → (∀ m, m < k → u 269 m = cv V (pw n h) m) → ∃ y, md_togethers_b14 L (t : Int) (r : Int) (k : Int) u = md_togethers_b5 L (t : Int) ((r : Int) + 1) y ∧ FT s y ∧ (∀ j, j = 51 ∨ j = 53 → y 242 j = s 242 j) ∧ y 242 52 = ((M + hi : Nat) : Int) ∧ ∀ k, k ≤ M + hi → y 269 k = cv V (pw n h) k := by
    intro j
    induction j with
    | zero =>
      intro k u e g g1 g5 p1 p2
      rw [Nat.add_zero] at e
      subst e
      rw [md_togethers_b14_eq, g5, if_pos (by rw [w32_id (by omega) (by omega), w32_id (by omega) (by omega)]; omega)]
      exact ⟨u, rfl, g, g1, g5, fun m hm => p2 m (by omega)⟩
    | succ j ih =>
      intro k u e g g1 g5 p1 p2
      rw [md_togethers_b14_eq, g5, if_neg (by rw [w32_id (by omega) (by omega), w32_id (by omega) (by omega)]; omega), if_pos (by omega), if_pos (by omega), Int.toNat_natCast]
      refine ih (k + 1) _ (by omega) (g.wr (Or.inl rfl)) (fun j hj => by rw [up_k (by decide)]; exact g1 j hj) (by rw [up_k (by decide)]; exact g5) (fun m hm => by rw [up_k (by decide)]; exact p1 m hm) (fun m hm => ?_)
      by_cases em : m = k
      · rw [em, up_s, p1 k (by omega)]
      · rw [up_j em]
        exact p2 m (by omega)
  have b10 : ∀ (j K : Nat) (u : hh_Sv), K + j = M + 1 → FT s u → (∀ j, 51 ≤ j → j ≤ 53 → u 242 j = s 242 j) → (∀ a, u 269 a = s 269 a) → (∀ m, m ≤ M + hi → u 270 m = csp V (pw n h) hi K m) → ∃ y, md_togethers_b10 L (t : Int) (r : Int) (n : Int) (h : Int) (hi : Int) (K : Int) u = md_togethers_b5 L (t : Int) ((r : Int) + 1) y ∧ FT s y ∧ (∀ j, j = 51 ∨ j = 53 → y 242 j = s 242 j) ∧ y 242 52 = ((M + hi : Nat) : Int) ∧ ∀ k, k ≤ M + hi → y 269 k = cv V (pw n h) k := by
    intro j
    induction j with
    | zero =>
      intro K u e g g1 g2 p
      rw [Nat.add_zero] at e
      subst e
      rw [md_togethers_b10_eq, g1 52 (by decide) (by decide), h52, if_pos (by rw [w32_id (by omega) (by omega), w32_id (by omega) (by omega)]; omega)]
      refine b14 (M + hi + 1) 0 _ (by omega) (g.wr (Or.inr (Or.inr ⟨rfl, by decide, by decide⟩))) (fun j hj => by rw [up_j (by omega)]; exact g1 j (by omega) (by omega)) (by rw [up_s]; omega) (fun m hm => ?_) (fun m hm => by omega)
      rw [up_k (by decide), p m hm, csp_cv hVt phi]
    | succ j ih =>
      intro K u e g g1 g2 p
      rw [md_togethers_b10_eq, g1 52 (by decide) (by decide), h52, if_neg (by rw [w32_id (by omega) (by omega), w32_id (by omega) (by omega)]; omega)]
      have vk := hVb K
      by_cases ev : V K = 0
      · rw [md_togethers_b11_eq, if_neg (by rw [w32_id (by omega) (by omega), show w32 0 = 0 from w32_0]; omega), if_pos (by omega), Int.toNat_natCast, g2, hV K (by omega), if_neg (fun q => by have := (lc_pos ⟨by omega, by omega⟩).mp q; omega)]
        refine ih (K + 1) u (by omega) g g1 g2 (fun m hm => ?_)
        have e1 : csp V (pw n h) hi (K + 1) m = csp V (pw n h) hi K m + if K ≤ m ∧ m ≤ K + hi then V K * pw n h (m - K) else 0 := rfl
        rw [e1, ev, p m hm]
        split <;> omega
      · obtain ⟨v, v1, v2, v3, v4, v5⟩ := b11 K (by omega) ev (hi + 1) 0 u (by omega) g g1 g2 (fun m hm => by rw [p m hm, if_neg (by omega), Int.add_zero])
        have v1 : md_togethers_b11 L (t : Int) (r : Int) (n : Int) (h : Int) (hi : Int) (K : Int) 0 u = _ := v1
        rw [v1]
        exact ih (K + 1) v (by omega) v2 v3 v4 v5
  obtain ⟨v, v1, v2, v3, v4, v5⟩ := b8 (M + hi + 1) 0 s (by omega) ⟨fun _ _ _ _ => rfl, hH⟩ (fun _ _ _ => rfl) (fun _ => rfl) (fun a ha => by omega)
  have v1 : md_togethers_b8 L (t : Int) (r : Int) (n : Int) (h : Int) (hi : Int) 0 s = _ := v1
  rw [v1]
  exact b10 (M + 1) 0 v (by omega) v2 v3 v4 (fun m hm => by rw [v5 m hm]; rfl)
theorem cv_one {V : Nat → Int} {k : Nat} {n : Nat} : cv V (pw n 0) k = V k := by
  unfold cv
  rw [sg_ext (m := 1) (n := k + 1) (by omega) (fun i h1 h2 => by
    show V (k - i) * pw n 0 i = 0
    rw [pw_hi (by omega), Int.mul_zero])]
  show (0 : Int) + V (k - 0) * pw n 0 0 = _
  rw [show pw n 0 0 = 1 from rfl, Int.mul_one, Int.zero_add, Nat.sub_zero]
theorem md_togethers_ok {t : Nat} (h : Inv s) (ht : t < 12) : ∃ y, FT s y ∧ ((yO s t (s 242 3).toNat ∧ md_togethers L (t : Int) s = ok L 1 y ∧ y 242 53 = yA s t (s 242 3).toNat ∧ y 242 51 = ((yP s t (s 242 3).toNat : Nat) : Int) ∧ y 242 52 = ((yM s t (s 242 3).toNat : Nat) : Int) ∧ ∀ k, k ≤ yM s t (s 242 3).toNat → y 269 k = yV s t (s 242 3).toNat k) ∨ (¬ yO s t (s 242 3).toNat ∧ md_togethers L (t : Int) s = ok L 0 y)) := by
  obtain ⟨R1, R2, R3⟩ := h.R
  obtain ⟨R, hR, hR2⟩ := row_n h
  rw [md_togethers_eq, hR, Int.toNat_natCast]
  have first : ∃ u, md_togethers_b1 L (t : Int) 0 (up (up (up s 242 51 0) 242 52 0) 242 53 1) = md_togethers_b5 L (t : Int) 0 u ∧ FT s u ∧ (u 242 51 = 0 ∧ u 242 52 = 0 ∧ u 242 53 = 1) ∧ ∀ w, w < 1400 → u 269 w = if w = 0 then 1 else 0 := by
    refine lp_st (n := 1400) (fun z u => md_togethers_b1 L (t : Int) z u) (fun i u => FT s u ∧ (u 242 51 = 0 ∧ u 242 52 = 0 ∧ u 242 53 = 1) ∧ ∀ w, w < i → u 269 w = if w = 0 then 1 else 0) (fun q => ∃ u, q = md_togethers_b5 L (t : Int) 0 u ∧ FT s u ∧ (u 242 51 = 0 ∧ u 242 52 = 0 ∧ u 242 53 = 1) ∧ ∀ w, w < 1400 → u 269 w = if w = 0 then 1 else 0) ?_ ?_ 1400 0 _ (by omega) ⟨(((FT.wr (s := s) ⟨fun _ _ _ _ => rfl, h.2⟩ (Or.inr (Or.inr ⟨rfl, by decide, by decide⟩))).wr (Or.inr (Or.inr ⟨rfl, by decide, by decide⟩))).wr (Or.inr (Or.inr ⟨rfl, by decide, by decide⟩))), ⟨by rw [up_j (by decide), up_j (by decide), up_s], by rw [up_j (by decide), up_s], up_s⟩, fun w hw => by omega⟩
    · intro i u hi ⟨g, ⟨q1, q2, q3⟩, p⟩
      refine ⟨up u 269 i (if i = 0 then 1 else 0), ⟨g.wr (Or.inl rfl), ⟨by rw [up_k (by decide)]; exact q1, by rw [up_k (by decide)]; exact q2, by rw [up_k (by decide)]; exact q3⟩, fun w hw => ?_⟩, ?_⟩
      · by_cases e : w = i
        · rw [e, up_s]
        · rw [up_j e]
          exact p w (by omega)
      · show md_togethers_b1 L (t : Int) (i : Int) u = md_togethers_b1 L (t : Int) ((i : Int) + 1) (up u 269 i (if i = 0 then 1 else 0))
        rw [md_togethers_b1_eq, if_pos (by rw [w32_id (by omega) (by omega)]; omega), w32_id (i := (i : Int)) (by omega) (by omega)]
        by_cases e : i = 0
        · rw [if_pos (by omega), md_togethers_b3_eq, if_pos (by omega), Int.toNat_natCast, if_pos e]
        · rw [if_neg (by omega), md_togethers_b3_eq, if_pos (by omega), Int.toNat_natCast, if_neg e]
    · intro u ⟨g, q, p⟩
      refine ⟨u, ?_, g, q, p⟩
      show md_togethers_b1 L (t : Int) ((1400 : Nat) : Int) u = _
      rw [md_togethers_b1_eq, if_neg (by rw [w32_id (by decide) (by decide)]; decide)]
  obtain ⟨u0, f1, f2, ⟨f3, f4, f5⟩, f6⟩ := first
  rw [f1]
  have stop : ∀ (j r : Nat), r + j = R → ¬ yO s t r → ¬ yO s t R := by
    intro j
    induction j with
    | zero => intro r e hn; rw [← e]; exact hn
    | succ j ih => intro r e hn; exact ih (r + 1) (by omega) (fun q => hn (by rw [yO] at q; exact q.1))
  have main : ∀ (j r : Nat) (u : hh_Sv), r + j = R → FT s u → yO s t r → u 242 53 = yA s t r → u 242 51 = ((yP s t r : Nat) : Int) → u 242 52 = ((yM s t r : Nat) : Int) → (∀ k, k ≤ yM s t r → u 269 k = yV s t r k) → ∃ y, FT s y ∧ ((yO s t R ∧ md_togethers_b5 L (t : Int) (r : Int) u = ok L 1 y ∧ y 242 53 = yA s t R ∧ y 242 51 = ((yP s t R : Nat) : Int) ∧ y 242 52 = ((yM s t R : Nat) : Int) ∧ ∀ k, k ≤ yM s t R → y 269 k = yV s t R k) ∨ (¬ yO s t R ∧ md_togethers_b5 L (t : Int) (r : Int) u = ok L 0 y)) := by
    intro j
    induction j with
    | zero =>
      intro r u e g o p1 p2 p3 p4
      rw [Nat.add_zero] at e
      subst e
      refine ⟨u, g, Or.inl ⟨o, ?_, p1, p2, p3, p4⟩⟩
      rw [md_togethers_b5_eq, if_neg (by rw [g.1 _ _ (by decide) (by decide), hR]; omega)]
    | succ j ih =>
      intro r u e g o p1 p2 p3 p4
      have hr : (r : Int) < s 242 3 := by omega
      obtain ⟨x, n, hw⟩ := row_RW h hr
      obtain ⟨ex, en⟩ := hw.x
      obtain ⟨y1, y2, y3⟩ := yrow h hr
      obtain ⟨b1, b2, b3, b4, b5, b6, b7, b8, b9⟩ := h.row hr
      have eH : yH s r = pcf 32 x := by unfold yH; rw [ex]
      have eN : yN s r = n := en
      have hin : (0 : Int) ≤ (r : Int) ∧ (r : Int) < 60 := by have := hw.1; omega
      have hA := yA_pos (t := (t : Int)) h (r := r) (by omega)
      have hA2 := yA_bd (t := (t : Int)) h (r := r) (by omega) o
      have h24 := p2_24 hw.2.1
      have hx := hw.2.2.1
      have u244 : u 244 r = (n : Int) := by rw [g.1 _ _ (by decide) (by omega)]; exact hw.2.2.2.2.2.2.1
      have u245 : u 245 r = (x : Int) := by rw [g.1 _ _ (by decide) (by omega)]; exact hw.2.2.2.2.1
      have u243 : u 243 r = s 243 r := g.1 _ _ (by decide) (by omega)
      have hpc := pcf_le 32 x
      rw [md_togethers_b5_eq, if_pos (by rw [g.1 _ _ (by decide) (by decide), hR, w32_id (by omega) (by omega), w32_id (by omega) (by omega)]; omega), if_pos hin, Int.toNat_natCast]
      by_cases eo : s 243 r = (t : Int)
      case neg =>
        rw [if_neg (by rw [u243, w32_id (by omega) (by omega), w32_id (by omega) (by omega)]; exact eo)]
        exact ih (r + 1) u (by omega) g (by rw [yO]; exact ⟨o, fun q => absurd q eo⟩) (by rw [yA, if_neg eo]; exact p1) (by rw [yP, if_neg eo]; exact p2) (by rw [yM, if_neg eo]; exact p3) (fun k hk => by rw [yM, if_neg eo] at hk; rw [yV, if_neg eo]; exact p4 k hk)
      rw [if_pos (by rw [u243, eo]), if_pos hin, u244, w32_id (i := (n : Int)) (by omega) (by omega)]
      by_cases e0 : n = 0
      · have hx0 : x = 0 := by subst e0; rw [Nat.pow_zero] at hx; omega
        have eH0 : yH s r = 0 := by rw [eH, hx0]; exact pcf_zero 32
        rw [if_pos (by omega)]
        refine ih (r + 1) u (by omega) g ?_ ?_ ?_ ?_ (fun k hk => ?_)
        · rw [yO]
          refine ⟨o, fun _ => ?_⟩
          rw [eH0, bin_0, show ((1 : Nat) : Int) = 1 from rfl, Int.mul_one]
          exact hA2
        · rw [yA, if_pos eo, eH0, bin_0, p1, show ((1 : Nat) : Int) = 1 from rfl, Int.mul_one]
        · rw [yP, if_pos eo, eN, e0, p2]
          rfl
        · rw [yM, if_pos eo, eH0, p3]
          rfl
        · rw [yM, if_pos eo, eH0] at hk
          rw [yV, if_pos eo, eH0, cv_one]
          exact p4 k hk
      obtain ⟨w, w1, w2, w3⟩ := md_choose_ok (L := L) (s := u) (n := n) (k := pcf 32 x) g.2 (by omega) (by omega)
      have gw := g.tr (FH.t ⟨w2, w3⟩)
      have hb := bin_bd (n := n) (k := pcf 32 x) (by omega)
      have hbp := bin_pos (n := n) (k := pcf 32 x) (by omega)
      have w53 : w 242 53 = yA s t r := by rw [w2 _ _ (by decide) (by decide)]; exact p1
      have w245 : w 245 r = (x : Int) := by rw [w2 _ _ (by decide) (by omega)]; exact u245
      have eb : ((bin (yN s r) (yH s r) : Nat) : Int) = ((bin n (pcf 32 x) : Nat) : Int) := by rw [eN, eH]
      rw [if_neg (by omega), if_pos hin, if_pos hin, u245, md_bits_all L (by omega), ok_bind]
      dsimp only
      rw [w1, ok_bind]
      dsimp only
      rw [w64_id (i := ((bin n (pcf 32 x) : Nat) : Int)) (by omega) (by omega), if_neg (by omega), tDiv_nn (by decide) (by omega)]
      have hdv : 0 ≤ 4000000000000000000 / ((bin n (pcf 32 x) : Nat) : Int) := Int.ediv_nonneg (by decide) (by omega)
      have hdv2 : 4000000000000000000 / ((bin n (pcf 32 x) : Nat) : Int) ≤ 4000000000000000000 := Int.ediv_le_self _ (by decide)
      by_cases eg : 4000000000000000000 / ((bin n (pcf 32 x) : Nat) : Int) < yA s t r
      · rw [if_pos (by rw [w53]; exact lCmp_gt.mpr (by rw [w64_id (by omega) (by omega), w64_id (by omega) (by omega)]; exact eg))]
        refine ⟨w, gw, Or.inr ⟨stop j (r + 1) (by omega) (fun q => ?_), rfl⟩⟩
        rw [yO] at q
        have q2 := q.2 eo
        rw [eb] at q2
        have := (div_lt (M := 4000000000000000000) (A := ((bin n (pcf 32 x) : Nat) : Int)) (o := yA s t r) (by omega) (by decide)).mp eg
        rw [Int.mul_comm] at this
        omega
      · have hle : yA s t r * ((bin n (pcf 32 x) : Nat) : Int) ≤ 4000000000000000000 := by
          apply Classical.byContradiction
          intro q
          refine eg ((div_lt (by omega) (by decide)).mpr ?_)
          rw [Int.mul_comm]
          omega
        have oN : yO s t (r + 1) := by rw [yO]; exact ⟨o, fun _ => by rw [eb]; exact hle⟩
        have hpi : ∀ z : hh_Sv, md_pairsIn L (x : Int) (n : Int) 1 1 z = ok L ((cnt (gPair x 1 1) n : Nat) : Int) z := fun z => md_pairsIn_ok (o := 1) (p := 1) (by omega) (by omega) (Or.inr rfl) (Or.inr rfl)
        rw [if_neg (by rw [w53]; exact fun q => eg (by
          have := lCmp_gt.mp q
          rw [w64_id (by omega) (by omega), w64_id (by omega) (by omega)] at this
          exact this)), if_pos hin, w245, hpi, ok_bind]
        dsimp only
        rw [jma_max_ok i_lit ⟨by omega, by omega⟩, ok_bind, show (if (0 : Int) < ((pcf 32 x : Nat) : Int) - 1 then ((pcf 32 x : Nat) : Int) - 1 else 0) = ((pcf 32 x - 1 : Nat) : Int) by split <;> omega]
        dsimp only
        have hMb := yM_bd (t := (t : Int)) h (r := r + 1) (by omega)
        have eM : yM s t (r + 1) = yM s t r + (pcf 32 x - 1) := by rw [yM, if_pos eo, eH]
        obtain ⟨z, z1, z2, z3, z4, z5⟩ := md_tog_row (L := L) (s := up (up w 242 53 (w 242 53 * ((bin n (pcf 32 x) : Nat) : Int))) 242 51 (w 242 51 + ((cnt (gPair x 1 1) n : Nat) : Int))) (t := t) (r := r) (n := n) (h := pcf 32 x) (M := yM s t r) (V := yV s t r) (((gw.wr (Or.inr (Or.inr ⟨rfl, by decide, by decide⟩))).wr (Or.inr (Or.inr ⟨rfl, by decide, by decide⟩))).2) hw.2.1 (by omega) (by omega) (fun k hk => by rw [up_k (by decide), up_k (by decide), w2 _ _ (by decide) (by omega)]; exact p4 k hk) (by rw [up_j (by decide), up_j (by decide), w2 _ _ (by decide) (by decide)]; exact p3) (fun k => by have := yV_bd (t := (t : Int)) h (r := r) (by omega) k; omega) (fun k hk => yV_top hk)
        rw [z1]
        refine ih (r + 1) z (by omega) (FT.tr ((gw.wr (Or.inr (Or.inr ⟨rfl, by decide, by decide⟩))).wr (Or.inr (Or.inr ⟨rfl, by decide, by decide⟩))) z2) oN ?_ ?_ (by rw [z4, eM]) (fun k hk => ?_)
        · rw [z3 53 (Or.inr rfl), up_j (by decide), up_s, w53, yA, if_pos eo, eb]
        · rw [z3 51 (Or.inl rfl), up_s, w2 _ _ (by decide) (by decide), p2, yP, if_pos eo, ex, eN]
          omega
        · rw [eM] at hk
          rw [z5 k hk, yV, if_pos eo, eN, eH]
  exact main R 0 u0 (by omega) f2 trivial f5 f3 f4 (fun k hk => by rw [f6 k (by have : yM s t 0 = 0 := rfl; omega)]; rfl)
theorem md_least_ok {P M : Nat} {V : Nat → Int} (h51 : s 242 51 = (P : Int)) (h52 : s 242 52 = (M : Int)) (hM : M < 1400) (hP : P ≤ 1440) (hV : ∀ k, k ≤ M → s 269 k = V k) : md_togetherLeast L s = ok L (sg (fun i => V (P + i)) (M + 1 - P)) s := by
  rw [md_togetherLeast_eq, h51]
  have fin : ∀ (j i : Nat), i + j = M + 1 - P → md_togetherLeast_b1 L (sg (fun i => V (P + i)) i) ((P + i : Nat) : Int) s = ok L (sg (fun i => V (P + i)) (M + 1 - P)) s := by
    intro j
    induction j with
    | zero =>
      intro i e
      rw [Nat.add_zero] at e
      rw [md_togetherLeast_b1_eq, h52, if_pos (by rw [w32_id (by omega) (by omega), w32_id (by omega) (by omega)]; omega), e]
    | succ j ih =>
      intro i e
      have := ih (i + 1) (by omega)
      rw [md_togetherLeast_b1_eq, h52, if_neg (by rw [w32_id (by omega) (by omega), w32_id (by omega) (by omega)]; omega), if_pos (by omega), Int.toNat_natCast, hV (P + i) (by omega)]
      exact this
  exact fin (M + 1 - P) 0 (by omega)
end
