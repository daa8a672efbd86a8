/-! all rows together: the class -/
section
variable {L : Nat} {s : hh_Sv}
def FS (s u : hh_Sv) : Prop := ∀ k j, k ≠ 32 → k ≠ 33 → k ≠ 34 → u k j = s k j
theorem FS.tr {u w : hh_Sv} (h1 : FS s u) (h2 : FS u w) : FS s w := fun k j a b c => (h2 k j a b c).trans (h1 k j a b c)
theorem FS.q {u : hh_Sv} (h : FS s u) : Eqh s u := fun k j hn => h k j (fun e => hn (by subst e; exact ⟨by unfold scr; omega, by decide, by omega⟩)) (fun e => hn (by subst e; exact ⟨by unfold scr; omega, by decide, by omega⟩)) (fun e => hn (by subst e; exact ⟨by unfold scr; omega, by decide, by omega⟩))
theorem FS.up {u : hh_Sv} {k j : Nat} {w : Int} (h : FS s u) (hk : k = 32 ∨ k = 33 ∨ k = 34) : FS s (up u k j w) := fun a b h1 h2 h3 => by
  rw [up_k (by omega)]
  exact h a b h1 h2 h3
theorem div_lt {M A o : Int} (hA : 0 < A) (hM : 0 ≤ M) : M / A < o ↔ M < A * o := by
  rw [Int.mul_comm]
  exact Int.ediv_lt_iff_lt_mul hA
theorem hx_pair1 {x n : Nat} (hx : x < 2 ^ n) (hn : n ≤ 24) : jin_bitCount L (bAnd (x : Int) (iShr (x : Int) 1)) s = ok L ((cnt (gPair x 1 1) n : Nat) : Int) s := by
  have h2 := p2_24 hn
  have hd : x / 2 ^ 1 ≤ x := Nat.div_le_self _ _
  have hlt : x &&& (x / 2 ^ 1) < 2 ^ n := Nat.lt_of_le_of_lt Nat.and_le_left hx
  have e1 : pcf 32 (x &&& (x / 2 ^ 1)) = cnt (fun k => x.testBit k && x.testBit (k + 1)) n := by
    rw [pcf_big hlt (show n ≤ 32 by omega), pcf_cnt]
    refine cnt_congr (fun k _ => ?_)
    rw [Nat.testBit_and, Nat.testBit_div_two_pow]
  have key : ∀ m, cnt (gPair x 1 1) (m + 1) = cnt (fun k => x.testBit k && x.testBit (k + 1)) m := fun m => by
    induction m with
    | zero => simp [cnt, gPair]
    | succ m ih =>
      have e3 : gPair x 1 1 (m + 1) = (x.testBit m && x.testBit (m + 1)) := by
        unfold gPair ob
        rw [decide_eq_true (show 1 ≤ m + 1 by omega), Bool.true_and, show m + 1 - 1 = m from rfl]
        cases x.testBit m <;> cases x.testBit (m + 1) <;> rfl
      rw [cnt, ih, e3]
      rfl
  have k1 := key n
  have e2 : gPair x 1 1 n = false := by
    unfold gPair ob
    rw [Nat.testBit_lt_two_pow hx]
    cases decide (1 ≤ n) <;> cases x.testBit (n - 1) <;> rfl
  rw [cnt, e2, Bool.toNat_false, Nat.add_zero] at k1
  rw [iShr_nat (b := 1) (k := 1) (by omega) rfl (by decide), bAnd_nat (by omega) (by omega), jin_bitCount_ok L (Nat.lt_of_le_of_lt Nat.and_le_left (by omega)), e1, ← k1]
theorem su_reckon_ok {t : Nat} (h : Inv s) (ht : t < 12) : ∃ y, FS s y ∧ ((yO s t (s 242 3).toNat ∧ su_reckon L (t : Int) s = ok L 1 y ∧ y 32 0 = yA s t (s 242 3).toNat ∧ y 32 1 = ((yP s t (s 242 3).toNat : Nat) : Int)) ∨ (¬ yO s t (s 242 3).toNat ∧ su_reckon L (t : Int) s = ok L 0 y)) := by
  obtain ⟨R1, R2, R3⟩ := h.R
  obtain ⟨R, hR, hR2⟩ := row_n h
  have hti : I32 (t : Int) := ⟨by omega, by omega⟩
  rw [su_reckon_eq, hR, Int.toNat_natCast]
  have stop : ∀ (j r : Nat), r + j = R → ¬ yO s t r → ¬ yO s t R := by
    intro j
    induction j with
    | zero => intro r e hn; rw [← e]; exact hn
    | succ j ih => intro r e hn; exact ih (r + 1) (by omega) (fun q => hn (by rw [yO] at q; exact q.1))
  have main : ∀ (j r : Nat) (u : hh_Sv), r + j = R → FS s u → yO s t r → u 32 0 = yA s t r → u 32 1 = ((yP s t r : Nat) : Int) → ∃ y, FS s y ∧ ((yO s t R ∧ su_reckon_b1 L (t : Int) (r : Int) u = ok L 1 y ∧ y 32 0 = yA s t R ∧ y 32 1 = ((yP s t R : Nat) : Int)) ∨ (¬ yO s t R ∧ su_reckon_b1 L (t : Int) (r : Int) u = ok L 0 y)) := by
    intro j
    induction j with
    | zero =>
      intro r u e g o p1 p2
      rw [Nat.add_zero] at e
      subst e
      refine ⟨u, g, Or.inl ⟨o, ?_, p1, p2⟩⟩
      rw [su_reckon_b1_eq, if_neg (by rw [g _ _ (by decide) (by decide) (by decide), R1, hR]; omega)]
    | succ j ih =>
      intro r u e g o p1 p2
      have hr : (r : Int) < s 242 3 := by omega
      obtain ⟨x, n, hw⟩ := row_RW h hr
      obtain ⟨ex, en⟩ := hw.x
      obtain ⟨y1, y2, y3⟩ := yrow h hr
      have eH : yH s r = pcf 32 x := by unfold yH; rw [ex]
      have eN : yN s r = n := en
      have hin : (0 : Int) ≤ (r : Int) ∧ (r : Int) < 60 := by have := hw.1; omega
      have hIu := g.q.I h
      have hwu := hw.q g.q
      have hA := yA_pos (t := (t : Int)) h (r := r) (by omega)
      have hA2 := yA_bd (t := (t : Int)) h (r := r) (by omega) o
      have hb := bin_bd (n := n) (k := pcf 32 x) (by omega)
      have h24 := p2_24 hw.2.1
      have hx := hw.2.2.1
      rw [su_reckon_b1_eq, if_pos (by rw [g _ _ (by decide) (by decide) (by decide), R1, hR, w32_id (by omega) (by omega), w32_id (by omega) (by omega)]; omega), co_isOf_ok hIu hti (by rw [g _ _ (by decide) (by decide) (by decide)]; exact hr), ok_bind]
      dsimp only
      by_cases eo : s 243 r = (t : Int)
      case neg =>
        rw [if_pos (zb_w.mpr (fun q => by
          rcases q with q | q
          · omega
          · rw [g _ _ (by decide) (by decide) (by decide)] at q
            exact eo q))]
        exact ih (r + 1) u (by omega) g (by rw [yO]; exact ⟨o, fun q => absurd q eo⟩) (by rw [yA, if_neg eo]; exact p1) (by rw [yP, if_neg eo]; exact p2)
      have hch : hx_choose L (n : Int) ((pcf 32 x : Nat) : Int) u = ok L ((bin n (pcf 32 x) : Nat) : Int) u := hx_choose_ok (by omega) (by have := pcf_le 32 x; omega)
      rw [if_neg (fun q => zb_w.mp q (Or.inr (by rw [g _ _ (by decide) (by decide) (by decide)]; exact eo))), if_pos hin, if_pos hin, Int.toNat_natCast, hwu.2.2.2.1, hwu.2.2.2.2.2.1, jin_bitCount_ok L (by omega), ok_bind]
      dsimp only
      rw [hch, ok_bind]
      dsimp only
      have w0 : w64 (u 32 0) = yA s t r := by rw [p1]; exact w64_id (by omega) (by omega)
      rw [if_pos (lCmp_gt.mpr (by rw [w0, w64_0]; omega)), if_neg (by rw [w0]; omega), w0, tDiv_nn (by decide) (by omega)]
      have hdv : 0 ≤ 4000000000000000000 / yA s t r := Int.ediv_nonneg (by decide) (by omega)
      have hdv2 : 4000000000000000000 / yA s t r ≤ 4000000000000000000 := Int.ediv_le_self _ (by decide)
      have eb : ((bin (yN s r) (yH s r) : Nat) : Int) = ((bin n (pcf 32 x) : Nat) : Int) := by rw [eN, eH]
      by_cases eg : 4000000000000000000 / yA s t r < ((bin n (pcf 32 x) : Nat) : Int)
      · rw [if_pos (lCmp_gt.mpr (by rw [w64_id (by omega) (by omega), w64_id (by omega) (by omega)]; exact eg))]
        refine ⟨u, g, Or.inr ⟨stop j (r + 1) (by omega) (fun q => ?_), rfl⟩⟩
        rw [yO] at q
        have q2 := q.2 eo
        rw [eb] at q2
        have := (div_lt (M := 4000000000000000000) (A := yA s t r) (o := ((bin n (pcf 32 x) : Nat) : Int)) (by omega) (by decide)).mp eg
        omega
      · rw [if_neg (fun q => eg (by
          have := lCmp_gt.mp q
          rw [w64_id (by omega) (by omega), w64_id (by omega) (by omega)] at this
          exact this)), hx_pair1 hx hw.2.1, ok_bind]
        dsimp only
        have hle : yA s t r * ((bin n (pcf 32 x) : Nat) : Int) ≤ 4000000000000000000 := by
          apply Classical.byContradiction
          intro q
          exact eg ((div_lt (by omega) (by decide)).mpr (by omega))
        refine ih (r + 1) _ (by omega) ((g.up (Or.inl rfl)).up (Or.inl rfl)) (by rw [yO]; exact ⟨o, fun _ => by rw [eb]; exact hle⟩) ?_ ?_
        · rw [up_j (by decide), up_s, p1, yA, if_pos eo, eb]
        · rw [up_s, p2, yP, if_pos eo, ex, eN]
          omega
  exact main R 0 _ (by omega) ((FS.up (fun _ _ _ _ _ => rfl) (Or.inl rfl)).up (Or.inl rfl)) trivial (by rw [up_j (by decide), up_s]; rfl) (by rw [up_s]; rfl)
theorem su_ordersOfRow_ok {n h i : Nat} (hn : n ≤ 24) (hh : h ≤ n) (hi : i ≤ h - 1) : su_ordersOfRow L (n : Int) (h : Int) (i : Int) s = ok L (pw n h i) s := by
  rw [su_ordersOfRow_eq, w32_id (by omega) (by omega)]
  unfold pw
  by_cases e : h = 0
  · rw [if_pos (by omega), if_pos e, if_pos (by omega)]
  · rw [if_neg (by omega), if_neg e, if_pos (by omega), show (h : Int) - 1 = ((h - 1 : Nat) : Int) by omega, show (h : Int) - (i : Int) - 1 = ((h - i - 1 : Nat) : Int) by omega, hx_choose_ok (by omega) (by omega), ok_bind, show (n : Int) - (h : Int) + 1 = ((n - h + 1 : Nat) : Int) by omega, show (h : Int) - (i : Int) = ((h - i : Nat) : Int) by omega]
    dsimp only
    rw [hx_choose_ok (by omega) (by omega), ok_bind]
theorem su_join_ok {n h M : Nat} {V : Nat → Int} (hn : n ≤ 24) (hh : h ≤ n) (hM : M + (h - 1) ≤ 1380) (hV : ∀ k, k < 1381 → s 33 k = V k) (h4 : s 32 4 = (M : Int)) (hVt : ∀ k, M < k → V k = 0) : ∃ y, su_join L (n : Int) (h : Int) s = ok L 0 y ∧ FS s y ∧ (∀ j, j ≠ 4 → y 32 j = s 32 j) ∧ y 32 4 = ((M + (h - 1) : Nat) : Int) ∧ ∀ k, k < 1381 → y 33 k = cv V (pw n h) k := by
  obtain ⟨lo, hlo⟩ : ∃ lo : Nat, lo = h - (n - h + 1) := ⟨_, rfl⟩
  obtain ⟨hi, hhi⟩ : ∃ hi : Nat, hi = h - 1 := ⟨_, rfl⟩
  have e1 : jma_max L 0 ((h : Int) - ((n : Int) - (h : Int) + 1)) s = ok L (lo : Int) s := by
    rw [jma_max_ok i_lit ⟨by omega, by omega⟩]
    congr 1
    split <;> omega
  have e2 : jma_max L 0 ((h : Int) - 1) s = ok L (hi : Int) s := by
    rw [jma_max_ok i_lit ⟨by omega, by omega⟩]
    congr 1
    split <;> omega
  have hll : lo ≤ hi + 1 := by omega
  have plo : ∀ i, i < lo → pw n h i = 0 := fun i q => pw_lo (by omega)
  have phi : ∀ i, hi < i → pw n h i = 0 := fun i q => pw_hi (by omega)
  rw [su_join_eq, e1, ok_bind]
  dsimp only
  rw [e2, ok_bind]
  dsimp only
  have b1 : ∀ (j i : Nat) (u : hh_Sv), i + j = hi + 1 → lo ≤ i → (∀ k j, k ≠ 34 → u k j = s k j) → (∀ a, lo ≤ a → a < i → u 34 a = pw n h a) → ∃ v, su_join_b1 L (n : Int) (h : Int) (lo : Int) (hi : Int) (i : Int) u = su_join_b3 L (lo : Int) (hi : Int) ((M + hi : Nat) : Int) (up v 32 4 ((M + hi : Nat) : Int)) ∧ (∀ k j, k ≠ 34 → v k j = s k j) ∧ ∀ a, lo ≤ a → a ≤ hi → v 34 a = pw n h a := by
    intro j
    induction j with
    | zero =>
      intro i u e hl g p
      rw [Nat.add_zero] at e
      subst e
      refine ⟨u, ?_, g, fun a q1 q2 => p a q1 (by omega)⟩
      rw [su_join_b1_eq, if_pos (by rw [w32_id (by omega) (by omega), w32_id (by omega) (by omega)]; omega), g _ _ (by decide), h4, show (M : Int) + (hi : Int) = ((M + hi : Nat) : Int) by omega]
    | succ j ih =>
      intro i u e hl g p
      rw [su_join_b1_eq, if_neg (by rw [w32_id (by omega) (by omega), w32_id (by omega) (by omega)]; omega), su_ordersOfRow_ok hn hh (by omega), ok_bind, if_pos (by omega), Int.toNat_natCast]
      refine ih (i + 1) _ (by omega) (by omega) (fun k j hk => by rw [up_k hk]; exact g k j hk) (fun a q1 q2 => ?_)
      by_cases ea : a = i
      · rw [ea, up_s]
      · rw [up_j ea]
        exact p a q1 (by omega)
  have main : ∀ (v : hh_Sv), (∀ k j, k ≠ 34 → v k j = s k j) → (∀ a, lo ≤ a → a ≤ hi → v 34 a = pw n h a) → ∀ (at_ : Nat) (u : hh_Sv), at_ ≤ M + hi + 1 → (∀ k j, k ≠ 33 → u k j = up v 32 4 ((M + hi : Nat) : Int) k j) → (∀ k, k < at_ → u 33 k = V k) → (∀ k, at_ ≤ k → k < 1381 → u 33 k = cv V (pw n h) k) → ∃ y, su_join_b3 L (lo : Int) (hi : Int) ((at_ : Int) - 1) u = ok L 0 y ∧ (∀ k j, k ≠ 33 → y k j = up v 32 4 ((M + hi : Nat) : Int) k j) ∧ ∀ k, k < 1381 → y 33 k = cv V (pw n h) k := by
    intro v gv pv at_
    induction at_ with
    | zero =>
      intro u ha g p1 p2
      rw [su_join_b3_eq, if_pos (by rw [w32_id (by decide) (by decide)]; decide)]
      exact ⟨u, rfl, g, fun k hk => p2 k (by omega) hk⟩
    | succ a ih =>
      intro u ha g p1 p2
      have ea : ((a + 1 : Nat) : Int) - 1 = (a : Int) := by omega
      have u34 : ∀ i, lo ≤ i → i ≤ hi → u 34 i = pw n h i := fun i q1 q2 => by
        rw [g _ _ (by decide), up_k (by decide)]
        exact pv i q1 q2
      have inner : ∀ (j i : Nat), i + j = Nat.min hi a + 1 → lo ≤ i → su_join_b4 L (lo : Int) (hi : Int) (a : Int) (sg (fun i => V (a - i) * pw n h i) i) (i : Int) u = su_join_b5 L (lo : Int) (hi : Int) (a : Int) (sg (fun i => V (a - i) * pw n h i) (Nat.min hi a + 1)) u := by
        intro j
        induction j with
        | zero =>
          intro i e hl
          rw [Nat.add_zero] at e
          subst e
          have hmin : Nat.min hi a = min hi a := rfl
          rw [su_join_b4_eq]
          by_cases q : hi < Nat.min hi a + 1
          · rw [if_pos (by rw [w32_id (by omega) (by omega), w32_id (by omega) (by omega)]; omega)]
          · rw [if_neg (by rw [w32_id (by omega) (by omega), w32_id (by omega) (by omega)]; omega), if_pos (by rw [w32_id (by omega) (by omega), w32_id (by omega) (by omega)]; omega)]
        | succ j ih2 =>
          intro i e hl
          have hmin : Nat.min hi a = min hi a := rfl
          rw [← ih2 (i + 1) (by omega) (by omega), su_join_b4_eq, if_neg (by rw [w32_id (by omega) (by omega), w32_id (by omega) (by omega)]; omega), if_neg (by rw [w32_id (by omega) (by omega), w32_id (by omega) (by omega)]; omega), if_pos (by omega), if_pos (by omega), show ((a : Int) - (i : Int)).toNat = a - i by omega, Int.toNat_natCast, p1 (a - i) (by omega), u34 i hl (by omega)]
          rfl
      have hmin : Nat.min hi a = min hi a := rfl
      have ecv : ∀ m, a + 1 ≥ m → Nat.min hi a + 1 ≤ m → sg (fun i => V (a - i) * pw n h i) m = sg (fun i => V (a - i) * pw n h i) (Nat.min hi a + 1) := fun m q1 q2 => sg_ext q2 (fun i z1 z2 => by
        show V (a - i) * pw n h i = 0
        rw [phi i (by omega), Int.mul_zero])
      have e4 : su_join_b4 L (lo : Int) (hi : Int) (a : Int) 0 (lo : Int) u = su_join_b5 L (lo : Int) (hi : Int) (a : Int) (cv V (pw n h) a) u := by
        have z0 : sg (fun i => V (a - i) * pw n h i) lo = 0 := sg_zero (fun i hi2 => by
          show V (a - i) * pw n h i = 0
          rw [plo i hi2, Int.mul_zero])
        have ec : cv V (pw n h) a = sg (fun i => V (a - i) * pw n h i) (Nat.min hi a + 1) := ecv (a + 1) (by omega) (by omega)
        by_cases q : lo ≤ Nat.min hi a + 1
        · have := inner (Nat.min hi a + 1 - lo) lo (by omega) (Nat.le_refl _)
          rw [z0] at this
          rw [ec]
          exact this
        · have z1 : sg (fun i => V (a - i) * pw n h i) (Nat.min hi a + 1) = 0 := sg_zero (fun i hi2 => by
            show V (a - i) * pw n h i = 0
            rw [plo i (by omega), Int.mul_zero])
          rw [ec, z1, su_join_b4_eq]
          by_cases q2 : hi < lo
          · rw [if_pos (by rw [w32_id (by omega) (by omega), w32_id (by omega) (by omega)]; omega)]
          · rw [if_neg (by rw [w32_id (by omega) (by omega), w32_id (by omega) (by omega)]; omega), if_pos (by rw [w32_id (by omega) (by omega), w32_id (by omega) (by omega)]; omega)]
      rw [ea, su_join_b3_eq, if_neg (by rw [w32_id (by omega) (by omega)]; omega), e4, su_join_b5_eq, if_pos (by omega), Int.toNat_natCast, show (a : Int) + (-1) = (a : Int) - 1 by omega]
      refine ih _ (by omega) (fun k j hk => by rw [up_k hk]; exact g k j hk) (fun k hk => by rw [up_j (by omega)]; exact p1 k (by omega)) (fun k q1 q2 => ?_)
      by_cases ek : k = a
      · rw [ek, up_s]
      · rw [up_j ek]
        exact p2 k (by omega) q2
  obtain ⟨v, v1, v2, v3⟩ := b1 (hi + 1 - lo) lo s (by omega) (Nat.le_refl _) (fun _ _ _ => rfl) (fun a q1 q2 => by omega)
  have base : ∀ k, M + hi + 1 ≤ k → k < 1381 → up v 32 4 ((M + hi : Nat) : Int) 33 k = cv V (pw n h) k := fun k q1 q2 => by
    rw [up_k (by decide), v2 _ _ (by decide), hV k q2, hVt k (by omega), cv_top (M := M) (H := hi) hVt phi (by omega)]
  obtain ⟨y, y1, y2, y3⟩ := main v v2 v3 (M + hi + 1) _ (Nat.le_refl _) (fun _ _ _ => rfl) (fun k hk => by rw [up_k (by decide), v2 _ _ (by decide)]; exact hV k (by omega)) base
  rw [show ((M + hi + 1 : Nat) : Int) - 1 = ((M + hi : Nat) : Int) by omega] at y1
  rw [v1, y1]
  refine ⟨y, rfl, fun k j q1 q2 q3 => ?_, fun j hj => ?_, ?_, y3⟩
  · rw [y2 k j q2, up_k q1, v2 k j q3]
  · rw [y2 _ _ (by decide), up_j hj, v2 _ _ (by decide)]
  · rw [y2 _ _ (by decide), up_s, hhi]
end
