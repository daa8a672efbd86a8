/-! all rows together: the class's sum; the reference's steps -/
section
variable {L : Nat} {s : hh_Sv}
theorem k33 : kd L 33 = 3 ∧ ln L 33 = 1381 := by
  unfold kd ln
  rw [in_shL (by decide)]
  decide +kernel
theorem su_atLeast_ok {t P : Nat} (h : Inv s) (ht : t < 12) (hP : s 32 1 = (P : Int)) (hP2 : P ≤ 1440) : ∃ y, su_atLeast L (t : Int) s = ok L (sg (fun i => yV s t (s 242 3).toNat (P + i)) (yM s t (s 242 3).toNat + 1 - P)) y ∧ FS s y ∧ ∀ j, j ≠ 4 → y 32 j = s 32 j := by
  obtain ⟨R1, R2, R3⟩ := h.R
  obtain ⟨R, hR, hR2⟩ := row_n h
  have hti : I32 (t : Int) := ⟨by omega, by omega⟩
  obtain ⟨c, c1, c2, c3⟩ := jar_fill_ok (L := L) (s := s) (q := 33) k33.1 k33.2 (by decide) (by decide)
  rw [su_atLeast_eq, c1, ok_bind, if_pos (by decide), hR, Int.toNat_natCast]
  dsimp only
  have main : ∀ (j r : Nat) (u : hh_Sv), r + j = R → FS s u → (∀ j, j ≠ 4 → u 32 j = s 32 j) → u 32 4 = ((yM s t r : Nat) : Int) → (∀ k, k < 1381 → u 33 k = yV s t r k) → ∃ v, su_atLeast_b1 L (t : Int) (r : Int) u = su_atLeast_b4 L 0 (P : Int) v ∧ FS s v ∧ (∀ j, j ≠ 4 → v 32 j = s 32 j) ∧ v 32 4 = ((yM s t R : Nat) : Int) ∧ ∀ k, k < 1381 → v 33 k = yV s t R k := by
    intro j
    induction j with
    | zero =>
      intro r u e g g32 p1 p2
      rw [Nat.add_zero] at e
      subst e
      rw [su_atLeast_b1_eq, if_neg (by rw [g _ _ (by decide) (by decide) (by decide), R1, hR]; omega), g32 1 (by decide), hP]
      exact ⟨u, rfl, g, g32, p1, p2⟩
    | succ j ih =>
      intro r u e g g32 p1 p2
      have hr : (r : Int) < s 242 3 := by omega
      obtain ⟨x, n, hw⟩ := row_RW h hr
      obtain ⟨ex, en⟩ := hw.x
      obtain ⟨y1, y2, y3⟩ := yrow h hr
      have eH : yH s r = pcf 32 x := by unfold yH; rw [ex]
      have eN : yN s r = n := en
      have hin : (0 : Int) ≤ (r : Int) ∧ (r : Int) < 60 := by have := hw.1; omega
      have hwu := hw.q g.q
      have h24 := p2_24 hw.2.1
      have hx := hw.2.2.1
      rw [su_atLeast_b1_eq, if_pos (by rw [g _ _ (by decide) (by decide) (by decide), R1, hR, w32_id (by omega) (by omega), w32_id (by omega) (by omega)]; omega), co_isOf_ok (g.q.I h) hti (by rw [g _ _ (by decide) (by decide) (by decide)]; exact hr), ok_bind]
      dsimp only
      by_cases eo : s 243 r = (t : Int)
      case neg =>
        rw [if_pos (zb_w.mpr (fun q => by
          rcases q with q | q
          · omega
          · rw [g _ _ (by decide) (by decide) (by decide)] at q
            exact eo q))]
        exact ih (r + 1) u (by omega) g g32 (by rw [yM, if_neg eo]; exact p1) (fun k hk => by rw [yV, if_neg eo]; exact p2 k hk)
      have hMb := yM_bd (t := (t : Int)) h (r := r + 1) (by omega)
      have eM : yM s t (r + 1) = yM s t r + (pcf 32 x - 1) := by rw [yM, if_pos eo, eH]
      obtain ⟨y, z1, z2, z3, z4, z5⟩ := su_join_ok (L := L) (s := u) (n := n) (h := pcf 32 x) (M := yM s t r) (V := yV s t r) hw.2.1 (by omega) (by omega) p2 p1 (fun k hk => yV_top hk)
      rw [if_neg (fun q => zb_w.mp q (Or.inr (by rw [g _ _ (by decide) (by decide) (by decide)]; exact eo))), if_pos hin, if_pos hin, Int.toNat_natCast, hwu.2.2.2.1, hwu.2.2.2.2.2.1, jin_bitCount_ok L (by omega), ok_bind]
      dsimp only
      rw [z1, ok_bind]
      refine ih (r + 1) y (by omega) (g.tr z2) (fun j hj => (z3 j hj).trans (g32 j hj)) (by rw [z4, eM]) (fun k hk => ?_)
      rw [z5 k hk, yV, if_pos eo, eN, eH]
  obtain ⟨v, v1, v2, v3, v4, v5⟩ := main R 0 (up (up c 33 0 1) 32 4 0) (by omega) ((FS.up (fun k j h1 h2 h3 => c2 k j h2) (Or.inr (Or.inl rfl))).up (Or.inl rfl)) (fun j hj => by rw [up_j hj, up_k (by decide)]; exact c2 _ _ (by decide)) (by rw [up_s]; rfl) (fun k hk => by
    rw [up_k (by decide), yV]
    by_cases e : k = 0
    · rw [e, up_s]
      rfl
    · rw [up_j e, c3 k hk]
      exact (if_neg e).symm)
  have v1 : su_atLeast_b1 L (t : Int) 0 (up (up c 33 0 1) 32 4 0) = _ := v1
  rw [v1]
  refine ⟨v, ?_, v2, v3⟩
  have hMb := yM_bd (t := (t : Int)) h (r := R) (by omega)
  have fin : ∀ (j i : Nat), i + j = yM s t R + 1 - P → su_atLeast_b4 L (sg (fun i => yV s t R (P + i)) i) ((P + i : Nat) : Int) v = ok L (sg (fun i => yV s t R (P + i)) (yM s t R + 1 - P)) v := by
    intro j
    induction j with
    | zero =>
      intro i e
      rw [Nat.add_zero] at e
      rw [su_atLeast_b4_eq, v4, if_pos (by rw [w32_id (by omega) (by omega), w32_id (by omega) (by omega)]; omega), e]
    | succ j ih =>
      intro i e
      have := ih (i + 1) (by omega)
      rw [su_atLeast_b4_eq, v4, if_neg (by rw [w32_id (by omega) (by omega), w32_id (by omega) (by omega)]; omega), if_pos (by omega), Int.toNat_natCast, v5 (P + i) (by omega)]
      exact this
  exact fin (yM s t R + 1 - P) 0 (by omega)
/-! the reference -/
theorem md_pairWays_ok {n h i : Nat} (hH : iv_H s) (hn : n ≤ 24) (hh : h ≤ n) (hi : i ≤ h - 1) : ∃ y, md_pairWays L (n : Int) (h : Int) (i : Int) s = ok L (pw n h i) y ∧ FH s y := by
  rw [md_pairWays_eq, w32_id (i := (h : Int)) (by omega) (by omega)]
  unfold pw
  by_cases e : h = 0
  · have e1 : md_one L 1 s = ok L 1 s := md_one_ok (o := 1) (Or.inr rfl)
    rw [if_pos (by omega), if_pos (by rw [w32_id (by omega) (by omega)]; omega), md_pairWays_b2_eq, e1, ok_bind, if_pos e, if_pos (by omega)]
    dsimp only
    rw [w32_1]
    exact ⟨s, rfl, fun _ _ _ _ => rfl, hH⟩
  · obtain ⟨w, w1, w2, w3⟩ := md_choose_ok (L := L) (n := h - 1) (k := h - i - 1) hH (by omega) (by omega)
    obtain ⟨y, y1, y2, y3⟩ := md_choose_ok (L := L) (n := n - h + 1) (k := h - i) w3 (by omega) (by omega)
    rw [if_neg (by omega), if_neg (by rw [w32_id (by omega) (by omega)]; omega), if_neg e, if_pos (by omega), show (h : Int) - 1 = ((h - 1 : Nat) : Int) by omega, show (h : Int) - (i : Int) - 1 = ((h - i - 1 : Nat) : Int) by omega, w1, ok_bind, show (n : Int) - (h : Int) + 1 = ((n - h + 1 : Nat) : Int) by omega, show (h : Int) - (i : Int) = ((h - i : Nat) : Int) by omega]
    dsimp only
    rw [y1, ok_bind]
    exact ⟨y, rfl, FH.tr (s := s) ⟨w2, w3⟩ ⟨y2, y3⟩⟩
/-- spread over the next ways, by the first K -/
def csp (V p : Nat → Int) (H K m : Nat) : Int := sg (fun k => if k ≤ m ∧ m ≤ k + H then V k * p (m - k) else 0) K
theorem csp_cv {V p : Nat → Int} {H M m : Nat} (hV : ∀ k, M < k → V k = 0) (hp : ∀ i, H < i → p i = 0) : csp V p H (M + 1) m = cv V p m := by
  have r := sg_rev (f := fun k => V k * p (m - k)) m
  have e1 : cv V p m = sg (fun k => V k * p (m - k)) (m + 1) := by
    rw [← r]
    unfold cv
    refine sg_congr (fun i hi => ?_)
    show V (m - i) * p i = V (m - i) * p (m - (m - i))
    rw [show m - (m - i) = i by omega]
  have hg : ∀ k, k ≤ m → (if k ≤ m ∧ m ≤ k + H then V k * p (m - k) else 0) = V k * p (m - k) := fun k hk => by
    by_cases q : m ≤ k + H
    · rw [if_pos ⟨hk, q⟩]
    · rw [if_neg (fun z => q z.2), hp (m - k) (by omega), Int.mul_zero]
  rw [e1]
  unfold csp
  rcases Nat.lt_or_ge M m with q | q
  · rw [sg_ext (f := fun k => V k * p (m - k)) (m := M + 1) (n := m + 1) (by omega) (fun k h1 h2 => by
      show V k * p (m - k) = 0
      rw [hV k (by omega), Int.zero_mul])]
    exact sg_congr (fun k hk => hg k (by omega))
  · rw [sg_ext (f := fun k => if k ≤ m ∧ m ≤ k + H then V k * p (m - k) else 0) (m := m + 1) (n := M + 1) (by omega) (fun k h1 h2 => if_neg (fun z => by omega))]
    exact sg_congr (fun k hk => hg k (by omega))
def FT (s u : hh_Sv) : Prop := (∀ k j, ¬ (268 ≤ k ∧ k ≤ 270) → ¬ (k = 242 ∧ 50 ≤ j ∧ j ≤ 53) → u k j = s k j) ∧ iv_H u
theorem FT.tr {u w : hh_Sv} (h1 : FT s u) (h2 : FT u w) : FT s w := ⟨fun k j a b => (h2.1 k j a b).trans (h1.1 k j a b), h2.2⟩
theorem FH.t {u : hh_Sv} (h : FH s u) : FT s u := ⟨fun k j a b => h.1 k j (by omega) (by omega), h.2⟩
theorem FT.wr {u : hh_Sv} {k j : Nat} {w : Int} (h : FT s u) (hk : k = 269 ∨ k = 270 ∨ (k = 242 ∧ 51 ≤ j ∧ j ≤ 53)) : FT s (up u k j w) := by
  refine ⟨fun a b h1 h2 => ?_, h.2.same ?_ (fun b => ?_)⟩
  · show up u k j w a b = s a b
    unfold up
    rw [if_neg (by omega)]
    exact h.1 a b h1 h2
  · show up u k j w 242 50 = u 242 50
    unfold up
    rw [if_neg (by omega)]
  · show up u k j w 268 b = u 268 b
    unfold up
    rw [if_neg (by omega)]
theorem FT.v {u : hh_Sv} (h : FT s u) : Eqv s u := fun k j hn => h.1 k j (fun e => hn (by unfold scr; omega)) (fun e => hn (by obtain ⟨e1, e2, e3⟩ := e; subst e1; unfold scr; omega))
end
