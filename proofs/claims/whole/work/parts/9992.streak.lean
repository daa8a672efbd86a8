/-! streak -/
def sA (k : Nat) : Nat → Nat → Int
  | 0 => fun j => if j = 0 then 1 else 0
  | t + 1 => fun j => if j = 0 then sg (sA k t) k else sA k t (j - 1)
def sW (k t : Nat) : Int := sg (sA k t) k
theorem sA_lt {k : Nat} : ∀ {j t : Nat}, j < t → sA k t j = sW k (t - 1 - j)
  | 0, t + 1, _ => by
    rw [sA]
    exact if_pos rfl
  | j + 1, t + 1, h => by
    rw [sA]
    show (if j + 1 = 0 then _ else sA k t (j + 1 - 1)) = _
    rw [if_neg (by omega), show j + 1 - 1 = j from rfl, sA_lt (j := j) (t := t) (by omega)]
    congr 1
    omega
theorem sA_gt {k : Nat} : ∀ {t j : Nat}, t < j → sA k t j = 0
  | 0, j, h => by
    rw [sA]
    exact if_neg (by omega)
  | t + 1, j, h => by
    rw [sA]
    show (if j = 0 then _ else sA k t (j - 1)) = _
    rw [if_neg (by omega)]
    exact sA_gt (by omega)
theorem sg_shift {f : Nat → Int} : ∀ n, sg f (n + 1) = f 0 + sg (fun j => f (j + 1)) n
  | 0 => by simp [sg]
  | n + 1 => by
    rw [sg, sg_shift n, sg]
    omega
theorem sW_rec {k t : Nat} (hk : 1 ≤ k) : sW k (t + 1) = 2 * sW k t - sA k t (k - 1) := by
  obtain ⟨m, rfl⟩ : ∃ m, k = m + 1 := ⟨k - 1, by omega⟩
  have e1 : sW (m + 1) (t + 1) = sA (m + 1) (t + 1) 0 + sg (fun j => sA (m + 1) (t + 1) (j + 1)) m := sg_shift m
  have e2 : sA (m + 1) (t + 1) 0 = sW (m + 1) t := by rw [sA]; exact if_pos rfl
  have e3 : sg (fun j => sA (m + 1) (t + 1) (j + 1)) m = sg (sA (m + 1) t) m := sg_congr (fun j _ => by
    rw [sA]
    show (if j + 1 = 0 then _ else sA (m + 1) t (j + 1 - 1)) = _
    rw [if_neg (by omega)]
    rfl)
  have e4 : sW (m + 1) t = sg (sA (m + 1) t) m + sA (m + 1) t m := rfl
  rw [e1, e2, e3, show m + 1 - 1 = m from rfl]
  omega
theorem sW_0 {k : Nat} (hk : 1 ≤ k) : sW k 0 = 1 := by
  obtain ⟨m, rfl⟩ : ∃ m, k = m + 1 := ⟨k - 1, by omega⟩
  have e1 : sW (m + 1) 0 = sA (m + 1) 0 0 + sg (fun j => sA (m + 1) 0 (j + 1)) m := sg_shift m
  have e2 : sA (m + 1) 0 0 = 1 := by rw [sA]; exact if_pos rfl
  have e3 : sg (fun j => sA (m + 1) 0 (j + 1)) m = sg (fun _ => 0) m := sg_congr (fun j _ => sA_gt (by omega))
  have e4 : ∀ n, sg (fun _ => (0 : Int)) n = 0 := fun n => by
    induction n with
    | zero => rfl
    | succ n ih => rw [sg, ih]; rfl
  rw [e1, e2, e3, e4]
  rfl
theorem sW_small {k : Nat} (hk : 1 ≤ k) : ∀ {t : Nat}, t < k → sW k t = 2 ^ t
  | 0, _ => by rw [sW_0 hk]; rfl
  | t + 1, h => by
    rw [sW_rec hk, sW_small hk (t := t) (by omega), sA_gt (by omega), Int.pow_succ]
    omega
theorem sW_big {k t : Nat} (h : k ≤ t) : sW k t = sg (fun j => sW k (t - 1 - j)) k := sg_congr (fun j hj => sA_lt (by omega))
section
variable {L : Nat} {s : hh_Sv}
theorem hx_streak_lp {n k : Nat} (hn : 1 ≤ n ∧ n ≤ 60) (hk : 1 ≤ k ∧ k ≤ 60) : ∀ (j i : Nat) (u : hh_Sv), i + j = n + 1 → FA 71 s u → (∀ a, a < i → u 71 a = sW k a) → ∃ y, hx_streak_b3 L (n : Int) (k : Int) (i : Int) u = ok L (2 ^ n - sW k n) y ∧ FA 71 s y := by
  intro j
  induction j with
  | zero =>
    intro i u e g p
    rw [Nat.add_zero] at e
    subst e
    rw [hx_streak_b3_eq, if_pos (by rw [w32_id (by omega) (by omega), w32_id (by omega) (by omega)]; omega), if_pos (by omega), Int.toNat_natCast, p n (by omega), lShl_id rfl (by omega), Int.one_mul]
    exact ⟨u, rfl, g⟩
  | succ j ih =>
    intro i u e g p
    have b6 : ∀ (m l : Nat) (v : hh_Sv), l + m = k → k ≤ i → FA 71 s v → (∀ a, a < i → v 71 a = sW k a) → v 71 i = sg (fun j => sW k (i - 1 - j)) l → ∃ y, hx_streak_b6 L (n : Int) (k : Int) (i : Int) ((l : Int) + 1) v = ok L (2 ^ n - sW k n) y ∧ FA 71 s y := by
      intro m
      induction m with
      | zero =>
        intro l v e2 hki gv pv p2
        rw [Nat.add_zero] at e2
        subst e2
        rw [hx_streak_b6_eq, if_neg (by rw [w32_id (by omega) (by omega), w32_id (by omega) (by omega)]; omega), if_pos (by rw [w32_id (by omega) (by omega), w32_id (by omega) (by omega)]; omega)]
        refine ih (i + 1) v (by omega) gv (fun a ha => ?_)
        by_cases ea : a = i
        · rw [ea, p2, sW_big hki]
        · exact pv a (by omega)
      | succ m ih2 =>
        intro l v e2 hki gv pv p2
        rw [hx_streak_b6_eq, if_neg (by rw [w32_id (by omega) (by omega), w32_id (by omega) (by omega)]; omega), if_neg (by rw [w32_id (by omega) (by omega), w32_id (by omega) (by omega)]; omega), if_pos (by omega), if_pos (by omega), if_pos (by omega), Int.toNat_natCast, show ((i : Int) - ((l : Int) + 1)).toNat = i - 1 - l by omega, p2, pv (i - 1 - l) (by omega)]
        refine ih2 (l + 1) _ (by omega) hki gv.up (fun a ha => ?_) ?_
        · rw [up_j (by omega)]
          exact pv a ha
        · rw [up_s]
          rfl
    rw [hx_streak_b3_eq, if_neg (by rw [w32_id (by omega) (by omega), w32_id (by omega) (by omega)]; omega), w32_id (i := (i : Int)) (by omega) (by omega), w32_id (i := (k : Int)) (by omega) (by omega)]
    by_cases hki : i < k
    · rw [if_pos (by omega), hx_streak_b5_eq, if_pos (by omega), hx_streak_b6_eq, if_pos (by rw [w32_id (by omega) (by omega), w32_id (by omega) (by omega)]; omega), Int.toNat_natCast, lShl_id rfl (by omega), Int.one_mul]
      refine ih (i + 1) _ (by omega) g.up (fun a ha => ?_)
      by_cases ea : a = i
      · rw [ea, up_s, sW_small hk.1 hki]
      · rw [up_j ea]
        exact p a (by omega)
    · rw [if_neg (by omega), hx_streak_b5_eq, if_pos (by omega), Int.toNat_natCast]
      exact b6 k 0 _ (by omega) (by omega) g.up (fun a ha => by rw [up_j (by omega)]; exact p a ha) (by rw [up_s]; rfl)
def F2 (s u : hh_Sv) : Prop := ∀ k j, k ≠ 271 → k ≠ 272 → u k j = s k j
theorem F2.up1 {u : hh_Sv} {j : Nat} {w : Int} (h : F2 s u) : F2 s (up u 271 j w) := fun k i a b => by
  rw [up_k a]
  exact h k i a b
theorem F2.up2 {u : hh_Sv} {j : Nat} {w : Int} (h : F2 s u) : F2 s (up u 272 j w) := fun k i a b => by
  rw [up_k b]
  exact h k i a b
theorem F2.q {u : hh_Sv} (h : F2 s u) : Eqh s u := fun k j hn => h k j (fun e => hn (by subst e; exact ⟨by unfold scr; omega, by decide, by omega⟩)) (fun e => hn (by subst e; exact ⟨by unfold scr; omega, by decide, by omega⟩))
theorem md_streak_lp {n k : Nat} (hn : 1 ≤ n ∧ n ≤ 60) (hk : 1 ≤ k ∧ k ≤ 60) : ∀ (j t : Nat) (u : hh_Sv), t + j = n → F2 s u → (∀ a, a < k → u 271 a = sA k t a) → ∃ y, md_streak_b7 L (n : Int) (k : Int) (2 ^ t - sW k t) (t : Int) u = ok L (2 ^ n - sW k n) y ∧ F2 s y := by
  intro j
  induction j with
  | zero =>
    intro t u e g p
    rw [Nat.add_zero] at e
    subst e
    rw [md_streak_b7_eq, if_neg (by omega)]
    exact ⟨u, rfl, g⟩
  | succ j ih =>
    intro t u e g p
    have b8 : ∀ (m l : Nat) (G : Int), l + m = k → md_streak_b8 L (n : Int) (k : Int) G (t : Int) (sg (sA k t) l) (l : Int) u = md_streak_b10 L (n : Int) (k : Int) (G + sA k t (k - 1)) (t : Int) (sW k t) 1 u := by
      intro m
      induction m with
      | zero =>
        intro l G e2
        rw [Nat.add_zero] at e2
        subst e2
        rw [md_streak_b8_eq, if_neg (by omega), if_pos (by omega), show ((l : Int) - 1).toNat = l - 1 by omega, p (l - 1) (by omega)]
        rfl
      | succ m ih2 =>
        intro l G e2
        rw [← ih2 (l + 1) G (by omega), md_streak_b8_eq, if_pos (by rw [w32_id (by omega) (by omega), w32_id (by omega) (by omega)]; omega), if_pos (by omega), Int.toNat_natCast, p l (by omega)]
        rfl
    have b12 : ∀ (m l : Nat) (v : hh_Sv) (G : Int), l + m = k → F2 s v → (∀ a, a < k → v 272 a = sA k (t + 1) a) → (∀ a, a < l → v 271 a = sA k (t + 1) a) → ∃ w, md_streak_b12 L (n : Int) (k : Int) G (t : Int) (l : Int) v = md_streak_b7 L (n : Int) (k : Int) G ((t : Int) + 1) w ∧ F2 s w ∧ ∀ a, a < k → w 271 a = sA k (t + 1) a := by
      intro m
      induction m with
      | zero =>
        intro l v G e2 gv p2 p1
        rw [Nat.add_zero] at e2
        subst e2
        rw [md_streak_b12_eq, if_neg (by omega)]
        exact ⟨v, rfl, gv, p1⟩
      | succ m ih2 =>
        intro l v G e2 gv p2 p1
        rw [md_streak_b12_eq, if_pos (by rw [w32_id (by omega) (by omega), w32_id (by omega) (by omega)]; omega), if_pos (by omega), if_pos (by omega), Int.toNat_natCast]
        refine ih2 (l + 1) _ G (by omega) gv.up1 (fun a ha => by rw [up_k (by decide)]; exact p2 a ha) (fun a ha => ?_)
        by_cases ea : a = l
        · rw [ea, up_s, p2 l (by omega)]
        · rw [up_j ea]
          exact p1 a (by omega)
    have b10 : ∀ (m l : Nat) (v : hh_Sv) (G : Int), 1 ≤ l → l + m = k → F2 s v → (∀ a, a < k → v 271 a = sA k t a) → (∀ a, 1 ≤ a → a < l → v 272 a = sA k (t + 1) a) → ∃ w, md_streak_b10 L (n : Int) (k : Int) G (t : Int) (sW k t) (l : Int) v = md_streak_b7 L (n : Int) (k : Int) G ((t : Int) + 1) w ∧ F2 s w ∧ ∀ a, a < k → w 271 a = sA k (t + 1) a := by
      intro m
      induction m with
      | zero =>
        intro l v G hl e2 gv p1 p2
        rw [Nat.add_zero] at e2
        subst e2
        rw [md_streak_b10_eq, if_neg (by omega), if_pos (by decide)]
        refine b12 l 0 _ G (by omega) gv.up2 (fun a ha => ?_) (fun a ha => by omega)
        by_cases ea : a = 0
        · rw [ea, up_s, sA]
          exact (if_pos rfl).symm
        · rw [up_j ea]
          exact p2 a (by omega) ha
      | succ m ih2 =>
        intro l v G hl e2 gv p1 p2
        rw [md_streak_b10_eq, if_pos (by rw [w32_id (by omega) (by omega), w32_id (by omega) (by omega)]; omega), if_pos (by omega), if_pos (by omega), Int.toNat_natCast, show ((l : Int) - 1).toNat = l - 1 by omega]
        refine ih2 (l + 1) _ G (by omega) (by omega) gv.up2 (fun a ha => by rw [up_k (by decide)]; exact p1 a ha) (fun a h1 ha => ?_)
        by_cases ea : a = l
        · rw [ea, up_s, p1 (l - 1) (by omega), sA]
          exact (if_neg (by omega)).symm
        · rw [up_j ea]
          exact p2 a h1 (by omega)
    have e8 := b8 k 0 ((2 ^ t - sW k t) * 2) (by omega)
    have e8 : md_streak_b8 L (n : Int) (k : Int) ((2 ^ t - sW k t) * 2) (t : Int) 0 0 u = _ := e8
    obtain ⟨w, w1, w2, w3⟩ := b10 (k - 1) 1 u ((2 ^ t - sW k t) * 2 + sA k t (k - 1)) (by decide) (by omega) g p (fun a h1 h2 => by omega)
    have w1 : md_streak_b10 L (n : Int) (k : Int) ((2 ^ t - sW k t) * 2 + sA k t (k - 1)) (t : Int) (sW k t) 1 u = _ := w1
    have eG : (2 ^ t - sW k t) * 2 + sA k t (k - 1) = 2 ^ (t + 1) - sW k (t + 1) := by
      rw [sW_rec hk.1, Int.pow_succ]
      omega
    rw [md_streak_b7_eq, if_pos (by rw [w32_id (by omega) (by omega), w32_id (by omega) (by omega)]; omega), e8, w1, eG]
    exact ih (t + 1) w (by omega) w2 w3
theorem c_streak {a1 a2 : Int} (h1 : I32 a1) (h2 : I32 a2) (h : Inv s) : Cal L s (hx_streak L a1 a2) (md_streak L a1 a2) w64 := by
  have hX := hx_streak_eq L a1 a2 s
  have hY := fun z => md_streak_eq L a1 a2 z
  rw [tst (hx_isIn_ok h1 i_lit i_lit)] at hX
  by_cases e1 : 1 ≤ a1 ∧ a1 ≤ 60
  case neg => exact Cal.pure (hX.trans (if_neg e1)) ((hY s).trans (by rw [tst (md_isIn_ok h1 i_lit i_lit), if_neg e1])) rfl h
  rw [if_pos e1] at hX
  dsimp only at hX
  rw [tst (hx_isIn_ok h2 i_lit i_lit)] at hX
  by_cases e2 : 1 ≤ a2 ∧ a2 ≤ 60
  case neg => exact Cal.pure (hX.trans (if_neg e2)) ((hY s).trans (by rw [tst (md_isIn_ok h1 i_lit i_lit), if_pos e1]; dsimp only; rw [tst (md_isIn_ok h2 i_lit i_lit), if_neg e2])) rfl h
  rw [if_pos e2] at hX
  dsimp only at hX
  obtain ⟨n, rfl⟩ := Int.eq_ofNat_of_zero_le (show 0 ≤ a1 by omega)
  obtain ⟨k, rfl⟩ := Int.eq_ofNat_of_zero_le (show 0 ≤ a2 by omega)
  obtain ⟨y, y1, y2⟩ := hx_streak_lp (L := L) (s := s) (show 1 ≤ n ∧ n ≤ 60 by omega) (show 1 ≤ k ∧ k ≤ 60 by omega) (n + 1) 0 s (by omega) FA.rf (fun a ha => by omega)
  have y1 : hx_streak_b3 L (n : Int) (k : Int) 0 s = _ := y1
  rw [y1] at hX
  have yq := y2.q (by decide)
  have first : ∃ u, md_streak_b3 L (n : Int) (k : Int) 0 y = md_streak_b7 L (n : Int) (k : Int) 0 0 u ∧ F2 y u ∧ ∀ a, a < 61 → u 271 a = sA k 0 a := by
    refine lp_st (n := 61) (fun z u => md_streak_b3 L (n : Int) (k : Int) z u) (fun i u => F2 y u ∧ ∀ a, a < i → u 271 a = sA k 0 a) (fun q => ∃ u, q = md_streak_b7 L (n : Int) (k : Int) 0 0 u ∧ F2 y u ∧ ∀ a, a < 61 → u 271 a = sA k 0 a) ?_ ?_ 61 0 y (by omega) ⟨fun _ _ _ _ => rfl, fun a ha => by omega⟩
    · intro i u hi ⟨g, p⟩
      refine ⟨up u 271 i (sA k 0 i), ⟨g.up1, fun a ha => ?_⟩, ?_⟩
      · by_cases e : a = i
        · rw [e, up_s]
        · rw [up_j e]
          exact p a (by omega)
      · show md_streak_b3 L (n : Int) (k : Int) (i : Int) u = md_streak_b3 L (n : Int) (k : Int) ((i : Int) + 1) (up u 271 i (sA k 0 i))
        rw [md_streak_b3_eq, if_pos (by rw [w32_id (by omega) (by omega)]; omega), w32_id (i := (i : Int)) (by omega) (by omega)]
        by_cases e : i = 0
        · have es : sA k 0 i = 1 := by rw [sA]; exact if_pos e
          rw [if_pos (by omega), md_streak_b5_eq, if_pos (by omega), Int.toNat_natCast, es]
        · have es : sA k 0 i = 0 := by rw [sA]; exact if_neg e
          rw [if_neg (by omega), md_streak_b5_eq, if_pos (by omega), Int.toNat_natCast, es]
    · intro u ⟨g, p⟩
      refine ⟨u, ?_, g, p⟩
      show md_streak_b3 L (n : Int) (k : Int) ((61 : Nat) : Int) u = _
      rw [md_streak_b3_eq, if_neg (by rw [w32_id (by decide) (by decide)]; decide)]
  obtain ⟨u, u1, u2, u3⟩ := first
  obtain ⟨z, z1, z2⟩ := md_streak_lp (L := L) (s := y) (show 1 ≤ n ∧ n ≤ 60 by omega) (show 1 ≤ k ∧ k ≤ 60 by omega) n 0 u (by omega) u2 (fun a ha => u3 a (by omega))
  rw [sW_0 (by omega)] at z1
  have z1 : md_streak_b7 L (n : Int) (k : Int) 0 0 u = _ := z1
  have hYy := hY y
  rw [tst (md_isIn_ok h1 i_lit i_lit), if_pos e1] at hYy
  dsimp only at hYy
  rw [tst (md_isIn_ok h2 i_lit i_lit), if_pos e2] at hYy
  dsimp only at hYy
  rw [u1, z1] at hYy
  exact Cal.q hX hYy rfl yq z2.q h
end
