/-! back -/
section
variable {L : Nat} {s : hh_Sv}
def bk_P (s : hh_Sv) (i r k : Nat) (u : hh_Sv) : Prop := (∀ a j, ¬ (243 ≤ a ∧ a ≤ 247) → ¬ (a = 242 ∧ (j = 2 ∨ j = 3 ∨ j = 4)) → u a j = s a j) ∧ u 242 4 = s 284 i ∧ u 242 2 = s 283 (3100 * i) ∧ u 242 3 = s 283 (3100 * i + 1) ∧ (∀ x, x < r → u 243 x = s 283 (3100 * i + 2 + x) ∧ u 244 x = s 283 (3100 * i + 62 + x) ∧ u 245 x = s 283 (3100 * i + 122 + x)) ∧ ∀ x, x < k → u 246 x = s 283 (3100 * i + 182 + x) ∧ u 247 x = s 283 (3100 * i + 1622 + x)
theorem md_back_ok {i : Nat} (hi : i < 3) (h : (i : Int) < s 242 70) (h2 : s 242 70 ≤ 3) : ∃ u, md_back L (i : Int) s = ok L 1 u ∧ bk_P s i 60 1440 u := by
  rw [md_back_eq, tst (md_isIn_ok ⟨by omega, by omega⟩ i_lit ⟨by omega, by omega⟩), if_pos (by omega)]
  dsimp only
  rw [if_pos (by omega), if_pos (by omega), if_pos (by omega), show (3100 * (i : Int)).toNat = 3100 * i by omega, show (3100 * (i : Int) + 1).toNat = 3100 * i + 1 by omega, Int.toNat_natCast]
  have k4 : ∀ u, bk_P s i 60 0 u → ∃ v, md_back_b4 L (3100 * (i : Int)) 0 u = ok L 1 v ∧ bk_P s i 60 1440 v := by
    intro u hu
    refine lp_st (n := 1440) (fun z u => md_back_b4 L (3100 * (i : Int)) z u) (fun k u => bk_P s i 60 k u) (fun r => ∃ v, r = ok L 1 v ∧ bk_P s i 60 1440 v) ?_ ?_ 1440 0 u (by omega) hu
    · intro k u hk ⟨p1, p2, p3, p4, p5, p6⟩
      show ∃ t', _ ∧ md_back_b4 L (3100 * (i : Int)) (k : Int) u = md_back_b4 L (3100 * (i : Int)) ((k : Int) + 1) t'
      rw [md_back_b4_eq, if_pos (by rw [w32_id (by omega) (by omega)]; omega), if_pos (by omega), if_pos (by omega), if_pos (by omega), if_pos (by omega), Int.toNat_natCast, show (3100 * (i : Int) + 182 + (k : Int)).toNat = 3100 * i + 182 + k by omega, show (3100 * (i : Int) + 1622 + (k : Int)).toNat = 3100 * i + 1622 + k by omega, p1 283 _ (by omega) (by omega), p1 283 _ (by omega) (by omega)]
      refine ⟨_, ⟨fun a j h1 h2 => ?_, ?_, ?_, ?_, fun x hx => ?_, fun x hx => ?_⟩, rfl⟩
      · rw [up_k (by omega), up_k (by omega)]; exact p1 a j h1 h2
      · rw [up_k (by decide), up_k (by decide)]; exact p2
      · rw [up_k (by decide), up_k (by decide)]; exact p3
      · rw [up_k (by decide), up_k (by decide)]; exact p4
      · rw [up_k (by decide), up_k (by decide), up_k (by decide), up_k (by decide), up_k (by decide), up_k (by decide)]
        exact p5 x hx
      · by_cases ex : x = k
        · subst ex
          exact ⟨by rw [up_k (by decide), up_s], up_s⟩
        · rw [up_k (by decide), up_j ex, up_j ex, up_k (by decide)]
          exact p6 x (by omega)
    · intro u hu
      refine ⟨u, ?_, hu⟩
      show md_back_b4 L (3100 * (i : Int)) ((1440 : Nat) : Int) u = _
      rw [md_back_b4_eq, if_neg (by rw [w32_id (by decide) (by decide)]; decide)]
  refine lp_st (n := 60) (fun z u => md_back_b2 L (3100 * (i : Int)) z u) (fun r u => bk_P s i r 0 u) (fun r => ∃ v, r = ok L 1 v ∧ bk_P s i 60 1440 v) ?_ ?_ 60 0 _ (by omega) ?_
  · intro k u hk ⟨p1, p2, p3, p4, p5, p6⟩
    show ∃ t', _ ∧ md_back_b2 L (3100 * (i : Int)) (k : Int) u = md_back_b2 L (3100 * (i : Int)) ((k : Int) + 1) t'
    rw [md_back_b2_eq, if_pos (by rw [w32_id (by omega) (by omega)]; omega), if_pos (by omega), if_pos (by omega), if_pos (by omega), if_pos (by omega), if_pos (by omega), if_pos (by omega), Int.toNat_natCast, show (3100 * (i : Int) + 2 + (k : Int)).toNat = 3100 * i + 2 + k by omega, show (3100 * (i : Int) + 62 + (k : Int)).toNat = 3100 * i + 62 + k by omega, show (3100 * (i : Int) + 122 + (k : Int)).toNat = 3100 * i + 122 + k by omega, p1 283 _ (by omega) (by omega), p1 283 _ (by omega) (by omega), p1 283 _ (by omega) (by omega)]
    refine ⟨_, ⟨fun a j h1 h2 => ?_, ?_, ?_, ?_, fun x hx => ?_, fun x hx => by omega⟩, rfl⟩
    · rw [up_k (by omega), up_k (by omega), up_k (by omega)]; exact p1 a j h1 h2
    · rw [up_k (by decide), up_k (by decide), up_k (by decide)]; exact p2
    · rw [up_k (by decide), up_k (by decide), up_k (by decide)]; exact p3
    · rw [up_k (by decide), up_k (by decide), up_k (by decide)]; exact p4
    · by_cases ex : x = k
      · subst ex
        exact ⟨by rw [up_k (by decide), up_k (by decide), up_s], by rw [up_k (by decide), up_s], up_s⟩
      · obtain ⟨q1, q2, q3⟩ := p5 x (by omega)
        exact ⟨by rw [up_k (by decide), up_k (by decide), up_j ex]; exact q1, by rw [up_k (by decide), up_j ex, up_k (by decide)]; exact q2, by rw [up_j ex, up_k (by decide), up_k (by decide)]; exact q3⟩
  · intro u hu
    show ∃ v, md_back_b2 L (3100 * (i : Int)) ((60 : Nat) : Int) u = _ ∧ _
    rw [md_back_b2_eq, if_neg (by rw [w32_id (by decide) (by decide)]; decide)]
    exact k4 u hu
  · refine ⟨fun a j h1 h2 => ?_, ?_, ?_, ?_, fun x hx => by omega, fun x hx => by omega⟩
    · by_cases e : a = 242
      · subst e
        rw [up_j (by omega), up_j (by omega), up_j (by omega)]
      · rw [up_k e, up_k e, up_k e]
    · rw [up_j (by decide), up_j (by decide), up_s]
    · rw [up_j (by decide), up_s]
    · rw [up_s]
theorem c_back {a : Int} (ha : I32 a) (h : Inv s) : Cal L s (hx_back L a) (md_back L a) w32 := by
  obtain ⟨i1, i2, i3⟩ := h.1.2.2.1
  by_cases e : 0 ≤ a ∧ a < s 242 70
  case neg =>
    refine Cal.pure (v := 0) (v2 := 0) ?_ ?_ rfl h
    · rw [hx_back_eq, ha.w, i1, w32_id (i := s 242 70) (by omega) (by omega)]
      by_cases e1 : a < 0
      · rw [if_pos e1]
      · rw [if_neg e1, if_neg (by omega)]
    · rw [md_back_eq, tst (md_isIn_ok ha i_lit ⟨by omega, by omega⟩), if_neg (by omega)]
  obtain ⟨i, rfl⟩ := Int.eq_ofNat_of_zero_le e.1
  have hi : i < 3 := by omega
  have eX : hx_back L (i : Int) s = ok L 1 (ccp s 9 (72 + 6 * i)) := by
    rw [hx_back_eq, ha.w, i1, w32_id (i := s 242 70) (by omega) (by omega), if_neg (by omega), if_pos e.2, if_pos (by omega), Int.toNat_natCast, pf15 i hi, copy_of i hi, ok_bind]
  generalize hs1 : ccp s 9 (72 + 6 * i) = s1 at eX
  have m1 : ∀ k j, ¬ (9 ≤ k ∧ k ≤ 14) → s1 k j = s k j := fun k j h1 => by rw [← hs1, ccp_o (by omega)]
  obtain ⟨s2, u1, p1, p2, p3, p4, p5, p6⟩ := md_back_ok (L := L) (s := s1) hi (by rw [m1 _ _ (by omega)]; exact e.2) (by rw [m1 _ _ (by omega)]; omega)
  have g : ∀ k j, ¬ (9 ≤ k ∧ k ≤ 14) → ¬ (k = 242 ∧ (j = 2 ∨ j = 3 ∨ j = 4)) → ¬ (243 ≤ k ∧ k ≤ 247) → s2 k j = s k j := fun k j h1 h2 h3 => (p1 k j h3 h2).trans (m1 k j h1)
  refine ⟨_, _, _, _, eX, u1, rfl, ?_, fun k hk => funext fun j => m1 _ _ (by omega), fun k hk => funext fun j => g _ _ (by omega) (by omega) (by omega)⟩
  refine h.court ?_ g
  obtain ⟨c1, c2, c3, c4, c5, c6, c7⟩ := i3 i e.2
  have f0 : ∀ j, j < 3 → s2 9 j = s (72 + 6 * i) j := fun j hj => by rw [p1 _ _ (by omega) (by omega), ← hs1, ccp_f hj]
  have fa : ∀ a j, 1 ≤ a → a ≤ 5 → j < 60 → s2 (9 + a) j = s (72 + 6 * i + a) j := fun a j h1 h5 hj => by rw [p1 _ _ (by omega) (by omega), ← hs1, ccp_a (by omega) h1 h5 hj]
  have t2 : s2 242 2 = s 283 (3100 * i) := by rw [p3, m1 _ _ (by omega)]
  have t3 : s2 242 3 = s 283 (3100 * i + 1) := by rw [p4, m1 _ _ (by omega)]
  have t4 : s2 242 4 = s 284 i := by rw [p2, m1 _ _ (by omega)]
  refine ⟨by rw [f0 0 (by decide), t2]; exact c1, by rw [f0 1 (by decide), t3]; exact c2, by rw [f0 2 (by decide), t4]; exact c3, by rw [t2]; exact c4, by rw [t3]; exact c5, fun r hr => ?_, fun a r z1 z2 z3 z4 => (fa a r (by omega) z2 z4).trans (c7 a r z1 z2 (by rw [t3] at z3; exact z3) z4)⟩
  rw [t3] at hr
  refine (c6 r hr).eqv (fun a h1 h5 => fa a r h1 h5 (by omega)) ?_ ?_ ?_ (fun k hk => ?_) (fun k hk => ?_)
  · show s2 243 r = s 283 (3100 * i + 2 + r)
    rw [(p5 r (by omega)).1, m1 _ _ (by omega)]
  · show s2 244 r = s 283 (3100 * i + 62 + r)
    rw [(p5 r (by omega)).2.1, m1 _ _ (by omega)]
  · show s2 245 r = s 283 (3100 * i + 122 + r)
    rw [(p5 r (by omega)).2.2, m1 _ _ (by omega)]
  · show s2 246 (24 * r + k) = s 283 (3100 * i + 182 + (24 * r + k))
    rw [(p6 (24 * r + k) (by omega)).1, m1 _ _ (by omega)]
  · show s2 247 (24 * r + k) = s 283 (3100 * i + 1622 + (24 * r + k))
    rw [(p6 (24 * r + k) (by omega)).2, m1 _ _ (by omega)]
end
