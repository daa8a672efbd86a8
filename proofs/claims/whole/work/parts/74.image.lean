/-! image, back -/
def ccp (s : hh_Sv) (q p : Nat) : hh_Sv := cpy (cpy (cpy (cpy (cpy (up (up (up s q 0 (s p 0)) q 1 (s p 1)) q 2 (s p 2)) (p + 1) 0 (q + 1) 0 60) (p + 2) 0 (q + 2) 0 60) (p + 3) 0 (q + 3) 0 60) (p + 4) 0 (q + 4) 0 60) (p + 5) 0 (q + 5) 0 60
theorem cpy_o {s : hh_Sv} {q sp d dp n a b : Nat} (h : a ≠ d) : cpy s q sp d dp n a b = s a b := by
  unfold cpy
  rw [if_neg (fun z => h z.1)]
theorem cpy_i {s : hh_Sv} {q d n b : Nat} (h : b < n) : cpy s q 0 d 0 n d b = s q b := by
  unfold cpy
  rw [if_pos ⟨rfl, Nat.zero_le _, by omega⟩]
  congr 1
  omega
section
variable {s : hh_Sv} {q p : Nat}
theorem ccp_o {k j : Nat} (h : ¬ (q ≤ k ∧ k ≤ q + 5)) : ccp s q p k j = s k j := by
  unfold ccp
  rw [cpy_o (by omega), cpy_o (by omega), cpy_o (by omega), cpy_o (by omega), cpy_o (by omega), up_k (by omega), up_k (by omega), up_k (by omega)]
theorem ccp_f {j : Nat} (h : j < 3) : ccp s q p q j = s p j := by
  unfold ccp
  rw [cpy_o (by omega), cpy_o (by omega), cpy_o (by omega), cpy_o (by omega), cpy_o (by omega)]
  rcases (show j = 0 ∨ j = 1 ∨ j = 2 by omega) with rfl | rfl | rfl
  · rw [up_j (by decide), up_j (by decide), up_s]
  · rw [up_j (by decide), up_s]
  · rw [up_s]
theorem ccp_a {a j : Nat} (hpq : p + 5 < q ∨ q + 5 < p) (h1 : 1 ≤ a) (h5 : a ≤ 5) (hj : j < 60) : ccp s q p (q + a) j = s (p + a) j := by
  unfold ccp
  rcases (show a = 1 ∨ a = 2 ∨ a = 3 ∨ a = 4 ∨ a = 5 by omega) with rfl | rfl | rfl | rfl | rfl
  · rw [cpy_o (by omega), cpy_o (by omega), cpy_o (by omega), cpy_o (by omega), cpy_i hj, up_k (by omega), up_k (by omega), up_k (by omega)]
  · rw [cpy_o (by omega), cpy_o (by omega), cpy_o (by omega), cpy_i hj, cpy_o (by omega), up_k (by omega), up_k (by omega), up_k (by omega)]
  · rw [cpy_o (by omega), cpy_o (by omega), cpy_i hj, cpy_o (by omega), cpy_o (by omega), up_k (by omega), up_k (by omega), up_k (by omega)]
  · rw [cpy_o (by omega), cpy_i hj, cpy_o (by omega), cpy_o (by omega), cpy_o (by omega), up_k (by omega), up_k (by omega), up_k (by omega)]
  · rw [cpy_i hj, cpy_o (by omega), cpy_o (by omega), cpy_o (by omega), cpy_o (by omega), up_k (by omega), up_k (by omega), up_k (by omega)]
end
section
variable {L : Nat} {s : hh_Sv}
theorem pf15 : ∀ i, i < 3 → pf L 15 i = 72 + 6 * i
  | 0, _ => rfl
  | 1, _ => rfl
  | 2, _ => rfl
theorem kd72 : ∀ i, i < 3 → kd L (72 + 6 * i) = 21
  | 0, _ => rfl
  | 1, _ => rfl
  | 2, _ => rfl
theorem copy_to : ∀ i, i < 3 → co_copy L (72 + 6 * i) 9 s = ok L 0 (ccp s (72 + 6 * i) 9)
  | 0, _ => co_copy_72_9_eq L s
  | 1, _ => co_copy_78_9_eq L s
  | 2, _ => co_copy_84_9_eq L s
theorem copy_of : ∀ i, i < 3 → co_copy L 9 (72 + 6 * i) s = ok L 0 (ccp s 9 (72 + 6 * i))
  | 0, _ => co_copy_9_72_eq L s
  | 1, _ => co_copy_9_78_eq L s
  | 2, _ => co_copy_9_84_eq L s
/-- what the reference's image has laid, up to row r and throw k -/
def im_P (s : hh_Sv) (i r k : Nat) (u : hh_Sv) : Prop := (∀ a j, a ≠ 283 → a ≠ 284 → u a j = s a j) ∧ (∀ j, ¬ (3100 * i ≤ j ∧ j < 3100 * i + 3100) → u 283 j = s 283 j) ∧ (∀ j, j ≠ i → u 284 j = s 284 j) ∧ u 284 i = s 242 4 ∧ u 283 (3100 * i) = s 242 2 ∧ u 283 (3100 * i + 1) = s 242 3 ∧ (∀ x, x < r → u 283 (3100 * i + 2 + x) = s 243 x ∧ u 283 (3100 * i + 62 + x) = s 244 x ∧ u 283 (3100 * i + 122 + x) = s 245 x) ∧ ∀ x, x < k → u 283 (3100 * i + 182 + x) = s 246 x ∧ u 283 (3100 * i + 1622 + x) = s 247 x
theorem md_image_ok {i : Nat} (hi : i < 3) (h : s 242 70 = (i : Int)) : ∃ u, md_image L s = ok L ((i : Int) + 1 - 1) (up u 242 70 ((i : Int) + 1)) ∧ im_P s i 60 1440 u := by
  rw [md_image_eq, if_neg (by rw [h, w32_id (by omega) (by omega)]; omega), h, if_pos (by omega), if_pos (by omega), if_pos (by omega), show (3100 * (i : Int)).toNat = 3100 * i by omega, show (3100 * (i : Int) + 1).toNat = 3100 * i + 1 by omega, Int.toNat_natCast]
  have k4 : ∀ u, im_P s i 60 0 u → ∃ v, md_image_b4 L (3100 * (i : Int)) 0 u = ok L ((i : Int) + 1 - 1) (up v 242 70 ((i : Int) + 1)) ∧ im_P s i 60 1440 v := by
    intro u hu
    refine lp_st (n := 1440) (fun z u => md_image_b4 L (3100 * (i : Int)) z u) (fun k u => im_P s i 60 k u) (fun r => ∃ v, r = ok L ((i : Int) + 1 - 1) (up v 242 70 ((i : Int) + 1)) ∧ im_P s i 60 1440 v) ?_ ?_ 1440 0 u (by omega) hu
    · intro k u hk ⟨p1, p2, p3, p4, p5, p6, p7, p8⟩
      show ∃ t', _ ∧ md_image_b4 L (3100 * (i : Int)) (k : Int) u = md_image_b4 L (3100 * (i : Int)) ((k : Int) + 1) t'
      rw [md_image_b4_eq, if_pos (by rw [w32_id (by omega) (by omega)]; omega), if_pos (by omega), if_pos (by omega), if_pos (by omega), if_pos (by omega), Int.toNat_natCast, show (3100 * (i : Int) + 182 + (k : Int)).toNat = 3100 * i + 182 + k by omega, show (3100 * (i : Int) + 1622 + (k : Int)).toNat = 3100 * i + 1622 + k by omega, p1 246 k (by decide) (by decide), p1 247 k (by decide) (by decide)]
      refine ⟨_, ⟨fun a j h1 h2 => ?_, fun j hj => ?_, fun j hj => ?_, ?_, ?_, ?_, fun x hx => ?_, fun x hx => ?_⟩, rfl⟩
      · rw [up_k h1, up_k h1]; exact p1 a j h1 h2
      · rw [up_j (by omega), up_j (by omega)]; exact p2 j hj
      · rw [up_k (by decide), up_k (by decide)]; exact p3 j hj
      · rw [up_k (by decide), up_k (by decide)]; exact p4
      · rw [up_j (by omega), up_j (by omega)]; exact p5
      · rw [up_j (by omega), up_j (by omega)]; exact p6
      · rw [up_j (by omega), up_j (by omega), up_j (by omega), up_j (by omega), up_j (by omega), up_j (by omega)]
        exact p7 x hx
      · by_cases ex : x = k
        · subst ex
          exact ⟨by rw [up_j (by omega), up_s], up_s⟩
        · rw [up_j (by omega), up_j (by omega), up_j (by omega), up_j (by omega)]
          exact p8 x (by omega)
    · intro u hu
      refine ⟨u, ?_, hu⟩
      show md_image_b4 L (3100 * (i : Int)) ((1440 : Nat) : Int) u = _
      rw [md_image_b4_eq, if_neg (by rw [w32_id (by decide) (by decide)]; decide), hu.1 242 70 (by decide) (by decide), h]
  refine lp_st (n := 60) (fun z u => md_image_b2 L (3100 * (i : Int)) z u) (fun r u => im_P s i r 0 u) (fun r => ∃ v, r = ok L ((i : Int) + 1 - 1) (up v 242 70 ((i : Int) + 1)) ∧ im_P s i 60 1440 v) ?_ ?_ 60 0 _ (by omega) ?_
  · intro k u hk ⟨p1, p2, p3, p4, p5, p6, p7, p8⟩
    show ∃ t', _ ∧ md_image_b2 L (3100 * (i : Int)) (k : Int) u = md_image_b2 L (3100 * (i : Int)) ((k : Int) + 1) t'
    rw [md_image_b2_eq, if_pos (by rw [w32_id (by omega) (by omega)]; omega), if_pos (by omega), if_pos (by omega), if_pos (by omega), if_pos (by omega), if_pos (by omega), if_pos (by omega), Int.toNat_natCast, show (3100 * (i : Int) + 2 + (k : Int)).toNat = 3100 * i + 2 + k by omega, show (3100 * (i : Int) + 62 + (k : Int)).toNat = 3100 * i + 62 + k by omega, show (3100 * (i : Int) + 122 + (k : Int)).toNat = 3100 * i + 122 + k by omega, p1 243 k (by decide) (by decide), p1 244 k (by decide) (by decide), p1 245 k (by decide) (by decide)]
    refine ⟨_, ⟨fun a j h1 h2 => ?_, fun j hj => ?_, fun j hj => ?_, ?_, ?_, ?_, fun x hx => ?_, fun x hx => by omega⟩, rfl⟩
    · rw [up_k h1, up_k h1, up_k h1]; exact p1 a j h1 h2
    · rw [up_j (by omega), up_j (by omega), up_j (by omega)]; exact p2 j hj
    · rw [up_k (by decide), up_k (by decide), up_k (by decide)]; exact p3 j hj
    · rw [up_k (by decide), up_k (by decide), up_k (by decide)]; exact p4
    · rw [up_j (by omega), up_j (by omega), up_j (by omega)]; exact p5
    · rw [up_j (by omega), up_j (by omega), up_j (by omega)]; exact p6
    · by_cases ex : x = k
      · subst ex
        exact ⟨by rw [up_j (by omega), up_j (by omega), up_s], by rw [up_j (by omega), up_s], up_s⟩
      · obtain ⟨q1, q2, q3⟩ := p7 x (by omega)
        exact ⟨by rw [up_j (by omega), up_j (by omega), up_j (by omega)]; exact q1, by rw [up_j (by omega), up_j (by omega), up_j (by omega)]; exact q2, by rw [up_j (by omega), up_j (by omega), up_j (by omega)]; exact q3⟩
  · intro u hu
    show ∃ v, md_image_b2 L (3100 * (i : Int)) ((60 : Nat) : Int) u = _ ∧ _
    rw [md_image_b2_eq, if_neg (by rw [w32_id (by decide) (by decide)]; decide)]
    exact k4 u hu
  · refine ⟨fun a j h1 h2 => ?_, fun j hj => ?_, fun j hj => ?_, ?_, ?_, ?_, fun x hx => by omega, fun x hx => by omega⟩
    · rw [up_k h1, up_k h1, up_k h2]
    · rw [up_j (by omega), up_j (by omega), up_k (by decide)]
    · rw [up_k (by decide), up_k (by decide), up_j hj]
    · rw [up_k (by decide), up_k (by decide), up_s]
    · rw [up_j (by omega), up_s]
    · rw [up_s]
theorem c_image (h : Inv s) : Cal L s (hx_image L) (md_image L) w32 := by
  obtain ⟨i1, i2, i3⟩ := h.1.2.2.1
  obtain ⟨i, hi⟩ := Int.eq_ofNat_of_zero_le i2.1
  have hi8 : s 8 2 = (i : Int) := i1.trans hi
  by_cases e : i < 3
  case neg =>
    refine Cal.pure (v := -1) (v2 := -1) ?_ ?_ rfl h
    · rw [hx_image_eq, if_neg (by rw [hi8, w32_id (by omega) (by omega)]; omega)]
    · rw [md_image_eq, if_pos (by rw [hi, w32_id (by omega) (by omega)]; omega)]
  have eX : hx_image L s = ok L ((i : Int) + 1 - 1) (up (ccp s (72 + 6 * i) 9) 8 2 ((i : Int) + 1)) := by
    rw [hx_image_eq, if_pos (by rw [hi8, w32_id (by omega) (by omega)]; omega), if_pos (by omega), hi8, Int.toNat_natCast, pf15 i e, if_pos (kd72 i e), copy_to i e, ok_bind]
    dsimp only
    rw [ccp_o (by omega), hi8]
  generalize hs1 : up (ccp s (72 + 6 * i) 9) 8 2 ((i : Int) + 1) = s1 at eX
  have m1 : ∀ k j, ¬ (k = 8 ∧ j = 2) → ¬ (72 + 6 * i ≤ k ∧ k ≤ 77 + 6 * i) → s1 k j = s k j := fun k j h1 h2 => by
    rw [← hs1]
    by_cases e8 : k = 8
    · subst e8
      rw [up_j (by omega), ccp_o (by omega)]
    · rw [up_k e8, ccp_o (by omega)]
  obtain ⟨u, u1, u2⟩ := md_image_ok (L := L) (s := s1) e (by rw [m1 _ _ (by omega) (by omega)]; exact hi)
  obtain ⟨p1, p2, p3, p4, p5, p6, p7, p8⟩ := u2
  generalize hs2 : up u 242 70 ((i : Int) + 1) = s2 at u1
  have m2 : ∀ k j, k ≠ 283 → k ≠ 284 → ¬ (k = 242 ∧ j = 70) → s2 k j = s1 k j := fun k j h1 h2 h3 => by
    rw [← hs2]
    by_cases e2 : k = 242
    · subst e2
      rw [up_j (by omega)]
      exact p1 _ _ h1 h2
    · rw [up_k e2]
      exact p1 _ _ h1 h2
  have m83 : ∀ j, s2 283 j = u 283 j := fun j => by rw [← hs2, up_k (by decide)]
  have m84 : ∀ j, s2 284 j = u 284 j := fun j => by rw [← hs2, up_k (by decide)]
  have g : ∀ k j, k ≠ 283 → k ≠ 284 → ¬ (k = 242 ∧ j = 70) → ¬ (k = 8 ∧ j = 2) → ¬ (72 + 6 * i ≤ k ∧ k ≤ 77 + 6 * i) → s2 k j = s k j := fun k j h1 h2 h3 h4 h5 => (m2 k j h1 h2 h3).trans (m1 k j h4 h5)
  have n70 : s2 242 70 = (i : Int) + 1 := by rw [← hs2, up_s]
  have n82 : s2 8 2 = (i : Int) + 1 := by rw [m2 _ _ (by decide) (by decide) (by decide), ← hs1, up_s]
  refine ⟨_, _, _, _, eX, u1, rfl, ?_, fun k hk => funext fun j => m1 _ _ (by omega) (by omega), fun k hk => funext fun j => g _ _ (by omega) (by omega) (by omega) (by omega) (by omega)⟩
  obtain ⟨⟨a1, a2, a3, a4, a5, a6⟩, a7⟩ := h
  have G : ∀ k j, ¬ (k = 283 ∨ k = 284 ∨ (k = 242 ∧ j = 70) ∨ (k = 8 ∧ j = 2) ∨ (72 ≤ k ∧ k ≤ 89)) → s2 k j = s k j := fun k j hk => g k j (by omega) (by omega) (by omega) (by omega) (by omega)
  refine ⟨⟨⟨fun j hj => (G _ _ (by omega)).trans (a1.1 j hj), fun j hj => (G _ _ (by omega)).trans (a1.2 j hj)⟩, a2.eqv (fun k j _ _ => G _ _ (by omega)) ⟨G _ _ (by omega), G _ _ (by omega), G _ _ (by omega)⟩ (fun k j _ _ => G _ _ (by omega)), ⟨n82.trans n70.symm, by rw [n70]; omega, fun x hx => ?_⟩, a4.eqv (G _ _ (by omega)) (fun j => G _ _ (by omega)) (fun j => G _ _ (by omega)) (fun k j _ => G _ _ (by omega)) (fun k n _ _ _ => G _ _ (by omega)) (fun k j _ _ _ => G _ _ (by omega)) (fun k j _ _ _ => G _ _ (by omega)), a5.eqv (G _ _ (by omega)) (G _ _ (by omega)) (fun k j _ _ => G _ _ (by omega)) (fun j _ => G _ _ (by omega)) (fun k j _ _ _ => G _ _ (by omega)), a6.eqv (G _ _ (by omega)) (G _ _ (by omega)) (fun j => G _ _ (by omega)) (fun j => G _ _ (by omega)) (G _ _ (by omega)) (G _ _ (by omega))⟩, a7.same (G _ _ (by omega)) (fun j => G _ _ (by omega))⟩
  rw [n70] at hx
  by_cases ex : x = i
  · subst ex
    obtain ⟨c1, c2, c3, c4, c5, c6, c7⟩ := a2
    have f0 : ∀ j, j < 3 → s2 (72 + 6 * x) j = s 9 j := fun j hj => by rw [m2 _ _ (by omega) (by omega) (by omega), ← hs1, up_k (by omega), ccp_f hj]
    have fa : ∀ a j, 1 ≤ a → a ≤ 5 → j < 60 → s2 (72 + 6 * x + a) j = s (9 + a) j := fun a j h1 h5 hj => by rw [m2 _ _ (by omega) (by omega) (by omega), ← hs1, up_k (by omega), ccp_a (by omega) h1 h5 hj]
    have t2 : s2 283 (3100 * x) = s 242 2 := by rw [m83, p5, m1 _ _ (by omega) (by omega)]
    have t3 : s2 283 (3100 * x + 1) = s 242 3 := by rw [m83, p6, m1 _ _ (by omega) (by omega)]
    have t4 : s2 284 x = s 242 4 := by rw [m84, p4, m1 _ _ (by omega) (by omega)]
    refine ⟨by rw [f0 0 (by decide), t2]; exact c1, by rw [f0 1 (by decide), t3]; exact c2, by rw [f0 2 (by decide), t4]; exact c3, by rw [t2]; exact c4, by rw [t3]; exact c5, fun r hr => ?_, fun a r z1 z2 z3 z4 => (fa a r (by omega) z2 z4).trans (c7 a r z1 z2 (by rw [t3] at z3; exact z3) z4)⟩
    rw [t3] at hr
    refine (c6 r hr).eqv (fun a h1 h5 => fa a r h1 h5 (by omega)) ?_ ?_ ?_ (fun k hk => ?_) (fun k hk => ?_)
    · show s2 283 (3100 * x + 2 + r) = s 243 r
      rw [m83, (p7 r (by omega)).1, m1 _ _ (by omega) (by omega)]
    · show s2 283 (3100 * x + 62 + r) = s 244 r
      rw [m83, (p7 r (by omega)).2.1, m1 _ _ (by omega) (by omega)]
    · show s2 283 (3100 * x + 122 + r) = s 245 r
      rw [m83, (p7 r (by omega)).2.2, m1 _ _ (by omega) (by omega)]
    · show s2 283 (3100 * x + 182 + (24 * r + k)) = s 246 (24 * r + k)
      rw [m83, (p8 (24 * r + k) (by omega)).1, m1 _ _ (by omega) (by omega)]
    · show s2 283 (3100 * x + 1622 + (24 * r + k)) = s 247 (24 * r + k)
      rw [m83, (p8 (24 * r + k) (by omega)).2, m1 _ _ (by omega) (by omega)]
  · have hx2 : x < i := by omega
    have q83 : ∀ j, j < 3100 * i → s2 283 j = s 283 j := fun j hj => by rw [m83, p2 j (by omega), m1 _ _ (by omega) (by omega)]
    have q84 : s2 284 x = s 284 x := by rw [m84, p3 x ex, m1 _ _ (by omega) (by omega)]
    exact iv_Crt.eqv (fun a r ha => g _ _ (by omega) (by omega) (by omega) (by omega) (by omega)) (q83 _ (by omega)) (q83 _ (by omega)) q84 (fun r hr => q83 _ (by omega)) (fun r hr => q83 _ (by omega)) (fun r hr => q83 _ (by omega)) (fun r hr => q83 _ (by omega)) (fun r hr => q83 _ (by omega)) (i3 x (by omega))
end
