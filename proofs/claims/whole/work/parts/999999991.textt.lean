/-! measure -/
section
variable {L M : Nat} {T : Nat → Int} {n m i i2 c p k : Nat} {s u y z : hh_Sv} {a : Int} {ev : Nat → MV}
theorem Inv.meas (h : Inv s) (g : ∀ k j, ¬ (k = 8 ∧ (j = 7 ∨ j = 9)) → ¬ (24 ≤ k ∧ k ≤ 28) → ¬ (170 ≤ k ∧ k ≤ 241) → ¬ (k = 242 ∧ (j = 10 ∨ j = 11 ∨ j = 12 ∨ j = 16 ∨ j = 17 ∨ j = 32 ∨ j = 33)) → ¬ (263 ≤ k ∧ k ≤ 267) → k ≠ 261 → u k j = s k j) (hM : iv_M u) (hB : iv_B u) : Inv u := by
  obtain ⟨⟨a1, a2, a3, a4, a5, a6⟩, a7⟩ := h
  have G : ∀ k j, ((k < 8) ∨ (k = 8 ∧ (j = 2 ∨ j = 5)) ∨ (9 ≤ k ∧ k ≤ 23) ∨ (72 ≤ k ∧ k ≤ 169) ∨ (k = 242 ∧ (j = 2 ∨ j = 3 ∨ j = 4 ∨ j = 50 ∨ j = 70)) ∨ (243 ≤ k ∧ k ≤ 258) ∨ (268 ≤ k)) → u k j = s k j := fun k j hk => g k j (by omega) (by omega) (by omega) (by omega) (by omega) (by omega)
  exact ⟨⟨⟨fun j hj => (G _ _ (by omega)).trans (a1.1 j hj), fun j hj => (G _ _ (by omega)).trans (a1.2 j hj)⟩, a2.eqv (fun k j _ _ => G _ _ (by omega)) ⟨G _ _ (by omega), G _ _ (by omega), G _ _ (by omega)⟩ (fun k j _ _ => G _ _ (by omega)), a3.eqv (G _ _ (by omega)) (G _ _ (by omega)) (fun k j _ _ => G _ _ (by omega)) (fun j => G _ _ (by omega)) (fun j => G _ _ (by omega)), a4.eqv (G _ _ (by omega)) (fun j => G _ _ (by omega)) (fun j => G _ _ (by omega)) (fun k j _ => G _ _ (by omega)) (fun k n _ _ _ => G _ _ (by omega)) (fun k j _ _ _ => G _ _ (by omega)) (fun k j _ _ _ => G _ _ (by omega)), hM, hB⟩, a7.same (G _ _ (by omega)) (fun j => G _ _ (by omega))⟩
theorem iv_M.cells (hM : M ≤ 12) (hs : ∀ k j, 170 ≤ k → k < 170 + 6 * M → u k j = s k j) (h1 : ∀ j, j < M → u 263 j = s 263 j) (h2 : ∀ k j, 264 ≤ k → k ≤ 267 → j < 4 * M → u k j = s k j) (h3 : ∀ i : Nat, i < M → s (170 + 6 * i) 0 = s 263 i ∧ (1 ≤ s 263 i ∧ s 263 i ≤ 4) ∧ ∀ j : Nat, (j : Int) < s 263 i → me_T s i j) : ∀ i : Nat, i < M → u (170 + 6 * i) 0 = u 263 i ∧ (1 ≤ u 263 i ∧ u 263 i ≤ 4) ∧ ∀ j : Nat, (j : Int) < u 263 i → me_T u i j := by
  intro i hi
  obtain ⟨b1, b2, b3⟩ := h3 i hi
  rw [hs _ _ (by omega) (by omega), h1 i hi]
  exact ⟨b1, b2, fun j hj => (b3 j hj).eqv (fun k q1 q2 => hs _ _ (by omega) (by omega)) (fun k q1 q2 => h2 k _ q1 q2 (by omega))⟩
theorem md_measure_b7_ok (hM : M < 12) (hc : c ≤ 4) (h16 : s 242 16 = (M : Int)) (h63 : s 263 12 = (c : Int)) : ∃ y, md_measure_b7 L 0 s = ok L ((M : Int) + 1 - 1) (up y 242 16 ((M : Int) + 1)) ∧ (∀ a j, 264 ≤ a → a ≤ 267 → j < c → y a (4 * M + j) = s a (48 + j)) ∧ ∀ a b', ¬ (264 ≤ a ∧ a ≤ 267 ∧ 4 * M ≤ b' ∧ b' < 4 * M + 4) → y a b' = s a b' := by
  have h12 : (0 : Nat) ≤ 12 ∧ 12 < 13 := by omega
  refine lp_st (n := c) (md_measure_b7 L) (fun j u => (∀ a k, 264 ≤ a → a ≤ 267 → k < j → u a (4 * M + k) = s a (48 + k)) ∧ ∀ a b', ¬ (264 ≤ a ∧ a ≤ 267 ∧ 4 * M ≤ b' ∧ b' < 4 * M + j) → u a b' = s a b') (fun r => ∃ y, r = ok L ((M : Int) + 1 - 1) (up y 242 16 ((M : Int) + 1)) ∧ (∀ a j, 264 ≤ a → a ≤ 267 → j < c → y a (4 * M + j) = s a (48 + j)) ∧ ∀ a b', ¬ (264 ≤ a ∧ a ≤ 267 ∧ 4 * M ≤ b' ∧ b' < 4 * M + 4) → y a b' = s a b') (fun i u hi hu => ?_) (fun u hu => ?_) c 0 s (by omega) ⟨fun a k _ _ hk => by omega, fun a b _ => rfl⟩
  · obtain ⟨p1, p2⟩ := hu
    have u16 : u 242 16 = (M : Int) := by rw [p2 _ _ (by omega)]; exact h16
    have u63 : u 263 12 = (c : Int) := by rw [p2 _ _ (by omega)]; exact h63
    have i1 : (0 : Int) ≤ 48 + (i : Int) ∧ 48 + (i : Int) < 52 := by omega
    have i2 : (0 : Int) ≤ 4 * (M : Int) + (i : Int) ∧ 4 * (M : Int) + (i : Int) < 52 := by omega
    have n1 : (48 + (i : Int)).toNat = 48 + i := by omega
    have n2 : (4 * (M : Int) + (i : Int)).toNat = 4 * M + i := by omega
    have hs : ∀ a, 264 ≤ a → a ≤ 267 → u a (48 + i) = s a (48 + i) := fun a h1 h2 => p2 a _ (by omega)
    refine ⟨up (up (up (up u 264 (4 * M + i) (u 264 (48 + i))) 265 (4 * M + i) (u 265 (48 + i))) 266 (4 * M + i) (u 266 (48 + i))) 267 (4 * M + i) (u 267 (48 + i)), ⟨fun a k h1 h2 hk => ?_, fun a b' hh => ?_⟩, ?_⟩
    · by_cases e : k = i
      · subst e
        have ha : a = 264 ∨ a = 265 ∨ a = 266 ∨ a = 267 := by omega
        rcases ha with ha | ha | ha | ha <;> subst ha
        · rw [up_k (by decide), up_k (by decide), up_k (by decide), up_s]; exact hs _ (by decide) (by decide)
        · rw [up_k (by decide), up_k (by decide), up_s]; exact hs _ (by decide) (by decide)
        · rw [up_k (by decide), up_s]; exact hs _ (by decide) (by decide)
        · rw [up_s]; exact hs _ (by decide) (by decide)
      · rw [up_j (by omega), up_j (by omega), up_j (by omega), up_j (by omega)]
        exact p1 a k h1 h2 (by omega)
    · rw [← p2 a b' (by omega)]
      unfold up
      rw [if_neg (by omega), if_neg (by omega), if_neg (by omega), if_neg (by omega)]
    · rw [md_measure_b7_eq, if_pos h12, if_pos (by rw [u63, w32_id (by omega) (by omega), w32_id (by omega) (by omega)]; omega), u16, if_pos i1, if_pos i2, if_pos i1, if_pos i2, if_pos i1, if_pos i2, if_pos i1, if_pos i2, n1, n2]
  · obtain ⟨p1, p2⟩ := hu
    have u16 : u 242 16 = (M : Int) := by rw [p2 _ _ (by omega)]; exact h16
    have u63 : u 263 12 = (c : Int) := by rw [p2 _ _ (by omega)]; exact h63
    refine ⟨u, ?_, p1, fun a b' hh => p2 a b' (by omega)⟩
    rw [md_measure_b7_eq, if_pos h12, if_neg (by rw [u63, w32_id (by omega) (by omega)]; omega), u16]
theorem c_measure (ha : I32 a) (h : Inv s) (h3 : s 3 1 = 0) : Cal L s (hx_measure L a) (md_measure L a) w32 := by
  have iM := h.1.2.2.2.2.1
  have iK := h.1.1
  obtain ⟨b1, b2, b3, b4, b5⟩ := h.1.2.2.2.2.2
  obtain ⟨m1, m2, m3⟩ := iM
  have eX := hx_isOnTape_ok (L := L) (s := s) ha (by omega)
  have refI : ∀ s1 : hh_Sv, s1 242 10 = s 242 10 → md_isIn L a 0 (s1 242 10) s1 = ok L (zb (0 ≤ a ∧ a ≤ s 242 10)) s1 := fun s1 e => by rw [e]; exact md_isIn_ok ha ⟨by decide, by decide⟩ ⟨by omega, by omega⟩
  by_cases hA : 0 ≤ a ∧ a ≤ s 24 0
  · by_cases h12 : s 242 16 = 12
    · refine Cal.pure (v := -3) (v2 := -3) ?_ ?_ rfl h
      · rw [hx_measure_eq, eX, ok_bind]
        dsimp only
        rw [if_neg (fun z => zb_w.mp z hA)]
        exact if_neg (by rw [m1, h12, w32_id (by decide) (by decide)]; decide)
      · rw [md_measure_eq, refI s rfl, ok_bind]
        dsimp only
        rw [if_neg (fun z => zb_w.mp z (by omega))]
        exact if_pos (by rw [h12]; exact w32_id (by decide) (by decide))
    · obtain ⟨n, hn⟩ : ∃ n : Nat, a = (n : Int) := ⟨a.toNat, by omega⟩
      obtain ⟨M, hM⟩ : ∃ M : Nat, s 242 16 = (M : Int) := ⟨(s 242 16).toNat, by omega⟩
      subst hn
      have hM12 : M < 12 := by omega
      have h87 : s 8 7 = (M : Int) := by omega
      obtain ⟨k1, k2, -⟩ := me_shL (L := L) (i := M) hM12
      have hn6 : n ≤ 600 := by omega
      have hT : ∀ j, j < n → s 25 j = s 260 j ∧ -128 ≤ s 260 j ∧ s 260 j < 128 := fun j hj => b3 j (by omega)
      have f0 : ∀ a b, ¬ (a = 170 + 6 * M ∧ b = 0) → up s (170 + 6 * M) 0 0 a b = s a b := fun a b hh => by
        unfold up
        rw [if_neg hh]
      have hTc : Tc (up s (170 + 6 * M) 0 0) (s 260) n := ⟨hn6, fun j hj => ⟨by rw [f0 _ _ (by omega)]; exact (hT j hj).1, (hT j hj).2⟩, by rw [f0 _ _ (by omega)]; exact h3, fun j hj => by rw [f0 _ _ (by omega)]; exact iK.2 j hj⟩
      obtain ⟨y, m, y1, y2, y3, y4, y5, y6, y7⟩ := re_open_ok (L := L) hTc
      have hk : TK (s 260) n m := ⟨hn6, y4, y5, y7, fun j hj => (hT j hj).2⟩
      have hcr : CR y (s 260) n m 0 := ⟨hn6, y4, y5, y6, y7, y3, Nat.zero_le _, fun j hj => (hT j hj).2⟩
      obtain ⟨b, i2, c2, ev2, o1, o2, o3, o4⟩ := ms_ok (L := L) hk hM12 3 0 0 1 (fun _ => (0, 0, 0, 0, 0, 0, 0)) (by decide) (Nat.zero_le _) (Or.inl rfl) (fun j hj => by omega)
      obtain ⟨x, x1, x2, x3, x4⟩ := o2 y hcr (by rw [y2 _ _ (by omega) (by omega) (by omega) (by omega), up_s]; rfl) (fun j hj => by omega)
      have hi2 := hk.qq o1
      -- the class, to the end of the text
      have fx : ∀ a b', ¬ (a = 24 ∧ b' = 5) → ¬ (26 ≤ a ∧ a ≤ 28) → ¬ (170 + 6 * M ≤ a ∧ a ≤ 175 + 6 * M) → x a b' = s a b' := fun a b' q1 q2 q3 => by rw [x2 a b' q1 q3, y2 a b' (by omega) (by omega) (by omega) q1, f0 a b' (by omega)]
      generalize hPP : (if b = true then -1 else ((tP (s 260) n i2 : Nat) : Int)) = P
      have hP : P = -1 ∨ (0 ≤ P ∧ P ≤ 600) := by
        rw [← hPP]
        cases b
        · rw [if_neg (by decide)]; omega
        · rw [if_pos rfl]; omega
      have fy : ∀ a b', ¬ (a = 24 ∧ b' = 0) → ¬ (a = 8 ∧ b' = 9) → up (up x 8 9 P) 24 0 0 a b' = x a b' := fun a b' q1 q2 => by
        unfold up
        rw [if_neg q1, if_neg q2]
      have s24 : up (up x 8 9 P) 24 0 0 24 0 = 0 := up_s
      have s89 : up (up x 8 9 P) 24 0 0 8 9 = P := by rw [up_k (by decide), up_s]
      have eH : hx_measure L (n : Int) s = (if w32 (zb (b = true)) = 0 then ok L (-1) (up (up x 8 9 P) 24 0 0) else ok L (((up (up x 8 9 P) 24 0 0 8 7) + 1) - 1) (up (up (up x 8 9 P) 24 0 0) 8 7 ((up (up x 8 9 P) 24 0 0 8 7) + 1))) := by
        rw [hx_measure_eq, eX, ok_bind]
        dsimp only
        rw [if_neg (fun z => zb_w.mp z hA), if_pos (by rw [h87, w32_id (by omega) (by omega)]; omega), if_pos (by rw [h87]; omega), show (s 8 7).toNat = M by omega, k2, re_readMeasure_eq, if_pos k1, me_clear_eq, if_pos k1, if_pos (by omega), ok_bind]
        dsimp only
        rw [y1, ok_bind]
        dsimp only
        rw [show re_readMeasure_b1 L (170 + 6 * M) 1 1 y = ok L (zb (b = true)) x from x1, ok_bind]
        dsimp only
        rw [closeT x3, ok_bind, hPP]
      generalize hS1 : up (up x 8 9 P) 24 0 0 = s1 at fy s24 s89 eH
      have f1 : ∀ a b', ¬ (a = 24 ∧ (b' = 0 ∨ b' = 5)) → ¬ (26 ≤ a ∧ a ≤ 28) → ¬ (170 + 6 * M ≤ a ∧ a ≤ 175 + 6 * M) → ¬ (a = 8 ∧ b' = 9) → s1 a b' = s a b' := fun a b' q1 q2 q3 q4 => by rw [fy a b' (by omega) q4, fx a b' (by omega) q2 q3]
      -- the reference
      have ref : ∀ s2 : hh_Sv, (∀ a b', 242 ≤ a → s2 a b' = s a b') → ∃ z, md_measure L (n : Int) s2 = (if w32 (zb (b = true)) = 0 then (md_blanks L z).bind (fun r4 => md_measure_b3 L (zb (b = true)) r4.2.2) else md_measure_b3 L (zb (b = true)) z) ∧ (∀ a b', a ≠ 261 → ¬ (a = 242 ∧ (b' = 10 ∨ b' = 11 ∨ b' = 12 ∨ b' = 32 ∨ b' = 33)) → ¬ (a = 263 ∧ b' = 12) → ¬ (264 ≤ a ∧ a ≤ 267 ∧ 48 ≤ b') → z a b' = s2 a b') ∧ RG z (s 260) n i2 ∧ z 242 10 = 0 ∧ (b = true → z 263 12 = (c2 : Int) ∧ Rev c2 ev2 z) := by
        intro s2 hs2
        obtain ⟨w, w1, w2, w3, w4, w5⟩ := md_laysT_ok (L := L) (s := s2) (T := s 260) (n := n) hn6 (fun j hj => ⟨hs2 _ _ (by decide), (hT j hj).2⟩)
        have fw : ∀ a b', ¬ (a = 263 ∧ b' = 12) → up w 263 12 0 a b' = w a b' := fun a b' hh => by unfold up; rw [if_neg hh]
        have hr : RG (up w 263 12 0) (s 260) n 0 := RG.x (s := w) ⟨w2, tP (s 260) n 0, w3, (rn_le (Nat.zero_le _)).2, rn_rn (Nat.zero_le _)⟩ (fun a b hh => fw a b (by omega))
        obtain ⟨z, z1, z2, z3, z4⟩ := o3 (up w 263 12 0) hr up_s (fun j hj => by omega)
        refine ⟨z, ?_, fun a b' q1 q2 q3 q4 => ?_, z3, ?_, z4⟩
        · rw [md_measure_eq, refI s2 (hs2 _ _ (by decide)), ok_bind]
          dsimp only
          rw [if_neg (fun z => zb_w.mp z (by omega)), if_neg (by rw [hs2 _ _ (by decide), hM, w32_id (by omega) (by omega)]; omega), w1, ok_bind]
          dsimp only
          rw [md_measureTold_eq, if_pos (by decide), show md_measureTold_b1 L 48 1 0 (up w 263 12 0) = ok L (zb (b = true)) z from z1, ok_bind]
        · rw [z2 a b' (by omega) q3 q4, fw a b' q3, w5 a b' q1 (by omega)]
        · rw [z2 _ _ (by omega) (by omega) (by omega), fw _ _ (by omega)]
          exact w4
      cases b
      · obtain ⟨z, z1, z2, z3, z4, z5⟩ := ref s1 (fun a b' q => f1 _ _ (by omega) (by omega) (by omega) (by omega))
        have z3' := z3
        obtain ⟨hTx, p, p1, p2, p3⟩ := z3'
        obtain ⟨v, v1, v2, v3⟩ := md_blanks_ok (L := L) hTx p1 p2
        rw [p3] at v3
        have eP : P = ((tP (s 260) n i2 : Nat) : Int) := by rw [← hPP, if_neg (by decide)]
        have fu : ∀ a b', ¬ (a = 242 ∧ b' = 17) → up v 242 17 (v 242 12) a b' = v a b' := fun a b' hh => by unfold up; rw [if_neg hh]
        have fin : ∀ a b', a ≠ 261 → ¬ (a = 242 ∧ (b' = 10 ∨ b' = 11 ∨ b' = 12 ∨ b' = 17 ∨ b' = 32 ∨ b' = 33)) → ¬ (a = 263 ∧ b' = 12) → ¬ (264 ≤ a ∧ a ≤ 267 ∧ 48 ≤ b') → up v 242 17 (v 242 12) a b' = s1 a b' := fun a b' q1 q2 q3 q4 => by rw [fu a b' (by omega), v2 a b' (by omega), z2 a b' q1 (by omega) q3 q4]
        have fin2 : ∀ a b', a ≠ 261 → ¬ (a = 242 ∧ (b' = 10 ∨ b' = 11 ∨ b' = 12 ∨ b' = 17 ∨ b' = 32 ∨ b' = 33)) → ¬ (a = 263 ∧ b' = 12) → ¬ (264 ≤ a ∧ a ≤ 267 ∧ 48 ≤ b') → ¬ (a = 24 ∧ (b' = 0 ∨ b' = 5)) → ¬ (26 ≤ a ∧ a ≤ 28) → ¬ (170 + 6 * M ≤ a ∧ a ≤ 175 + 6 * M) → ¬ (a = 8 ∧ b' = 9) → up v 242 17 (v 242 12) a b' = s a b' := fun a b' q1 q2 q3 q4 q5 q6 q7 q8 => by rw [fin a b' q1 q2 q3 q4, f1 a b' q5 q6 q7 q8]
        have e10 : up v 242 17 (v 242 12) 242 10 = 0 := by rw [fu _ _ (by omega), v2 _ _ (by omega)]; exact z4
        have e17 : up v 242 17 (v 242 12) 242 17 = P := by rw [up_s, v3, eP]
        have e16 : up v 242 17 (v 242 12) 242 16 = (M : Int) := by rw [fin2 _ _ (by omega) (by omega) (by omega) (by omega) (by omega) (by omega) (by omega) (by omega)]; exact hM
        refine ⟨-1, s1, -1, up v 242 17 (v 242 12), ?_, ?_, rfl, ?_, fun k hk => funext (fun j => f1 _ _ (by omega) (by omega) (by omega) (by omega)), fun k hk => funext (fun j => fin2 _ _ (by omega) (by omega) (by omega) (by omega) (by omega) (by omega) (by omega) (by omega))⟩
        · rw [eH, if_pos (zb_w.mpr (show ¬ (false = true) by decide))]
        · rw [z1, if_pos (zb_w.mpr (show ¬ (false = true) by decide)), v1, ok_bind, zb_0 (show ¬ (false = true) by decide)]
          dsimp only
          rw [md_measure_b3_eq, if_pos w32_0', md_measure_b5_eq, if_pos w32_0']
        · refine h.meas (fun k j q1 q2 q3 q4 q5 q6 => fin2 k j q6 (by omega) (by omega) (by omega) (by omega) (by omega) (by omega) (by omega)) ⟨?_, by rw [e16]; omega, ?_⟩ ⟨?_, by rw [e10]; decide, fun j hj => by rw [e10] at hj; omega, ?_, ?_⟩
          · rw [fin2 _ _ (by omega) (by omega) (by omega) (by omega) (by omega) (by omega) (by omega) (by omega), h87, e16]
          · intro i hi
            rw [e16] at hi
            exact iv_M.cells (M := M) (s := s) (by omega) (fun k j q1 q2 => fin2 _ _ (by omega) (by omega) (by omega) (by omega) (by omega) (by omega) (by omega) (by omega)) (fun j hj => fin2 _ _ (by omega) (by omega) (by omega) (by omega) (by omega) (by omega) (by omega) (by omega)) (fun k j q1 q2 q3 => fin2 _ _ (by omega) (by omega) (by omega) (by omega) (by omega) (by omega) (by omega) (by omega)) (fun i hi => m3 i (by omega)) i (by omega)
          · rw [fin _ _ (by omega) (by omega) (by omega) (by omega), s24, e10]
          · rw [fin _ _ (by omega) (by omega) (by omega) (by omega), s89, e17]
          · rw [e17]
            exact ⟨by omega, by omega⟩
      · have eP : P = -1 := by rw [← hPP, if_pos rfl]
        obtain ⟨hc1, hc2⟩ := o4 rfl
        obtain ⟨xc, xe⟩ := x4 rfl
        have h87' : s1 8 7 = (M : Int) := by rw [f1 _ _ (by omega) (by omega) (by omega) (by omega)]; exact h87
        have f2 : ∀ a b', ¬ (a = 8 ∧ b' = 7) → up s1 8 7 (s1 8 7 + 1) a b' = s1 a b' := fun a b' hh => by unfold up; rw [if_neg hh]
        obtain ⟨z, z1, z2, z3, z4, z5⟩ := ref (up s1 8 7 (s1 8 7 + 1)) (fun a b' q => by rw [f2 _ _ (by omega)]; exact f1 _ _ (by omega) (by omega) (by omega) (by omega))
        obtain ⟨z63, zv⟩ := z5 rfl
        have z16 : z 242 16 = (M : Int) := by rw [z2 _ _ (by omega) (by omega) (by omega) (by omega), f2 _ _ (by omega), f1 _ _ (by omega) (by omega) (by omega) (by omega)]; exact hM
        have fv : ∀ a b', ¬ (a = 242 ∧ b' = 17) → ¬ (a = 263 ∧ b' = M) → up (up z 242 17 (-1)) 263 M (z 263 12) a b' = z a b' := fun a b' q1 q2 => by unfold up; rw [if_neg q2, if_neg q1]
        obtain ⟨v, v1, v2, v3⟩ := md_measure_b7_ok (L := L) (M := M) (c := c2) (s := up (up z 242 17 (-1)) 263 M (z 263 12)) hM12 hc1.2 (by rw [fv _ _ (by omega) (by omega)]; exact z16) (by rw [fv _ _ (by omega) (by omega)]; exact z63)
        have fu : ∀ a b', ¬ (a = 242 ∧ b' = 16) → up v 242 16 ((M : Int) + 1) a b' = v a b' := fun a b' hh => by unfold up; rw [if_neg hh]
        have fin : ∀ a b', a ≠ 261 → ¬ (a = 242 ∧ (b' = 10 ∨ b' = 11 ∨ b' = 12 ∨ b' = 16 ∨ b' = 17 ∨ b' = 32 ∨ b' = 33)) → ¬ (a = 263 ∧ (b' = 12 ∨ b' = M)) → ¬ (264 ≤ a ∧ a ≤ 267 ∧ 4 * M ≤ b') → ¬ (a = 8 ∧ b' = 7) → up v 242 16 ((M : Int) + 1) a b' = s1 a b' := fun a b' q1 q2 q3 q4 q5 => by rw [fu a b' (by omega), v3 a b' (by omega), fv a b' (by omega) (by omega), z2 a b' q1 (by omega) (by omega) (by omega), f2 a b' q5]
        have fin2 : ∀ a b', a ≠ 261 → ¬ (a = 242 ∧ (b' = 10 ∨ b' = 11 ∨ b' = 12 ∨ b' = 16 ∨ b' = 17 ∨ b' = 32 ∨ b' = 33)) → ¬ (a = 263 ∧ (b' = 12 ∨ b' = M)) → ¬ (264 ≤ a ∧ a ≤ 267 ∧ 4 * M ≤ b') → ¬ (a = 8 ∧ (b' = 7 ∨ b' = 9)) → ¬ (a = 24 ∧ (b' = 0 ∨ b' = 5)) → ¬ (26 ≤ a ∧ a ≤ 28) → ¬ (170 + 6 * M ≤ a ∧ a ≤ 175 + 6 * M) → up v 242 16 ((M : Int) + 1) a b' = s a b' := fun a b' q1 q2 q3 q4 q5 q6 q7 q8 => by rw [fin a b' q1 q2 q3 q4 (by omega), f1 a b' q6 q7 q8 (by omega)]
        have e10 : up v 242 16 ((M : Int) + 1) 242 10 = 0 := by rw [fu _ _ (by omega), v3 _ _ (by omega), fv _ _ (by omega) (by omega)]; exact z4
        have e17 : up v 242 16 ((M : Int) + 1) 242 17 = P := by rw [fu _ _ (by omega), v3 _ _ (by omega), up_k (by decide), up_s, eP]
        have e16 : up v 242 16 ((M : Int) + 1) 242 16 = (M : Int) + 1 := up_s
        have e87 : up v 242 16 ((M : Int) + 1) 8 7 = (M : Int) + 1 := by rw [fu _ _ (by omega), v3 _ _ (by omega), fv _ _ (by omega) (by omega), z2 _ _ (by omega) (by omega) (by omega) (by omega), up_s, h87']
        have e63 : up v 242 16 ((M : Int) + 1) 263 M = (c2 : Int) := by rw [fu _ _ (by omega), v3 _ _ (by omega), up_s, z63]
        have eq : ∀ a b', 170 + 6 * M ≤ a → a ≤ 175 + 6 * M → up v 242 16 ((M : Int) + 1) a b' = x a b' := fun a b' q1 q2 => by rw [fin a b' (by omega) (by omega) (by omega) (by omega) (by omega), fy a b' (by omega) (by omega)]
        have er : ∀ a j, 264 ≤ a → a ≤ 267 → j < c2 → up v 242 16 ((M : Int) + 1) a (4 * M + j) = z a (48 + j) := fun a j q1 q2 q3 => by rw [fu _ _ (by omega), v2 a j q1 q2 q3, fv _ _ (by omega) (by omega)]
        refine ⟨(M : Int), up s1 8 7 (s1 8 7 + 1), (M : Int), up v 242 16 ((M : Int) + 1), ?_, ?_, rfl, ?_, fun k hk => funext (fun j => by rw [f2 _ _ (by omega)]; exact f1 _ _ (by omega) (by omega) (by omega) (by omega)), fun k hk => funext (fun j => fin2 _ _ (by omega) (by omega) (by omega) (by omega) (by omega) (by omega) (by omega) (by omega))⟩
        · rw [eH, if_neg (fun u => zb_w.mp u rfl), show s1 8 7 + 1 - 1 = (M : Int) by omega]
        · rw [z1, if_neg (fun u => zb_w.mp u rfl), zb_1 rfl, md_measure_b3_eq, if_neg wN1, md_measure_b5_eq, if_neg wN1, if_pos (by decide), if_pos (by rw [z16]; omega), show (z 242 16).toNat = M by omega, v1, show (M : Int) + 1 - 1 = (M : Int) by omega]
        · refine h.meas (fun k j q1 q2 q3 q4 q5 q6 => fin2 k j q6 (by omega) (by omega) (by omega) q1 (by omega) (by omega) (by omega)) ⟨?_, by rw [e16]; omega, ?_⟩ ⟨?_, by rw [e10]; decide, fun j hj => by rw [e10] at hj; omega, ?_, ?_⟩
          · rw [e87, e16]
          · intro i hi
            rw [e16] at hi
            by_cases ei : i = M
            · subst ei
              rw [eq _ _ (by omega) (by omega), e63, xc]
              refine ⟨rfl, by omega, fun j hj => ?_⟩
              have hj2 : j < c2 := by omega
              obtain ⟨r1, r2, r3, r4⟩ := zv j hj2
              obtain ⟨t1, t2, t3, t4, t5⟩ := xe j hj2
              obtain ⟨g1, g2, g3, g4, g5, g6, g7, g8⟩ := hc2 j hj2
              unfold me_T
              rw [er 265 j (by decide) (by decide) hj2, er 264 j (by decide) (by decide) hj2, er 266 j (by decide) (by decide) hj2, er 267 j (by decide) (by decide) hj2, eq _ _ (by omega) (by omega), eq _ _ (by omega) (by omega), eq _ _ (by omega) (by omega), eq _ _ (by omega) (by omega), eq _ _ (by omega) (by omega)]
              rw [r1, r2, r3, r4, t1, t2, t3, t4, t5]
              exact ⟨(ev2 j).1, (ev2 j).2.1, (ev2 j).2.2.1, (ev2 j).2.2.2.1, g1, rfl, rfl, rfl, rfl, g2, rfl, g3, g4, g5, rfl, g6, g7, g8⟩
            · exact iv_M.cells (M := M) (s := s) (by omega) (fun k j q1 q2 => fin2 _ _ (by omega) (by omega) (by omega) (by omega) (by omega) (by omega) (by omega) (by omega)) (fun j hj => fin2 _ _ (by omega) (by omega) (by omega) (by omega) (by omega) (by omega) (by omega) (by omega)) (fun k j q1 q2 q3 => fin2 _ _ (by omega) (by omega) (by omega) (by omega) (by omega) (by omega) (by omega) (by omega)) (fun i hi => m3 i (by omega)) i (by omega)
          · rw [fin _ _ (by omega) (by omega) (by omega) (by omega) (by omega), s24, e10]
          · rw [fin _ _ (by omega) (by omega) (by omega) (by omega) (by omega), s89, e17]
          · rw [e17]
            exact ⟨by omega, by omega⟩
  · refine Cal.pure (v := -2) (v2 := -2) ?_ ?_ rfl h
    · rw [hx_measure_eq, eX, ok_bind]
      exact if_pos (zb_w.mpr hA)
    · rw [md_measure_eq, refI s rfl, ok_bind]
      exact if_pos (zb_w.mpr (by omega))
end
