/-! law and belief -/
section
variable {L : Nat} {s : hh_Sv} {a b : Int}
theorem hx_isOnTape_ok (hb : I32 b) (h0 : 0 ≤ s 24 0 ∧ s 24 0 ≤ 600) : hx_isOnTape L b s = ok L (zb (0 ≤ b ∧ b ≤ s 24 0)) s := by
  rw [hx_isOnTape_eq, hb.w, w32_id (i := s 24 0) (by omega) (by omega)]
  by_cases e1 : b < 0
  · rw [if_pos e1, hx_isOnTape_b1_eq, zb_0 (by omega)]
  · rw [if_neg e1]
    by_cases e2 : s 24 0 < b
    · rw [if_pos e2, hx_isOnTape_b1_eq, zb_0 (by omega)]
    · rw [if_neg e2, zb_1 (by omega)]
theorem c_law (ha : I32 a) (hb : I32 b) (h : Inv s) (h3 : s 3 1 = 0) : Cal L s (hx_law L a b) (md_law L a b) w32 := by
  have iC := h.1.2.1
  have iL := h.1.2.2.2.1
  obtain ⟨b1, b2, b3, b4, b5⟩ := h.1.2.2.2.2.2
  have hC : s 9 0 = s 242 2 := iC.1
  have hT : 0 ≤ s 242 2 ∧ s 242 2 ≤ 12 := iC.2.2.2.1
  have eX := hx_isOnTape_ok (L := L) (s := s) hb (by omega)
  have eT := co_hasThrower_ok (L := L) (s := s) ha (by omega)
  have refT : ∀ s1 : hh_Sv, s1 242 2 = s 242 2 → md_isThrower L a s1 = ok L (zb (0 ≤ a ∧ a < s 242 2)) s1 := fun s1 e => by rw [← e]; exact md_isThrower_ok ha (by omega)
  have refI : ∀ s1 : hh_Sv, s1 242 10 = s 242 10 → md_isIn L b 0 (s1 242 10) s1 = ok L (zb (0 ≤ b ∧ b ≤ s 242 10)) s1 := fun s1 e => by rw [e]; exact md_isIn_ok hb ⟨by decide, by decide⟩ ⟨by omega, by omega⟩
  by_cases hA : 0 ≤ b ∧ b ≤ s 24 0
  · by_cases hB : 0 ≤ a ∧ a < s 9 0
    · obtain ⟨n, hn⟩ : ∃ n : Nat, b = (n : Int) := ⟨b.toNat, by omega⟩
      obtain ⟨t, ht⟩ : ∃ t : Nat, a = (t : Int) := ⟨a.toNat, by omega⟩
      subst hn; subst ht
      obtain ⟨bb, i2, rs2, y, P, hP, hK, fy, y24, y89, yc, hR, hg⟩ := txt_core (L := L) (n := n) (l2 := 1) h h3 hA.2 (Or.inr rfl)
      have hq : ru_cell (s 8 5).toNat := iL.2.2.2.1 16 (by decide)
      have gq := hq.ge
      have kq := ru_kd (L := L) hq
      have t12 : t < 12 := by omega
      have hold : ru_cell (s 16 t).toNat := by have := iL.2.2.2.1 t (by omega); unfold ru_q at this; rw [if_pos t12] at this; exact this
      have gold := hold.ge
      have nold := iL.1 t t12
      have nsp := iL.2.2.1
      have y85 : y 8 5 = s 8 5 := fy _ _ (by omega) (by omega) (by omega) (by omega)
      have y16 : ∀ j, y 16 j = s 16 j := fun j => fy _ _ (by omega) (by omega) (by omega) (by omega)
      have y17 : ∀ j, y 17 j = s 17 j := fun j => fy _ _ (by omega) (by omega) (by omega) (by omega)
      have ref : ∀ s1 : hh_Sv, s1 242 2 = s 242 2 → s1 242 10 = s 242 10 → md_law L (t : Int) (n : Int) s1 = (md_reads L (n : Int) 1 s1).bind (fun r3 => if w32 r3.1 = 0 then ok L (-1) r3.2.2 else (md_keeps L (t : Int) r3.2.2).bind (fun r4 => ok L (r4.2.2 242 15) r4.2.2)) := fun s1 e1 e2 => by
        rw [md_law_eq, refT s1 e1, ok_bind]
        dsimp only
        rw [if_neg (fun z => zb_w.mp z (by omega)), refI s1 e2, ok_bind]
        dsimp only
        rw [if_neg (fun z => zb_w.mp z (by omega))]
      cases bb
      · obtain ⟨z, z1, z2, z3, z4, z5⟩ := hR y (fun j hj => fy _ _ (by omega) (by omega) (by omega) (by omega))
        refine ⟨-1, y, -1, z, ?_, ?_, rfl, txt_bad h hP fy y24 y89 z2 z3 z4, fun k hk => funext (fun j => fy _ _ (by omega) (by omega) (by omega) (by omega)), fun k hk => funext (fun j => (z2 _ _ (by omega) (by omega) (by omega) (by omega) (by omega)).trans (fy _ _ (by omega) (by omega) (by omega) (by omega)))⟩
        · rw [hx_law_eq, eX, ok_bind]
          dsimp only
          rw [if_neg (fun z => zb_w.mp z hA), eT, ok_bind]
          dsimp only
          rw [if_neg (fun z => zb_w.mp z hB)]
          refine Eq.trans (hK _) ?_
          exact if_pos (zb_w.mpr (show ¬ (false = true) by decide))
        · rw [ref y (fy _ _ (by omega) (by omega) (by omega) (by omega)) (fy _ _ (by omega) (by omega) (by omega) (by omega)), z1, ok_bind]
          exact if_pos (zb_w.mpr (show ¬ (false = true) by decide))
      · obtain ⟨g1, g2, g3⟩ := hg rfl
        obtain ⟨c1, c2, c3⟩ := yc rfl
        have fs1 : ∀ a b', ¬ (a = 16 ∧ b' = t) → ¬ (a = 8 ∧ b' = 5) → up (up y 16 t (((y 8 5).toNat : Nat) : Int)) 8 5 (((y 16 t).toNat : Nat) : Int) a b' = y a b' := fun a b' h1 h2 => by
          unfold up
          rw [if_neg h2, if_neg h1]
        have e16 : up (up y 16 t (((y 8 5).toNat : Nat) : Int)) 8 5 (((y 16 t).toNat : Nat) : Int) 16 t = (((s 8 5).toNat : Nat) : Int) := by rw [up_k (by decide), up_s, y85]
        have e85 : up (up y 16 t (((y 8 5).toNat : Nat) : Int)) 8 5 (((y 16 t).toNat : Nat) : Int) 8 5 = (((s 16 t).toNat : Nat) : Int) := by rw [up_s, y16]
        generalize hS : up (up y 16 t (((y 8 5).toNat : Nat) : Int)) 8 5 (((y 16 t).toNat : Nat) : Int) = s1 at fs1 e16 e85
        have f1 : ∀ a b', ¬ (a = 24 ∧ (b' = 0 ∨ b' = 5)) → ¬ (26 ≤ a ∧ a ≤ 28) → ¬ ((s 8 5).toNat ≤ a ∧ a ≤ (s 8 5).toNat + 4) → ¬ (a = 8 ∧ (b' = 5 ∨ b' = 9)) → a ≠ 16 → a ≠ 17 → s1 a b' = s a b' := fun a b' h1 h2 h4 h5 h6 h7 => by rw [fs1 a b' (by omega) (by omega), fy a b' h1 h2 h4 (by omega)]
        have fq : ∀ a b', (s 8 5).toNat ≤ a → a ≤ (s 8 5).toNat + 4 → s1 a b' = y a b' := fun a b' h1 h2 => fs1 a b' (by omega) (by omega)
        obtain ⟨z, z1, z2, z3, z4, z5⟩ := hR s1 (fun j hj => f1 _ _ (by omega) (by omega) (by omega) (by omega) (by omega) (by omega))
        have zr := z5 rfl
        have hf := ru_f_at rs2 (fun r hr => (g2 r hr).1)
        obtain ⟨u, u1, u2, u3, u4, u5, u6⟩ := md_keeps_ok (L := L) (t := t) (s := z) (fs := ru_f rs2) (by omega) zr.2.1 (Nat.le_trans ru_f_len g1) (by rw [hf]; exact g3) (by rw [hf]; exact zr.2.2.1)
        have n16 : ∀ j, j < 12 → 0 ≤ s1 16 j := fun j hj => by
          by_cases e : j = t
          · rw [e, e16]; omega
          · rw [fs1 _ _ (by omega) (by omega), y16]; exact iL.1 j hj
        have n17 : ∀ j, j < 4 → 0 ≤ s1 17 j := fun j hj => by rw [fs1 _ _ (by omega) (by omega), y17]; exact iL.2.1 j hj
        have hqt : ru_q s1 t = ru_q s 16 := by
          show (if t < 12 then s1 16 t else _).toNat = (s 8 5).toNat
          rw [if_pos t12, e16, Int.toNat_natCast]
        have hq16 : ru_q s1 16 = ru_q s t := by
          show (s1 8 5).toNat = (if t < 12 then s 16 t else _).toNat
          rw [if_pos t12, e85, Int.toNat_natCast]
        have hqo : ∀ x, x < 16 → x ≠ t → ru_q s1 x = ru_q s x := fun x hx hxt => by
          unfold ru_q
          by_cases e : x < 12
          · rw [if_pos e, if_pos e, fs1 _ _ (by omega) (by omega), y16]
          · rw [if_neg e, if_neg e, if_pos hx, if_pos hx, fs1 _ _ (by omega) (by omega), y17]
        have inv := txt_inv (t := t) (u := u) (z := z) (s1 := s1) (by omega) h hP f1 (by rw [fs1 _ _ (by omega) (by omega)]; exact y24) (by rw [fs1 _ _ (by omega) (by omega)]; exact y89) n16 n17 (by rw [e85]; omega) hqt hq16 hqo ⟨c1.eqv (fun a j ha => fq _ _ (by omega) (by omega)), by rw [fq _ _ (by omega) (by omega)]; exact c2, by rw [fq _ _ (by omega) (by omega)]; exact c3⟩ z2 z3 z4 zr g1 (fun r hr => ⟨(g2 r hr).1, fun h12 => absurd h12 (by omega)⟩) g3 u2 u3 u4 u5 u6
        have lowS : ∀ k, k < 8 → s1 k = s k := fun k hk => funext (fun j => f1 _ _ (by omega) (by omega) (by omega) (by omega) (by omega) (by omega))
        refine ⟨(rs2.length : Nat), s1, (rs2.length : Nat), u, ?_, ?_, rfl, inv, lowS, fun k hk => ?_⟩
        · rw [hx_law_eq, eX, ok_bind]
          dsimp only
          rw [if_neg (fun z => zb_w.mp z hA), eT, ok_bind]
          dsimp only
          rw [if_neg (fun z => zb_w.mp z hB)]
          refine Eq.trans (hK _) ?_
          dsimp only
          have e85' : (y 8 5).toNat = (s 8 5).toNat := by rw [y85]
          have hin : (0 : Int) ≤ (t : Int) ∧ (t : Int) < 12 := by omega
          rw [if_neg (fun z => zb_w.mp z rfl), if_pos hin, if_pos (by rw [e85']; exact kq), if_pos (by rw [e85']; omega), if_pos hin, Int.toNat_natCast, if_pos (by rw [y16]; omega), if_pos hin, if_pos (by rw [up_s, Int.toNat_natCast, e85']; exact kq), hS, up_s, Int.toNat_natCast, e85', fq _ _ (by omega) (by omega), c1.1]
        · rw [ref s1 (f1 _ _ (by omega) (by omega) (by omega) (by omega) (by omega) (by omega)) (f1 _ _ (by omega) (by omega) (by omega) (by omega) (by omega) (by omega)), z1, ok_bind]
          dsimp only
          rw [if_neg (fun z => zb_w.mp z rfl), u1, ok_bind]
          dsimp only
          rw [u6 _ _ (by omega) (by omega) (by omega), zr.2.2.2.1]
        · rw [← lowS k hk]
          funext j
          rw [u6 _ _ (by omega) (by omega) (by omega), z2 _ _ (by omega) (by omega) (by omega) (by omega) (by omega)]
    · refine Cal.pure (v := -2) (v2 := -2) ?_ ?_ rfl h
      · rw [hx_law_eq, eX, ok_bind]
        dsimp only
        rw [if_neg (fun z => zb_w.mp z hA), eT, ok_bind]
        exact if_pos (zb_w.mpr hB)
      · rw [md_law_eq, refT s rfl, ok_bind]
        exact if_pos (zb_w.mpr (by omega))
  · refine Cal.pure (v := -2) (v2 := -2) ?_ ?_ rfl h
    · rw [hx_law_eq, eX, ok_bind]
      exact if_pos (zb_w.mpr hA)
    · rw [md_law_eq, refT s rfl, ok_bind]
      dsimp only
      by_cases hB : 0 ≤ a ∧ a < s 242 2
      · rw [if_neg (fun z => zb_w.mp z hB), refI s rfl, ok_bind]
        exact if_pos (zb_w.mpr (by omega))
      · rw [if_pos (zb_w.mpr hB)]
end
