/-! texts: what holds behind a text -/
section
variable {L q : Nat} {T : Nat → Int} {n m i i2 : Nat} {s u s1 z : hh_Sv} {rs fs rs2 : List Ru} {l2 : Int}
theorem ru_dis {p a : Nat} (hp : ru_cell p) (hq : ru_cell q) (h : p ≠ q) (ha : a ≤ 4) : ¬ (q ≤ p + a ∧ p + a ≤ q + 4) := by
  rcases hp with hp | ⟨i, h1, hp⟩ <;> rcases hq with hq | ⟨j, h2, hq⟩ <;> omega
theorem ru_S.e2 {t : Nat} (ht : t < 16) (hq : ru_q u t = ru_q s t) (hs : ∀ a j, a ≤ 4 → u (ru_q s t + a) j = s (ru_q s t + a) j) (h1 : ∀ k, 248 ≤ k → k ≤ 251 → u k t = s k t) (h2 : ∀ k j, 252 ≤ k → k ≤ 255 → 24 * t ≤ j → j < 24 * t + 24 → u k j = s k j) (h3 : ∀ k j, 256 ≤ k → k ≤ 258 → 300 * t ≤ j → j < 300 * t + 300 → u k j = s k j) (h : ru_S s t rs) : ru_S u t rs := by
  obtain ⟨a1, a2, a3, a4, a5, a6, a7, a8, a9, a10⟩ := h
  have e := fun j => hs 0 j (by decide)
  rw [Nat.add_zero] at e
  have hl : (ru_f rs).length ≤ 24 := Nat.le_trans (List.length_filter_le _ _) a1
  have ha : ru_at (ru_f rs) (ru_f rs).length ≤ 300 := by rw [ru_f_at rs (fun r hr => (a2 r hr).1)]; exact a3
  refine ⟨a1, a2, a3, by rw [hq]; exact a4.eqv hs, ⟨(h1 _ (by decide) (by decide)).trans a5.1, fun i r hr => ?_⟩, (h1 _ (by decide) (by decide)).trans a6, ?_, (h1 _ (by decide) (by decide)).trans a8, ?_, (h1 _ (by decide) (by decide)).trans a10⟩
  · obtain ⟨b1, b2, b3, b4, b5⟩ := a5.2 i r hr
    have hi := (List.getElem?_eq_some_iff.mp hr).1
    refine ⟨(h2 _ _ (by decide) (by decide) (by omega) (by omega)).trans b1, (h2 _ _ (by decide) (by decide) (by omega) (by omega)).trans b2, (h2 _ _ (by decide) (by decide) (by omega) (by omega)).trans b3, (h2 _ _ (by decide) (by decide) (by omega) (by omega)).trans b4, fun j c hc => ?_⟩
    have := ru_at_in hr hc
    obtain ⟨c1, c2, c3⟩ := b5 j c hc
    exact ⟨(h3 _ _ (by decide) (by decide) (by omega) (by omega)).trans c1, (h3 _ _ (by decide) (by decide) (by omega) (by omega)).trans c2, (h3 _ _ (by decide) (by decide) (by omega) (by omega)).trans c3⟩
  · rw [hq]; exact (e 1).trans a7
  · rw [hq]; exact (e 2).trans a9
theorem iv_L.keep (h : iv_L s) (h8 : u 8 5 = s 8 5) (h16 : ∀ j, u 16 j = s 16 j) (h17 : ∀ j, u 17 j = s 17 j) (hs : ∀ k j, ¬ (ru_q s 16 ≤ k ∧ k ≤ ru_q s 16 + 4) → (18 ≤ k ∧ k ≤ 22) ∨ (90 ≤ k ∧ k ≤ 169) → u k j = s k j) (h1 : ∀ k n, 248 ≤ k → k ≤ 251 → n < 16 → u k n = s k n) (h2 : ∀ k j, 252 ≤ k → k ≤ 255 → j < 384 → u k j = s k j) (h3 : ∀ k j, 256 ≤ k → k ≤ 258 → j < 4800 → u k j = s k j) : iv_L u := by
  obtain ⟨a1, a2, a3, a4, a5, a6⟩ := h
  have hq : ∀ n, ru_q u n = ru_q s n := fun n => by
    unfold ru_q
    rw [h8, h16, h17]
  refine ⟨fun n hn => by rw [h16]; exact a1 n hn, fun n hn => by rw [h17]; exact a2 n hn, by rw [h8]; exact a3, fun n hn => by rw [hq]; exact a4 n hn, fun n m hn hm e => a5 n m hn hm (by rw [← hq, ← hq]; exact e), fun n hn => ?_⟩
  obtain ⟨rs, hr⟩ := a6 n hn
  have hc := a4 n (by omega)
  have hg := hc.ge
  have hd : ru_q s n ≠ ru_q s 16 := fun e => by have := a5 n 16 (by omega) (by omega) e; omega
  exact ⟨rs, hr.eqv hn (hq n) (fun a j ha => hs _ _ (ru_dis hc (a4 16 (by decide)) hd ha) (by omega)) (fun k q1 q2 => h1 k n q1 q2 hn) h2 h3⟩
theorem iv_L.new {t : Nat} (ht : t < 16) (h : iv_L s) (n16 : ∀ j, j < 12 → 0 ≤ u 16 j) (n17 : ∀ j, j < 4 → 0 ≤ u 17 j) (n8 : 0 ≤ u 8 5) (hqt : ru_q u t = ru_q s 16) (hq16 : ru_q u 16 = ru_q s t) (hqo : ∀ x, x < 16 → x ≠ t → ru_q u x = ru_q s x) (hs : ∀ k j, ¬ (ru_q s 16 ≤ k ∧ k ≤ ru_q s 16 + 4) → (18 ≤ k ∧ k ≤ 22) ∨ (90 ≤ k ∧ k ≤ 169) → u k j = s k j) (h1 : ∀ k n, 248 ≤ k → k ≤ 251 → n < 16 → n ≠ t → u k n = s k n) (h2 : ∀ k j, 252 ≤ k → k ≤ 255 → j < 384 → ¬ (24 * t ≤ j ∧ j < 24 * t + 24) → u k j = s k j) (h3 : ∀ k j, 256 ≤ k → k ≤ 258 → j < 4800 → ¬ (300 * t ≤ j ∧ j < 300 * t + 300) → u k j = s k j) (hnew : ∃ rs, ru_S u t rs) : iv_L u := by
  obtain ⟨a1, a2, a3, a4, a5, a6⟩ := h
  have hp : ∀ x, x < 17 → ∃ x', x' < 17 ∧ ru_q u x = ru_q s x' ∧ x' = (if x = t then 16 else if x = 16 then t else x) := fun x hx => by
    by_cases e : x = t
    · exact ⟨16, by decide, by rw [e]; exact hqt, by rw [if_pos e]⟩
    · by_cases e2 : x = 16
      · exact ⟨t, by omega, by rw [e2]; exact hq16, by rw [if_neg e, if_pos e2]⟩
      · exact ⟨x, hx, hqo x (by omega) e, by rw [if_neg e, if_neg e2]⟩
  refine ⟨n16, n17, n8, fun x hx => ?_, fun x y hx hy e => ?_, fun x hx => ?_⟩
  · obtain ⟨x', h1, h2, h3⟩ := hp x hx
    rw [h2]
    exact a4 x' h1
  · obtain ⟨x', p1, p2, p3⟩ := hp x hx
    obtain ⟨y', r1, r2, r3⟩ := hp y hy
    have := a5 x' y' p1 r1 (by rw [← p2, ← r2]; exact e)
    rw [p3, r3] at this
    split at this <;> split at this <;> (try split at this) <;> (try split at this) <;> omega
  · by_cases e : x = t
    · rw [e]
      exact hnew
    · obtain ⟨rs, hr⟩ := a6 x hx
      have hc := a4 x (by omega)
      have hg := hc.ge
      have hd : ru_q s x ≠ ru_q s 16 := fun e => by have := a5 x 16 (by omega) (by omega) e; omega
      exact ⟨rs, hr.e2 hx (hqo x hx e) (fun a j ha => hs _ _ (ru_dis hc (a4 16 (by decide)) hd ha) (by omega)) (fun k q1 q2 => h1 k x q1 q2 hx e) (fun k j q1 q2 q3 q4 => h2 k j q1 q2 (by omega) (by omega)) (fun k j q1 q2 q3 q4 => h3 k j q1 q2 (by omega) (by omega))⟩
theorem Inv.text (h : Inv s) (g : ∀ k j, ¬ (k = 8 ∧ (j = 5 ∨ j = 9)) → k ≠ 16 → k ≠ 17 → ¬ (18 ≤ k ∧ k ≤ 22) → ¬ (24 ≤ k ∧ k ≤ 28) → ¬ (90 ≤ k ∧ k ≤ 169) → ¬ (k = 242 ∧ (j = 10 ∨ j = 11 ∨ j = 12 ∨ j = 13 ∨ j = 14 ∨ j = 15 ∨ j = 17 ∨ j = 32 ∨ j = 33)) → ¬ (248 ≤ k ∧ k ≤ 258) → k ≠ 261 → u k j = s k j) (hL : iv_L u) (hB : iv_B u) : Inv u := by
  obtain ⟨⟨a1, a2, a3, a4, a5, a6⟩, a7⟩ := h
  have G : ∀ k j, ((k < 8) ∨ (k = 8 ∧ (j = 2 ∨ j = 7)) ∨ (9 ≤ k ∧ k ≤ 15) ∨ (72 ≤ k ∧ k ≤ 89) ∨ (170 ≤ k ∧ k ≤ 241) ∨ (k = 242 ∧ (j = 2 ∨ j = 3 ∨ j = 4 ∨ j = 16 ∨ j = 50 ∨ j = 70)) ∨ (243 ≤ k ∧ k ≤ 247) ∨ (262 ≤ k)) → u k j = s k j := fun k j hk => g k j (by omega) (by omega) (by omega) (by omega) (by omega) (by omega) (by omega) (by omega) (by omega)
  refine ⟨⟨⟨fun j hj => (G _ _ (by omega)).trans (a1.1 j hj), fun j hj => (G _ _ (by omega)).trans (a1.2 j hj)⟩, a2.eqv (fun k j _ _ => G _ _ (by omega)) ⟨G _ _ (by omega), G _ _ (by omega), G _ _ (by omega)⟩ (fun k j _ _ => G _ _ (by omega)), a3.eqv (G _ _ (by omega)) (G _ _ (by omega)) (fun k j _ _ => G _ _ (by omega)) (fun j => G _ _ (by omega)) (fun j => G _ _ (by omega)), hL, a5.eqv (G _ _ (by omega)) (G _ _ (by omega)) (fun k j _ _ => G _ _ (by omega)) (fun j _ => G _ _ (by omega)) (fun k j _ _ _ => G _ _ (by omega)), hB⟩, a7.same (G _ _ (by omega)) (fun j => G _ _ (by omega))⟩
theorem closeT {b : Bool} {y : hh_Sv} (hc : CR y T n m i2) : hx_closeText L (zb (b = true)) y = ok L (zb (b = true)) (up (up y 8 9 (if b = true then -1 else ((tP T n i2 : Nat) : Int))) 24 0 0) := by
  obtain ⟨c1, c2, c3, c4, c5, c6, c7, c8⟩ := hc
  obtain ⟨t1, t2, t3⟩ := c4 i2 c7
  rw [hx_closeText_eq]
  cases b
  · rw [if_pos (zb_w.mpr (by decide)), re_placeNow_eq, if_pos (by omega), ok_bind]
    dsimp only
    rw [hx_closeText_b2_eq, if_pos zb_01, show (y 24 5).toNat = i2 by omega, t3]
    rfl
  · rw [if_neg (fun z => zb_w.mp z rfl), hx_closeText_b2_eq, if_pos zb_01]
    rfl
theorem txt_core (h : Inv s) (h3 : s 3 1 = 0) (hn : (n : Int) ≤ s 24 0) (hl : l2 = 0 ∨ l2 = 1) : ∃ (b : Bool) (i2 : Nat) (rs2 : List Ru) (y : hh_Sv) (P : Int), (P = -1 ∨ (0 ≤ P ∧ P ≤ 600)) ∧ (∀ K : hh_Rs → Option hh_Rs, (re_readRules L (n : Int) l2 (s 8 5).toNat s).bind (fun r3 => (hx_closeText L r3.1 r3.2.2).bind K) = K (zb (b = true), (SHc L, y))) ∧ (∀ a b', ¬ (a = 24 ∧ (b' = 0 ∨ b' = 5)) → ¬ (26 ≤ a ∧ a ≤ 28) → ¬ ((s 8 5).toNat ≤ a ∧ a ≤ (s 8 5).toNat + 4) → ¬ (a = 8 ∧ b' = 9) → y a b' = s a b') ∧ y 24 0 = 0 ∧ y 8 9 = P ∧ (b = true → ru_C y (s 8 5).toNat rs2 ∧ y (s 8 5).toNat 1 = (ru_l 6 rs2 : Nat) ∧ y (s 8 5).toNat 2 = (ru_l 7 rs2 : Nat)) ∧ (∀ u, (∀ j, j < n → u 260 j = s 260 j) → ∃ z, md_reads L (n : Int) l2 u = ok L (zb (b = true)) z ∧ FL u z ∧ z 242 10 = 0 ∧ z 242 17 = P ∧ (b = true → RGt z (s 260) n i2 rs2 rs2.length)) ∧ (b = true → rs2.length ≤ 24 ∧ (∀ r ∈ rs2, ru_ok r ∧ (l2 = 0 → r.1 ≤ 5)) ∧ ru_at rs2 rs2.length ≤ 300) := by
  obtain ⟨⟨iK, iC, iI, iL, iM, iB⟩, iH⟩ := h
  obtain ⟨b1, b2, b3, b4, b5⟩ := iB
  have hq : ru_cell (s 8 5).toNat := iL.2.2.2.1 16 (by decide)
  have g := hq.ge
  have kq := ru_kd (L := L) hq
  generalize hqq : (s 8 5).toNat = q at hq g kq
  have hn6 : n ≤ 600 := by omega
  have hT : ∀ j, j < n → s 25 j = s 260 j ∧ -128 ≤ s 260 j ∧ s 260 j < 128 := fun j hj => b3 j (by omega)
  have f0 : ∀ a b, ¬ (a = q ∧ b ≤ 3) → up (up (up (up s q 0 0) q 1 0) q 2 0) q 3 0 a b = s a b := fun a b hh => by
    unfold up
    rw [if_neg (by omega), if_neg (by omega), if_neg (by omega), if_neg (by omega)]
  have hTc : Tc (up (up (up (up s q 0 0) q 1 0) q 2 0) q 3 0) (s 260) n := ⟨hn6, fun j hj => ⟨by rw [f0 _ _ (by omega)]; exact (hT j hj).1, (hT j hj).2⟩, by rw [f0 _ _ (by omega)]; exact h3, fun j hj => by rw [f0 _ _ (by omega)]; exact iK.2 j hj⟩
  obtain ⟨y, m, y1, y2, y3, y4, y5, y6, y7⟩ := re_open_ok (L := L) hTc
  have hk : TK (s 260) n m := ⟨hn6, y4, y5, y7, fun j hj => (hT j hj).2⟩
  have hcr : CR y (s 260) n m 0 := ⟨hn6, y4, y5, y6, y7, y3, Nat.zero_le _, fun j hj => (hT j hj).2⟩
  have hcs : CRs y q (s 260) n m 0 [] := by
    refine ⟨hcr, ⟨?_, fun i r hi => ?_⟩, ?_, ?_, ?_⟩
    · rw [y2 _ _ (by omega) (by omega) (by omega) (by omega), up_j (by decide), up_j (by decide), up_j (by decide), up_s]; rfl
    · rw [List.getElem?_nil] at hi
      cases hi
    · rw [y2 _ _ (by omega) (by omega) (by omega) (by omega), up_j (by decide), up_j (by decide), up_s]; rfl
    · rw [y2 _ _ (by omega) (by omega) (by omega) (by omega), up_j (by decide), up_s]; rfl
    · rw [y2 _ _ (by omega) (by omega) (by omega) (by omega), up_s]; rfl
  have hr : Rds L q (s 260) n m 0 [] l2 := by
    rcases hl with hl | hl <;> subst hl
    · exact rds_bel hq hk
    · exact rds_law hq hk
  obtain ⟨b, i2, rs2, o1, o2, o3, o4⟩ := hr
  obtain ⟨x, x1, x2, x3, x4⟩ := o2 y hcs
  have hi2 := hk.qq o1
  have fx : ∀ a b', ¬ (a = 24 ∧ b' = 5) → ¬ (26 ≤ a ∧ a ≤ 28) → ¬ (q ≤ a ∧ a ≤ q + 4) → x a b' = s a b' := fun a b' h1 h2 h4 => by rw [x2 a b' h1 h4, y2 a b' (by omega) (by omega) (by omega) h1, f0 a b' (by omega)]
  have fy : ∀ a b', ¬ (a = 24 ∧ b' = 0) → ¬ (a = 8 ∧ b' = 9) → up (up x 8 9 (if b = true then -1 else ((tP (s 260) n i2 : Nat) : Int))) 24 0 0 a b' = x a b' := fun a b' h1 h2 => by
    unfold up
    rw [if_neg h1, if_neg h2]
  refine ⟨b, i2, rs2, up (up x 8 9 (if b = true then -1 else ((tP (s 260) n i2 : Nat) : Int))) 24 0 0, (if b = true then -1 else ((tP (s 260) n i2 : Nat) : Int)), ?_, fun K => ?_, fun a b' h1 h2 h4 h5 => ?_, up_s, ?_, fun hb => ?_, fun u hu => ?_, o4⟩
  · cases b
    · rw [if_neg (by decide)]; omega
    · rw [if_pos rfl]; omega
  · rw [re_readRules_eq, if_pos kq, ru_clear_eq, if_pos kq, if_pos (by omega), if_pos kq, if_pos (by omega), if_pos kq, if_pos (by omega), if_pos kq, if_pos (by omega), ok_bind]
    dsimp only
    rw [y1, ok_bind]
    dsimp only
    rw [show re_readRules_b1 L l2 q 0 y = ok L (zb (b = true)) x from x1, ok_bind]
    dsimp only
    rw [closeT x3, ok_bind]
  · rw [fy a b' (by omega) h5, fx a b' (by omega) h2 h4]
  · rw [up_k (by decide), up_s]
  · obtain ⟨z1, z2, z3, z4, z5⟩ := x4 hb
    have ez : ∀ a b', q ≤ a → a ≤ q + 4 → up (up x 8 9 (if b = true then -1 else ((tP (s 260) n i2 : Nat) : Int))) 24 0 0 a b' = x a b' := fun a b' h1 h2 => fy a b' (by omega) (by omega)
    exact ⟨z2.eqv (fun a j ha => ez _ _ (by omega) (by omega)), by rw [ez _ _ (by omega) (by omega)]; exact z3, by rw [ez _ _ (by omega) (by omega)]; exact z4⟩
  · exact md_reads_ok (T := s 260) hn6 (fun j hj => ⟨hu j hj, (hT j hj).2⟩) o3
theorem txt_inv {t i2 : Nat} {P : Int} (ht : t < 16) (h : Inv s) (hP : P = -1 ∨ (0 ≤ P ∧ P ≤ 600)) (f1 : ∀ a b', ¬ (a = 24 ∧ (b' = 0 ∨ b' = 5)) → ¬ (26 ≤ a ∧ a ≤ 28) → ¬ ((s 8 5).toNat ≤ a ∧ a ≤ (s 8 5).toNat + 4) → ¬ (a = 8 ∧ (b' = 5 ∨ b' = 9)) → a ≠ 16 → a ≠ 17 → s1 a b' = s a b') (e24 : s1 24 0 = 0) (e89 : s1 8 9 = P) (n16 : ∀ j, j < 12 → 0 ≤ s1 16 j) (n17 : ∀ j, j < 4 → 0 ≤ s1 17 j) (n8 : 0 ≤ s1 8 5) (hqt : ru_q s1 t = ru_q s 16) (hq16 : ru_q s1 16 = ru_q s t) (hqo : ∀ x, x < 16 → x ≠ t → ru_q s1 x = ru_q s x) (hc : ru_C s1 (s 8 5).toNat rs2 ∧ s1 (s 8 5).toNat 1 = (ru_l 6 rs2 : Nat) ∧ s1 (s 8 5).toNat 2 = (ru_l 7 rs2 : Nat)) (fz : FL s1 z) (z10 : z 242 10 = 0) (z17 : z 242 17 = P) (zr : RGt z T n i2 rs2 rs2.length) (hg1 : rs2.length ≤ 24) (hg2 : ∀ r ∈ rs2, ru_ok r ∧ (12 ≤ t → r.1 ≤ 5)) (hg3 : ru_at rs2 rs2.length ≤ 300) (hm : ru_M u t (ru_f rs2)) (u9 : u 249 t = z 242 15) (u0 : u 250 t = z 250 16) (u1 : u 251 t = z 251 16) (fu : ∀ a b, ¬ (248 ≤ a ∧ a ≤ 251 ∧ b = t) → ¬ (252 ≤ a ∧ a ≤ 255 ∧ 24 * t ≤ b ∧ b < 24 * t + 24) → ¬ (256 ≤ a ∧ a ≤ 258 ∧ 300 * t ≤ b ∧ b < 300 * t + 300) → u a b = z a b) : Inv u := by
  have iL := h.1.2.2.2.1
  have hq : ru_cell (s 8 5).toNat := iL.2.2.2.1 16 (by decide)
  have eq16 : ru_q s 16 = (s 8 5).toNat := rfl
  have g := hq.ge
  generalize hqq : (s 8 5).toNat = q at hq g f1 hc eq16
  have lo : ∀ a b', a < 242 → u a b' = s1 a b' := fun a b' ha => by rw [fu a b' (by omega) (by omega) (by omega), fz a b' (by omega) (by omega) (by omega) (by omega) (by omega)]
  have hqu : ∀ x, ru_q u x = ru_q s1 x := fun x => by
    unfold ru_q
    rw [lo _ _ (by decide), lo _ _ (by decide), lo _ _ (by decide)]
  refine h.text (fun k j x1 x2 x3 x4 x5 x6 x7 x8 x9 => ?_) ?_ ?_
  · by_cases hk : k < 242
    · rw [lo k j hk, f1 k j (by omega) (by omega) (by omega) x1 x2 x3]
    · rw [fu k j (by omega) (by omega) (by omega), fz k j x9 x7 (by omega) (by omega) (by omega), f1 k j (by omega) (by omega) (by omega) (by omega) (by omega) (by omega)]
  · refine iv_L.new ht iL (fun j hj => by rw [lo _ _ (by decide)]; exact n16 j hj) (fun j hj => by rw [lo _ _ (by decide)]; exact n17 j hj) (by rw [lo _ _ (by decide)]; exact n8) ((hqu t).trans hqt) ((hqu 16).trans hq16) (fun x hx e => (hqu x).trans (hqo x hx e)) (fun k j h1 h2 => ?_) (fun k n h1 h2 h4 h5 => ?_) (fun k j h1 h2 h4 h5 => ?_) (fun k j h1 h2 h4 h5 => ?_) ⟨rs2, hg1, hg2, hg3, ?_, hm, ?_, ?_, ?_, ?_, ?_⟩
    · rw [eq16] at h1
      rw [lo k j (by omega), f1 k j (by omega) (by omega) h1 (by omega) (by omega) (by omega)]
    · rw [fu k n (by omega) (by omega) (by omega), fz k n (by omega) (by omega) (by omega) (by omega) (by omega), f1 k n (by omega) (by omega) (by omega) (by omega) (by omega) (by omega)]
    · rw [fu k j (by omega) (by omega) (by omega), fz k j (by omega) (by omega) (by omega) (by omega) (by omega), f1 k j (by omega) (by omega) (by omega) (by omega) (by omega) (by omega)]
    · rw [fu k j (by omega) (by omega) (by omega), fz k j (by omega) (by omega) (by omega) (by omega) (by omega), f1 k j (by omega) (by omega) (by omega) (by omega) (by omega) (by omega)]
    · rw [hqu, hqt, eq16]
      exact hc.1.eqv (fun a j ha => lo _ _ (by omega))
    · rw [u9]
      exact zr.2.2.2.1
    · rw [hqu, hqt, eq16, lo _ _ (by omega)]
      exact hc.2.1
    · rw [u0]
      exact zr.2.2.2.2.1
    · rw [hqu, hqt, eq16, lo _ _ (by omega)]
      exact hc.2.2
    · rw [u1]
      exact zr.2.2.2.2.2
  · have e10 : u 242 10 = 0 := by rw [fu _ _ (by omega) (by omega) (by omega)]; exact z10
    have e17 : u 242 17 = P := by rw [fu _ _ (by omega) (by omega) (by omega)]; exact z17
    refine ⟨by rw [lo _ _ (by decide), e24, e10], by rw [e10]; decide, fun j hj => by rw [e10] at hj; omega, by rw [lo _ _ (by decide), e89, e17], ?_⟩
    rw [e17]
    exact ⟨by omega, by omega⟩
theorem txt_bad {P : Int} (h : Inv s) (hP : P = -1 ∨ (0 ≤ P ∧ P ≤ 600)) (f1 : ∀ a b', ¬ (a = 24 ∧ (b' = 0 ∨ b' = 5)) → ¬ (26 ≤ a ∧ a ≤ 28) → ¬ ((s 8 5).toNat ≤ a ∧ a ≤ (s 8 5).toNat + 4) → ¬ (a = 8 ∧ b' = 9) → s1 a b' = s a b') (e24 : s1 24 0 = 0) (e89 : s1 8 9 = P) (fz : FL s1 z) (z10 : z 242 10 = 0) (z17 : z 242 17 = P) : Inv z := by
  have iL := h.1.2.2.2.1
  have hq : ru_cell (s 8 5).toNat := iL.2.2.2.1 16 (by decide)
  have eq16 : ru_q s 16 = (s 8 5).toNat := rfl
  have g := hq.ge
  generalize hqq : (s 8 5).toNat = q at hq g f1 eq16
  have lo : ∀ a b', a < 242 → z a b' = s1 a b' := fun a b' ha => fz a b' (by omega) (by omega) (by omega) (by omega) (by omega)
  refine h.text (fun k j x1 x2 x3 x4 x5 x6 x7 x8 x9 => ?_) ?_ ?_
  · by_cases hk : k < 242
    · rw [lo k j hk, f1 k j (by omega) (by omega) (by omega) (by omega)]
    · rw [fz k j x9 x7 (by omega) (by omega) (by omega), f1 k j (by omega) (by omega) (by omega) (by omega)]
  · refine iv_L.keep iL ?_ (fun j => ?_) (fun j => ?_) (fun k j h1 h2 => ?_) (fun k n h1 h2 h4 => ?_) (fun k j h1 h2 h4 => ?_) (fun k j h1 h2 h4 => ?_)
    · rw [lo _ _ (by decide), f1 _ _ (by omega) (by omega) (by omega) (by omega)]
    · rw [lo _ _ (by decide), f1 _ _ (by omega) (by omega) (by omega) (by omega)]
    · rw [lo _ _ (by decide), f1 _ _ (by omega) (by omega) (by omega) (by omega)]
    · rw [eq16] at h1
      rw [lo k j (by omega), f1 k j (by omega) (by omega) h1 (by omega)]
    · rw [fz k n (by omega) (by omega) (by omega) (by omega) (by omega), f1 k n (by omega) (by omega) (by omega) (by omega)]
    · rw [fz k j (by omega) (by omega) (by omega) (by omega) (by omega), f1 k j (by omega) (by omega) (by omega) (by omega)]
    · rw [fz k j (by omega) (by omega) (by omega) (by omega) (by omega), f1 k j (by omega) (by omega) (by omega) (by omega)]
  · refine ⟨by rw [lo _ _ (by decide), e24, z10], by rw [z10]; decide, fun j hj => by rw [z10] at hj; omega, by rw [lo _ _ (by decide), e89, z17], ?_⟩
    rw [z17]
    exact ⟨by omega, by omega⟩
end
