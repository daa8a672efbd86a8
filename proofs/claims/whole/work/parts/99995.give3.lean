/-! give: the class's recursion -/
section
variable {L : Nat} {s : hh_Sv}
theorem gc_ne {p : Bool} {o : Bool} {t r : Nat} (h : t < r) : gc p t ≠ gc o r := by
  have h1 := gc_bd (o := p) (t := t)
  have h2 := gc_bd (o := o) (t := r)
  omega
theorem gc_inj {p o : Bool} {t : Nat} (h : gc p t = gc o t) : p = o := by
  revert h
  unfold gc
  cases p <;> cases o
  · exact fun _ => rfl
  · intro h
    have h : 53 + 2 * t = 52 + 2 * t := h
    omega
  · intro h
    have h : 52 + 2 * t = 53 + 2 * t := h
    omega
  · exact fun _ => rfl
theorem ga_follow_ok {A : Bool → Nat} {R : Bool → List Ru} {N t : Nat} {K m : Int} {st : Bool → Nat → Int} {b : Bool} (h : Gx s A R N K m) (hm : 0 ≤ m ∧ m ≤ 3) (ht : t < 8) (hb : GB st t) (ho : s 51 t = (((gO K st t).toNat : Nat) : Int)) (ha : ∀ p, asC s (gc p t) (gS R K m st t p)) : ∃ y, ga_follow L (t : Int) ((b.toNat : Nat) : Int) s = ok L 0 y ∧ FG (t + 1) s y ∧ ∀ p, asC y (gc p (t + 1)) (gN R K m st t b p) := by
  have hok : ∀ p, ∀ r ∈ R p, ru_ok r := fun p => (h.2.2.1 p).ok
  have k1 := fun o => gc_kd (L := L) (o := o) (t := t) (by omega)
  have k2 := fun o => gc_kd (L := L) (o := o) (t := t + 1) (by omega)
  have bd := fun o => gc_bd (o := o) (t := t)
  have bd1 := fun o => gc_bd (o := o) (t := t + 1)
  have b1 := bd1 true
  have b2 := bd1 false
  obtain ⟨u, u1, u2, u3⟩ := as_copy_ok (L := L) (k2 true) (k1 true) (by omega) (gc_ne (by omega)) (ha true)
  have haf : asC u (gc false t) (gS R K m st t false) := (ha false).fr (fun j => u2 _ _ (gc_ne (by omega)))
  obtain ⟨w, w1, w2, w3⟩ := as_copy_ok (L := L) (k2 false) (k1 false) (by omega) (gc_ne (by omega)) haf
  have w4 : asC w (gc true (t + 1)) (gS R K m st t true) := u3.fr (fun j => w2 _ _ (fun q => absurd (gc_inj q) (by decide)))
  have gw : FG (t + 1) s w := (u2.g (t := t + 1) (by omega)).tr (w2.g (by omega))
  have aw : ∀ p, asC w (gc p (t + 1)) (gS R K m st t p) := fun p => by
    cases p
    · exact w3
    · exact w4
  have hw := h.fr (gw.mo (Nat.zero_le _))
  have ow : w 51 t = (((gO K st t).toNat : Nat) : Int) := by rw [gw _ _ (by omega)]; exact ho
  obtain ⟨a1, a2, a3, a4, a5, a6, a7, a8, a9, a10⟩ := hw
  have hA16 : A (gO K st t) < 16 := by have := a2 (gO K st t); omega
  have kq := ru_kd (L := L) (a1.cell (t := A (gO K st t)) (by omega))
  have ao := aw (gO K st t)
  have eS : gS R K m st t (gO K st t) = gA R K m st t := if_pos rfl
  rw [eS] at ao
  have bo := bd1 (gO K st t)
  obtain ⟨y, y1, y2, y3⟩ := ru_goOn_ok (L := L) (b := b) a1 hA16 (a3 (gO K st t)) (k2 (gO K st t)) (by omega) ao (gA_VB (K := K) hok hm hb) (by omega)
  refine ⟨y, ?_, gw.tr (y2.g (by omega)), fun p => ?_⟩
  · have t1 : (0 : Int) ≤ (t : Int) + 1 ∧ (t : Int) + 1 < 9 := by omega
    have t0 : (0 : Int) ≤ (t : Int) ∧ (t : Int) < 9 := by omega
    rw [ga_follow_eq, if_pos t1, if_pos t0, show ((t : Int) + 1).toNat = t + 1 by omega, Int.toNat_natCast, gc_49 (by omega), gc_49 (by omega), gc_50 (by omega), gc_50 (by omega), if_pos (k2 true), u1, ok_bind, if_pos t1, if_pos t0, if_pos (k2 false)]
    dsimp only
    rw [w1, ok_bind, if_pos (by omega)]
    dsimp only
    by_cases eo : gO K st t = false
    · rw [if_pos (by rw [ow]; exact bz.mpr eo), if_pos t1]
      have e6 : (w 38 2).toNat = ru_q w (A false) := by rw [a6, Int.toNat_natCast]
      rw [eo] at y1 kq
      rw [if_pos (by rw [e6]; exact kq), e6, y1, ok_bind]
    · have eo2 : gO K st t = true := by cases q : gO K st t; exact absurd q eo; rfl
      rw [if_neg (by rw [ow]; exact fun q => eo (bz.mp q)), if_pos t1]
      have e5 : (w 38 1).toNat = ru_q w (A true) := by rw [a5, Int.toNat_natCast]
      rw [eo2] at y1 kq
      rw [if_pos (by rw [e5]; exact kq), e5, y1, ok_bind]
  · unfold gN
    by_cases e : p = gO K st t
    · rw [if_pos e, e]
      exact y3
    · rw [if_neg e]
      have q := aw p
      have eS2 : gS R K m st t p = st p := if_neg e
      rw [eS2] at q
      exact q.fr (fun j => y2 _ _ (fun q => e (gc_inj q)))
theorem hx_hitsFrom_ok {A : Bool → Nat} {R : Bool → List Ru} {N : Nat} {K m : Int} (hN : N ≤ 8) (hm : 0 ≤ m ∧ m ≤ 3) : ∀ (n t : Nat) (s : hh_Sv) (st : Bool → Nat → Int), t + n = N → Gx s A R N K m → GB st t → (∀ p, asC s (gc p t) (st p)) → ∃ y, hx_hitsFrom L (15 - t) (t : Int) s = ok L (gE R K m n t st) y ∧ FG t s y
  | 0, t, s, st, e, h, hb, ha => by
    refine ⟨s, ?_, FG.rf⟩
    rw [hx_hitsFrom_eq, h.2.2.2.1, if_neg (by rw [w32_id (by omega) (by omega), w32_id (by omega) (by omega)]; omega), gE]
  | n + 1, t, s, st, e, h, hb, ha => by
    have hok : ∀ p, ∀ r ∈ R p, ru_ok r := fun p => (h.2.2.1 p).ok
    have hc := gC_bd (R := R) (K := K) (m := m) (st := st) (t := t)
    obtain ⟨z, z1, z2, z3, z4⟩ := ga_aimAt_ok (L := L) h hm (show t < 8 by omega) hb ha
    have ew : w32 (gC R K m st t) = gC R K m st t := w32_id (by omega) (by omega)
    have ed : 7 + ((8 : Int) - ((t : Int) + 1)).toNat = 15 - (t + 1) := by omega
    have step : ∀ (b : Bool) (x : hh_Sv), FG t s x → x 51 t = (((gO K st t).toNat : Nat) : Int) → (∀ p, asC x (gc p t) (gS R K m st t p)) → ∃ x1 x2, ga_follow L (t : Int) ((b.toNat : Nat) : Int) x = ok L 0 x1 ∧ FG (t + 1) x x1 ∧ hx_hitsFrom L (15 - (t + 1)) ((t : Int) + 1) x1 = ok L (gE R K m n (t + 1) (gN R K m st t b)) x2 ∧ FG (t + 1) x x2 := fun b x g o4 a4 => by
      have hx := h.fr (g.mo (Nat.zero_le _))
      obtain ⟨x1, p1, p2, p3⟩ := ga_follow_ok (L := L) (b := b) hx hm (show t < 8 by omega) hb o4 a4
      obtain ⟨x2, q1, q2⟩ := hx_hitsFrom_ok hN hm n (t + 1) x1 (gN R K m st t b) (by omega) (hx.fr (p2.mo (Nat.zero_le _))) (gN_GB hok hm hb) p3
      exact ⟨x1, x2, p1, p2, q1, p2.tr q2⟩
    have b3 : ∀ (X : Int) (x : hh_Sv), FG t s x → x 51 t = (((gO K st t).toNat : Nat) : Int) → (∀ p, asC x (gc p t) (gS R K m st t p)) → ∃ y, hx_hitsFrom_b3 L (15 - t) (t : Int) (gC R K m st t) X x = ok L (X + (100 - gC R K m st t) * gE R K m n (t + 1) (gN R K m st t false)) y ∧ FG t s y := fun X x g o4 a4 => by
      rw [hx_hitsFrom_b3_eq, ew]
      by_cases q : gC R K m st t < 100
      · obtain ⟨x1, x2, p1, p2, p3, p4⟩ := step false x g o4 a4
        have p1 : ga_follow L (t : Int) 0 x = _ := p1
        refine ⟨x2, ?_, g.tr (p4.mo (by omega))⟩
        rw [if_pos q, if_pos (by omega), p1, ok_bind, ed, if_pos (by omega)]
        dsimp only
        rw [p3, ok_bind, w32_id (by omega) (by omega)]
      · refine ⟨x, ?_, g⟩
        rw [if_neg q, show 100 - gC R K m st t = 0 by omega, Int.zero_mul, Int.add_zero]
    rw [hx_hitsFrom_eq, h.2.2.2.1, if_pos (by rw [w32_id (by omega) (by omega), w32_id (by omega) (by omega)]; omega), if_pos (by rw [w32_id (by omega) (by omega)]; omega), if_pos (by omega), z1, ok_bind, gE]
    dsimp only
    rw [ew]
    by_cases q : 0 < gC R K m st t
    · obtain ⟨x1, x2, p1, p2, p3, p4⟩ := step true z z2 z3 z4
      have p1 : ga_follow L (t : Int) 1 z = _ := p1
      have hx := (h.fr (z2.mo (Nat.zero_le _))).fr (p2.mo (Nat.zero_le _))
      have g2 : FG t s x2 := z2.tr (p4.mo (by omega))
      obtain ⟨y, y1, y2⟩ := b3 (gC R K m st t * (100 ^ n + gE R K m n (t + 1) (gN R K m st t true))) x2 g2 (by rw [p4 _ _ (by omega)]; exact z3) (fun p => (z4 p).fr (fun j => p4 _ _ (by have := gc_bd (o := p) (t := t); omega)))
      refine ⟨y, ?_, y2⟩
      have en : 2 * ((((N : Nat) : Int) - (t : Int)) - 1) = 2 * (n : Int) := by omega
      rw [if_pos q, if_pos (by omega), p1, ok_bind]
      dsimp only
      rw [if_pos (by rw [hx.2.2.2.1]; omega), hx.2.2.2.1, en, ed, if_pos (by omega), p3, ok_bind, show (2 * (n : Int)).toNat = 2 * n by omega, hx.2.2.2.2.2.2.2.2.2 n (by omega), Int.zero_add]
      exact y1
    · obtain ⟨y, y1, y2⟩ := b3 0 z z2 z3 z4
      refine ⟨y, ?_, y2⟩
      rw [if_neg q, y1, show gC R K m st t = 0 by omega, Int.zero_mul]
theorem gGB0 : GB (fun _ _ => 0) 0 := fun p => ⟨fun k hk => by show (0 : Int) ≤ 0 ∧ (0 : Int) ≤ 100 + ((0 : Nat) : Int); omega, by show (0 : Int) ≤ ((0 : Nat) : Int); omega⟩
end
