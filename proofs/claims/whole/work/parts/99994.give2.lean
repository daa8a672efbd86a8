/-! give: the class -/
theorem ga_sh0 : ∀ t, t < 9 → (SHf 0 (52 + 2 * t)).1 = 20 ∧ (SHf 0 (53 + 2 * t)).1 = 20 ∧ (SHf 0 49).2.2.getD t 0 = 52 + 2 * t ∧ (SHf 0 50).2.2.getD t 0 = 53 + 2 * t := by decide +kernel
section
variable {L : Nat} {s : hh_Sv}
def gc (o : Bool) (t : Nat) : Nat := if o = true then 52 + 2 * t else 53 + 2 * t
theorem gc_bd {o : Bool} {t : Nat} : 52 + 2 * t ≤ gc o t ∧ gc o t ≤ 53 + 2 * t := by unfold gc; split <;> omega
theorem gc_kd {o : Bool} {t : Nat} (ht : t < 9) : kd L (gc o t) = 20 := by
  unfold kd gc
  rw [in_shL (by split <;> omega)]
  split
  · exact (ga_sh0 t ht).1
  · exact (ga_sh0 t ht).2.1
theorem gc_49 {t : Nat} (ht : t < 9) : pf L 49 t = gc true t := by
  unfold pf
  rw [in_shL (by decide)]
  exact (ga_sh0 t ht).2.2.1
theorem gc_50 {t : Nat} (ht : t < 9) : pf L 50 t = gc false t := by
  unfold pf
  rw [in_shL (by decide)]
  exact (ga_sh0 t ht).2.2.2
theorem asC.fr {A : Nat} {v : Nat → Int} {u : hh_Sv} (h : asC s A v) (e : ∀ j, u A j = s A j) : asC u A v := by
  unfold asC
  rw [e, e, e, e, e, e, e]
  exact h
theorem as_copy_ok {A B : Nat} {v : Nat → Int} (hA : kd L A = 20) (hB : kd L B = 20) (h8 : 8 ≤ A) (hn : B ≠ A) (h : asC s B v) : ∃ u, as_copy L A B s = ok L 0 u ∧ FA A s u ∧ asC u A v := by
  obtain ⟨a0, a1, a2, a3, a4, a5, a6⟩ := h
  refine ⟨_, by rw [as_copy_eq, if_pos hB, if_pos hA, if_pos h8, if_pos hB, if_pos hA, if_pos h8, if_pos hB, if_pos hA, if_pos h8, if_pos hB, if_pos hA, if_pos h8, if_pos hB, if_pos hA, if_pos h8, if_pos hB, if_pos hA, if_pos h8, if_pos hB, if_pos hA, if_pos h8], FA.rf.up.up.up.up.up.up.up, ?_, ?_, ?_, ?_, ?_, ?_, ?_⟩
  · rw [up_j (by decide), up_j (by decide), up_j (by decide), up_j (by decide), up_j (by decide), up_j (by decide), up_s, a0]
  · rw [up_j (by decide), up_j (by decide), up_j (by decide), up_j (by decide), up_j (by decide), up_s, up_k hn, a1]
  · rw [up_j (by decide), up_j (by decide), up_j (by decide), up_j (by decide), up_s, up_k hn, up_k hn, a2]
  · rw [up_j (by decide), up_j (by decide), up_j (by decide), up_s, up_k hn, up_k hn, up_k hn, a3]
  · rw [up_j (by decide), up_s, up_k hn, up_k hn, up_k hn, up_k hn, up_k hn, a4]
  · rw [up_s, up_k hn, up_k hn, up_k hn, up_k hn, up_k hn, up_k hn, a5]
  · rw [up_j (by decide), up_j (by decide), up_s, up_k hn, up_k hn, up_k hn, up_k hn, a6]
def FG (t : Nat) (s u : hh_Sv) : Prop := ∀ k j, (k < 51 ∨ 69 < k ∨ (k = 51 ∧ j < t) ∨ (51 < k ∧ k < 52 + 2 * t)) → u k j = s k j
theorem FG.rf {t : Nat} : FG t s s := fun _ _ _ => rfl
theorem FG.tr {t : Nat} {u v : hh_Sv} (h1 : FG t s u) (h2 : FG t u v) : FG t s v := fun k j h => (h2 k j h).trans (h1 k j h)
theorem FG.mo {t r : Nat} {u : hh_Sv} (h : FG t s u) (hr : r ≤ t) : FG r s u := fun k j q => h k j (by omega)
theorem FG.q {t : Nat} {u : hh_Sv} (h : FG t s u) : Eqh s u := fun k j hn => h k j (Decidable.byContradiction fun q => hn ⟨by unfold scr; omega, by omega, by omega⟩)
theorem FA.g {A t : Nat} {u : hh_Sv} (h : FA A s u) (hA : 52 + 2 * t ≤ A ∧ A ≤ 69) : FG t s u := fun k j q => h k j (by omega)
def Gx (s : hh_Sv) (A : Bool → Nat) (R : Bool → List Ru) (N : Nat) (K m : Int) : Prop := iv_L s ∧ (∀ p, A p < 12) ∧ (∀ p, ru_S s (A p) (R p)) ∧ s 38 0 = (N : Int) ∧ s 38 1 = ((ru_q s (A true) : Nat) : Int) ∧ s 38 2 = ((ru_q s (A false) : Nat) : Int) ∧ (∀ x : Int, 0 ≤ x → x ≤ 8 → (s 38 3 ≤ x ↔ 0 < K ∧ K ≤ x)) ∧ I32 (s 38 3) ∧ (0 < K → s 38 4 = m) ∧ ∀ j, j ≤ 8 → s 2 (2 * j) = 100 ^ j
theorem Gx.fr {A : Bool → Nat} {R : Bool → List Ru} {N : Nat} {K m : Int} {u : hh_Sv} (h : Gx s A R N K m) (g : FG 0 s u) : Gx u A R N K m := by
  obtain ⟨a1, a2, a3, a4, a5, a6, a7, a8, a9, a10⟩ := h
  have hq := fun p => (a3 p).q a1 g.q (show A p < 16 by have := a2 p; omega)
  refine ⟨g.q.lw a1, a2, fun p => (hq p).1, ?_, ?_, ?_, ?_, ?_, ?_, fun j hj => ?_⟩
  · rw [g _ _ (by omega)]; exact a4
  · rw [g _ _ (by omega), (hq true).2]; exact a5
  · rw [g _ _ (by omega), (hq false).2]; exact a6
  · rw [g _ _ (by omega)]; exact a7
  · rw [g _ _ (by omega)]; exact a8
  · rw [g _ _ (by omega)]; exact a9
  · rw [g _ _ (by omega)]; exact a10 j hj
def gS (R : Bool → List Ru) (K m : Int) (st : Bool → Nat → Int) (t : Nat) : Bool → Nat → Int := fun p => if p = gO K st t then gA R K m st t else st p
theorem ga_aimAt_who {A : Bool → Nat} {R : Bool → List Ru} {N t : Nat} {K m : Int} {st : Bool → Nat → Int} (h : Gx s A R N K m) (ht : t < 8) (hb : GB st t) (ha : ∀ p, asC s (gc p t) (st p)) : ga_aimAt L (t : Int) s = ga_aimAt_b5 L (t : Int) (((gG K st).toNat : Nat) : Int) (t : Int) (((gO K st t).toNat : Nat) : Int) s := by
  obtain ⟨a1, a2, a3, a4, a5, a6, a7, a8, a9, a10⟩ := h
  have h0 : s (gc true t) 0 = st true 0 := (ha true).1
  have hb0 := hb true
  have hv0 := hb0.1 0 (by decide)
  have k7 := a7 (st true 0) (by omega) (by omega)
  rw [ga_aimAt_eq, if_pos (by omega), Int.toNat_natCast, gc_49 (by omega), if_pos (gc_kd (by omega)), h0, a8.w, w32_id (by omega) (by omega)]
  by_cases e : 0 < K ∧ K ≤ st true 0
  · have eg : gG K st = true := decide_eq_true e
    have eo : gO K st t = true := by unfold gO; rw [eg]; rfl
    have := k7.mpr e
    rw [if_neg (by omega), ga_aimAt_b2_eq, if_neg (by rw [w32_1]; decide), eg, eo]
    rfl
  · have eg : gG K st = false := decide_eq_false e
    have eo : gO K st t = decide (t % 2 = 0) := by unfold gO; rw [eg]; rfl
    have : ¬ s 38 3 ≤ st true 0 := fun q => e (k7.mp q)
    rw [if_pos (by omega), ga_aimAt_b2_eq, if_pos w32_0, eg, eo, w32_id (i := (t : Int)) (by omega) (by omega), tMod_nn (by omega) (by decide), w32_id (by omega) (by omega)]
    by_cases e2 : t % 2 = 0
    · rw [if_pos (by omega), decide_eq_true e2]
      rfl
    · rw [if_neg (by omega), decide_eq_false e2]
      rfl
theorem bz {b : Bool} : w32 ((b.toNat : Nat) : Int) = 0 ↔ b = false := by
  cases b
  · exact ⟨fun _ => rfl, fun _ => bw_f⟩
  · exact ⟨fun q => absurd q bw_t, fun q => absurd q (by decide)⟩
theorem ga_aimAt_ok {A : Bool → Nat} {R : Bool → List Ru} {N t : Nat} {K m : Int} {st : Bool → Nat → Int} (h : Gx s A R N K m) (hm : 0 ≤ m ∧ m ≤ 3) (ht : t < 8) (hb : GB st t) (ha : ∀ p, asC s (gc p t) (st p)) : ∃ y, ga_aimAt L (t : Int) s = ok L (gC R K m st t) y ∧ FG t s y ∧ y 51 t = (((gO K st t).toNat : Nat) : Int) ∧ ∀ p, asC y (gc p t) (gS R K m st t p) := by
  rw [ga_aimAt_who h ht hb ha]
  have hok : ∀ p, ∀ r ∈ R p, ru_ok r := fun p => (h.2.2.1 p).ok
  have g1 : FG t s (up s 51 t (((gO K st t).toNat : Nat) : Int)) := fun k j q => by
    by_cases e : k = 51
    · subst e
      exact up_j (by omega)
    · exact up_k e
  have h1 := h.fr (g1.mo (Nat.zero_le _))
  have ha1 : ∀ p, asC (up s 51 t (((gO K st t).toNat : Nat) : Int)) (gc p t) (st p) := fun p => (ha p).fr (fun j => up_k (by have := gc_bd (o := p) (t := t); omega))
  have es : (up s 51 t (((gO K st t).toNat : Nat) : Int)) 51 t = (((gO K st t).toNat : Nat) : Int) := up_s
  have hbo := hb (gO K st t)
  have tb := Bool.toNat_le (gO K st t)
  have b5 : ga_aimAt_b5 L (t : Int) (((gG K st).toNat : Nat) : Int) (t : Int) (((gO K st t).toNat : Nat) : Int) s = ga_aimAt_b9 L (((gG K st).toNat : Nat) : Int) (gc (gO K st t) t) (ru_q (up s 51 t (((gO K st t).toNat : Nat) : Int)) (A (gO K st t))) (up s 51 t (((gO K st t).toNat : Nat) : Int)) := by
    rw [ga_aimAt_b5_eq, if_pos (by omega), if_pos (by omega), if_pos (by omega), Int.toNat_natCast]
    by_cases eo : gO K st t = false
    · rw [if_pos (by rw [es]; exact bz.mpr eo), if_pos (by omega), ga_aimAt_b7_eq, if_pos (by omega), Int.toNat_natCast, if_pos (by rw [es]; exact bz.mpr eo), h1.2.2.2.2.2.1, Int.toNat_natCast, gc_50 (by omega), eo]
    · have eo2 : gO K st t = true := by cases q : gO K st t; exact absurd q eo; rfl
      rw [if_neg (by rw [es]; exact fun q => eo (bz.mp q)), if_pos (by omega), ga_aimAt_b7_eq, if_pos (by omega), Int.toNat_natCast, if_neg (by rw [es]; exact fun q => eo (bz.mp q)), h1.2.2.2.2.1, Int.toNat_natCast, gc_49 (by omega), eo2]
  rw [b5]
  generalize up s 51 t (((gO K st t).toNat : Nat) : Int) = u at *
  obtain ⟨a1, a2, a3, a4, a5, a6, a7, a8, a9, a10⟩ := h1
  have hA16 : A (gO K st t) < 16 := by have := a2 (gO K st t); omega
  have hcb := gc_bd (o := gO K st t) (t := t)
  have hck := gc_kd (L := L) (o := gO K st t) (t := t) (by omega)
  have kq := ru_kd (L := L) (a1.cell (t := A (gO K st t)) (by omega))
  obtain ⟨y, y1, y2, y3⟩ := ru_aim_ok (L := L) a1 hA16 (a3 (gO K st t)) hck (by omega) (ha1 (gO K st t)) hbo.1 (by omega)
  obtain ⟨c1, c2, c3⟩ := am3_bd (v := st (gO K st t)) (hok (gO K st t)) (gX_bd (K := K) (st := st) hm)
  have fin : ∀ z : hh_Sv, FA (gc (gO K st t) t) u z → asC z (gc (gO K st t) t) (gA R K m st t) → ∃ y, ga_aimAt_b10 L (gc (gO K st t) t) (ru_q u (A (gO K st t))) z = ok L (gC R K m st t) y ∧ FG t s y ∧ y 51 t = (((gO K st t).toNat : Nat) : Int) ∧ ∀ p, asC y (gc p t) (gS R K m st t p) := fun z g az => by
    have gz := (g.g (t := t) (by omega))
    obtain ⟨Sz, ez⟩ := (a3 (gO K st t)).q a1 gz.q hA16
    refine ⟨z, ?_, g1.tr gz, ?_, fun p => ?_⟩
    · rw [ga_aimAt_b10_eq, if_pos kq, ← ez, ru_chanceOf_ok (gz.q.lw a1) hA16 Sz hck az (gA_VB hok hm hb) (by omega), ok_bind]
      rfl
    · rw [g _ _ (by omega)]
      exact es
    · unfold gS
      by_cases e : p = gO K st t
      · rw [if_pos e, e]
        exact az
      · rw [if_neg e]
        refine (ha1 p).fr (fun j => g _ _ (fun q => e ?_))
        unfold gc at q
        cases p <;> cases q2 : gO K st t <;> rw [q2] at q <;> first | rfl | (exfalso; revert q; simp only [if_pos, if_neg, Bool.false_eq_true, if_false]; omega)
  rw [ga_aimAt_b9_eq, if_pos kq, y1, ok_bind]
  dsimp only
  by_cases eg : gG K st = false
  · rw [if_pos (bz.mpr eg)]
    refine fin y y2 ?_
    have ex : gX K m st = 0 := by unfold gX; rw [eg]; rfl
    have e3 : gA R K m st t = s45 (st (gO K st t)) (hdN (R (gO K st t)) (st (gO K st t))) (gdN (R (gO K st t)) (st (gO K st t)) (hdN (R (gO K st t)) (st (gO K st t)))) := by
      unfold gA am3 mn3
      rw [ex, Int.add_zero]
      by_cases q : gdN (R (gO K st t)) (st (gO K st t)) (hdN (R (gO K st t)) (st (gO K st t))) < 3
      · rw [if_pos q]
      · rw [if_neg q, show gdN (R (gO K st t)) (st (gO K st t)) (hdN (R (gO K st t)) (st (gO K st t))) = 3 by omega]
    rw [e3]
    exact y3
  · have eg2 : gG K st = true := by cases q : gG K st; exact absurd q eg; rfl
    have eK : 0 < K := (of_decide_eq_true eg2).1
    have ex : gX K m st = m := by unfold gX; rw [eg2]; rfl
    have e6 : y (gc (gO K st t) t) 6 = gdN (R (gO K st t)) (st (gO K st t)) (hdN (R (gO K st t)) (st (gO K st t))) := y3.2.2.2.2.2.1
    rw [if_neg (fun q => eg (bz.mp q)), if_pos hck, e6, y2 _ _ (by omega), a9 eK, jma_min_ok i_lit ⟨by omega, by omega⟩, ok_bind, if_pos hck, if_pos (by omega)]
    refine fin _ y2.up ?_
    have y4 := y3.up6 (x := mn3 (gdN (R (gO K st t)) (st (gO K st t)) (hdN (R (gO K st t)) (st (gO K st t))) + m))
    rw [s45_s45] at y4
    unfold gA am3
    rw [ex]
    exact y4
end
