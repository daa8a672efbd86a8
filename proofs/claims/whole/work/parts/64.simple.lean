/-! a call of both; tests; the plainest calls -/
def Cal (L : Nat) (s : hh_Sv) (X Y : hh_Sv → Option hh_Rs) (wd : Int → Int) : Prop := ∃ v s1 v2 s2, X s = ok L v s1 ∧ Y s1 = ok L v2 s2 ∧ wd v = wd v2 ∧ Inv s2 ∧ (∀ k, k < 8 → s1 k = s k) ∧ ∀ k, k < 8 → s2 k = s k
theorem Eqv.low {s t : hh_Sv} (h : Eqv s t) {k : Nat} (hk : k < 8) : t k = s k := funext fun j => h k j (by unfold scr; omega)
/-- both only ask -/
theorem Cal.qy {L : Nat} {s s1 s2 : hh_Sv} {X Y : hh_Sv → Option hh_Rs} {wd : Int → Int} {v v2 : Int} (hX : X s = ok L v s1) (hY : Y s1 = ok L v2 s2) (hw : wd v = wd v2) (e1 : Eqv s s1) (e2 : Eqv s1 s2) (hI : Inv s) (hH : iv_H s2) : Cal L s X Y wd :=
  ⟨v, s1, v2, s2, hX, hY, hw, ⟨hI.1.eqv (e1.tr e2), hH⟩, fun k hk => e1.low hk, fun k hk => (e1.tr e2).low hk⟩
theorem iv_H.same {s t : hh_Sv} (h1 : t 242 50 = s 242 50) (h2 : ∀ j, t 268 j = s 268 j) (h : iv_H s) : iv_H t := by
  unfold iv_H
  rw [h1]
  rcases h with h | ⟨a, b⟩
  · exact Or.inl h
  · exact Or.inr ⟨a, fun i j hi hj => by rw [h2]; exact b i j hi hj⟩
/-- both leave all as it was -/
theorem Cal.pure {L : Nat} {s : hh_Sv} {X Y : hh_Sv → Option hh_Rs} {wd : Int → Int} {v v2 : Int} (hX : X s = ok L v s) (hY : Y s = ok L v2 s) (hw : wd v = wd v2) (hI : Inv s) : Cal L s X Y wd := Cal.qy hX hY hw Eqv.rf Eqv.rf hI hI.2
theorem hx_isIn_ok {L : Nat} {a lo hi : Int} {s : hh_Sv} (ha : I32 a) (hl : I32 lo) (hh : I32 hi) : hx_isIn L a lo hi s = ok L (zb (lo ≤ a ∧ a ≤ hi)) s := by
  rw [hx_isIn_eq, hx_isIn_b1_eq, ha.w, hl.w, hh.w]
  by_cases h1 : a < lo
  · rw [if_pos h1, zb_0 (by omega)]
  · rw [if_neg h1]
    by_cases h2 : hi < a
    · rw [if_pos h2, zb_0 (by omega)]
    · rw [if_neg h2, zb_1 (by omega)]
theorem md_isIn_ok {L : Nat} {a lo hi : Int} {s : hh_Sv} (ha : I32 a) (hl : I32 lo) (hh : I32 hi) : md_isIn L a lo hi s = ok L (zb (lo ≤ a ∧ a ≤ hi)) s := by
  rw [md_isIn_eq, md_isIn_b1_eq, ha.w, hl.w, hh.w]
  by_cases h1 : a < lo
  · rw [if_pos h1, zb_0 (by omega)]
  · rw [if_neg h1]
    by_cases h2 : hi < a
    · rw [if_pos h2, zb_0 (by omega)]
    · rw [if_neg h2, zb_1 (by omega)]
theorem i_lit {n : Int} (h1 : -2147483648 ≤ n := by decide) (h2 : n < 2147483648 := by decide) : I32 n := ⟨h1, h2⟩
theorem co_hasThrower_ok {L : Nat} {a : Int} {s : hh_Sv} (ha : I32 a) (hT : 0 ≤ s 9 0 ∧ s 9 0 ≤ 12) : co_hasThrower L a s = ok L (zb (0 ≤ a ∧ a < s 9 0)) s := by
  rw [co_hasThrower_eq, co_hasThrower_b1_eq, ha.w, w32_id (by omega) (by omega)]
  by_cases h1 : a < 0
  · rw [if_pos h1, zb_0 (by omega)]
  · rw [if_neg h1]
    by_cases h2 : a < s 9 0
    · rw [if_pos h2, zb_1 (by omega)]
    · rw [if_neg h2, zb_0 (by omega)]
theorem co_hasRow_ok {L : Nat} {a : Int} {s : hh_Sv} (ha : I32 a) (hT : 0 ≤ s 9 1 ∧ s 9 1 ≤ 60) : co_hasRow L a s = ok L (zb (0 ≤ a ∧ a < s 9 1)) s := by
  rw [co_hasRow_eq, co_hasRow_b1_eq, ha.w, w32_id (by omega) (by omega)]
  by_cases h1 : a < 0
  · rw [if_pos h1, zb_0 (by omega)]
  · rw [if_neg h1]
    by_cases h2 : a < s 9 1
    · rw [if_pos h2, zb_1 (by omega)]
    · rw [if_neg h2, zb_0 (by omega)]
theorem zb_cg {p q : Prop} [Decidable p] [Decidable q] (h : p ↔ q) : zb p = zb q := by
  unfold zb
  by_cases hp : p
  · rw [if_pos hp, if_pos (h.mp hp)]
  · rw [if_neg hp, if_neg (fun z => hp (h.mpr z))]
theorem md_isThrower_ok {L : Nat} {a : Int} {s : hh_Sv} (ha : I32 a) (hT : 0 ≤ s 242 2 ∧ s 242 2 ≤ 12) : md_isThrower L a s = ok L (zb (0 ≤ a ∧ a < s 242 2)) s := by
  rw [md_isThrower_eq, md_isIn_ok ha i_lit ⟨by omega, by omega⟩, ok_bind]
  show (if zb (0 ≤ a ∧ a ≤ s 242 2 - 1) = 0 ∨ zb (0 ≤ a ∧ a ≤ s 242 2 - 1) = 1 then ok L (zb (0 ≤ a ∧ a ≤ s 242 2 - 1)) s else none) = _
  rw [if_pos zb_01, zb_cg (q := 0 ≤ a ∧ a < s 242 2) (by omega)]
theorem md_isRow_ok {L : Nat} {a : Int} {s : hh_Sv} (ha : I32 a) (hT : 0 ≤ s 242 3 ∧ s 242 3 ≤ 60) : md_isRow L a s = ok L (zb (0 ≤ a ∧ a < s 242 3)) s := by
  rw [md_isRow_eq, md_isIn_ok ha i_lit ⟨by omega, by omega⟩, ok_bind]
  show (if zb (0 ≤ a ∧ a ≤ s 242 3 - 1) = 0 ∨ zb (0 ≤ a ∧ a ≤ s 242 3 - 1) = 1 then ok L (zb (0 ≤ a ∧ a ≤ s 242 3 - 1)) s else none) = _
  rw [if_pos zb_01, zb_cg (q := 0 ≤ a ∧ a < s 242 3) (by omega)]
/-- a test in front: what it leads to -/
theorem tst {L : Nat} {p : Prop} [Decidable p] {s : hh_Sv} {A B : hh_Rs → Option hh_Rs} {X : Option hh_Rs} (hX : X = ok L (zb p) s) : X.bind (fun r => if w32 r.1 = 0 then A r else B r) = if p then B (1, (SHc L, s)) else A (0, (SHc L, s)) := by
  rw [hX, ok_bind]
  show (if w32 (zb p) = 0 then A (zb p, (SHc L, s)) else B (zb p, (SHc L, s))) = _
  by_cases h : p
  · rw [if_neg (fun z => (zb_w.mp z) h), if_pos h, zb_1 h]
  · rw [if_pos (zb_w.mpr h), if_neg h, zb_0 h]
section
variable {L : Nat} {s : hh_Sv}
theorem Inv.T (h : Inv s) : s 9 0 = s 242 2 ∧ 0 ≤ s 242 2 ∧ s 242 2 ≤ 12 := ⟨h.1.2.1.1, h.1.2.1.2.2.2.1⟩
theorem Inv.R (h : Inv s) : s 9 1 = s 242 3 ∧ 0 ≤ s 242 3 ∧ s 242 3 ≤ 60 := ⟨h.1.2.1.2.1, h.1.2.1.2.2.2.2.1⟩
theorem Inv.row (h : Inv s) {r : Nat} (hr : (r : Int) < s 242 3) : iv_Row s 9 r (s 243) (s 244) (s 245) (s 246) (s 247) := h.1.2.1.2.2.2.2.2.1 r hr
theorem Inv.zr (h : Inv s) {a r : Nat} (h1 : 2 ≤ a) (h2 : a ≤ 5) (h3 : s 242 3 ≤ (r : Int)) (h4 : r < 60) : s (9 + a) r = 0 := h.1.2.1.2.2.2.2.2.2 a r h1 h2 h3 h4
theorem c_fault (h : Inv s) : Cal L s (hx_fault L) (md_fault L) w32 := by
  refine Cal.pure (hx_fault_eq L s) (md_fault_eq L s) ?_ h
  rw [h.1.2.2.2.2.2.2.2.2.1]
/-- the court changes, all else stays -/
theorem Inv.court {s2 : hh_Sv} (h : Inv s) (hC : iv_C s2) (hs : ∀ k j, ¬ (9 ≤ k ∧ k ≤ 14) → ¬ (k = 242 ∧ (j = 2 ∨ j = 3 ∨ j = 4)) → ¬ (243 ≤ k ∧ k ≤ 247) → s2 k j = s k j) : Inv s2 := by
  obtain ⟨⟨a1, a2, a3, a4, a5, a6⟩, a7⟩ := h
  have g : ∀ k j, ¬ (9 ≤ k ∧ k ≤ 14) → ¬ (k = 242 ∧ (j = 2 ∨ j = 3 ∨ j = 4)) → ¬ (243 ≤ k ∧ k ≤ 247) → s2 k j = s k j := hs
  refine ⟨⟨⟨fun j hj => (g _ _ (by omega) (by omega) (by omega)).trans (a1.1 j hj), fun j hj => (g _ _ (by omega) (by omega) (by omega)).trans (a1.2 j hj)⟩, hC, a3.eqv (g _ _ (by omega) (by omega) (by omega)) (g _ _ (by omega) (by omega) (by omega)) (fun k j _ _ => g _ _ (by omega) (by omega) (by omega)) (fun j => g _ _ (by omega) (by omega) (by omega)) (fun j => g _ _ (by omega) (by omega) (by omega)),
    a4.eqv (g _ _ (by omega) (by omega) (by omega)) (fun j => g _ _ (by omega) (by omega) (by omega)) (fun j => g _ _ (by omega) (by omega) (by omega)) (fun k j _ => g _ _ (by omega) (by omega) (by omega)) (fun k n _ _ _ => g _ _ (by omega) (by omega) (by omega)) (fun k j _ _ _ => g _ _ (by omega) (by omega) (by omega)) (fun k j _ _ _ => g _ _ (by omega) (by omega) (by omega)), a5.eqv (g _ _ (by omega) (by omega) (by omega)) (g _ _ (by omega) (by omega) (by omega)) (fun k j _ _ => g _ _ (by omega) (by omega) (by omega)) (fun j _ => g _ _ (by omega) (by omega) (by omega)) (fun k j _ _ _ => g _ _ (by omega) (by omega) (by omega)), a6.eqv (g _ _ (by omega) (by omega) (by omega)) (g _ _ (by omega) (by omega) (by omega)) (fun j => g _ _ (by omega) (by omega) (by omega)) (fun j => g _ _ (by omega) (by omega) (by omega)) (g _ _ (by omega) (by omega) (by omega)) (g _ _ (by omega) (by omega) (by omega))⟩, a7.same (g _ _ (by omega) (by omega) (by omega)) (fun j => g _ _ (by omega) (by omega) (by omega))⟩
theorem c_thrower (h : Inv s) : Cal L s (hx_thrower L) (md_thrower L) w32 := by
  obtain ⟨t1, t2, t3⟩ := h.T
  by_cases e : s 242 2 = 12
  · refine Cal.pure (v := -1) (v2 := -1) ?_ ?_ rfl h
    · rw [hx_thrower_eq, w32_id (by omega) (by omega), if_neg (by omega)]
    · rw [md_thrower_eq, w32_id (by omega) (by omega), if_pos e]
  · have e1 : hx_thrower L s = ok L (((s 9 0) + 1) - 1) (up s 9 0 ((s 9 0) + 1)) := by rw [hx_thrower_eq, w32_id (by omega) (by omega), if_pos (by omega)]
    have e2 : (up s 9 0 ((s 9 0) + 1)) 242 2 = s 242 2 := up_k (by decide)
    refine ⟨_, _, s 242 2 + 1 - 1, up (up s 9 0 ((s 9 0) + 1)) 242 2 (s 242 2 + 1), e1, by rw [md_thrower_eq, e2, w32_id (by omega) (by omega), if_neg e], by rw [t1], ?_, fun k hk => funext fun j => up_k (by omega), fun k hk => funext fun j => (up_k (by omega)).trans (up_k (by omega))⟩
    refine h.court ?_ (fun k j h1 h2 h3 => ?_)
    · obtain ⟨c1, c2, c3, c4, c5, c6, c7⟩ := h.1.2.1
      refine ⟨?_, ?_, ?_, ?_, ?_, fun r hr => ?_, fun a r z1 z2 z3 z4 => ?_⟩
      · rw [up_k (by decide), up_s, up_s, t1]
      · rw [up_k (by decide), up_j (by decide), up_j (by decide), up_k (by decide)]; exact c2
      · rw [up_k (by decide), up_j (by decide), up_j (by decide), up_k (by decide)]; exact c3
      · rw [up_s]; omega
      · rw [up_j (by decide), up_k (by decide)]; exact c5
      · rw [up_j (by decide), up_k (by decide)] at hr
        refine (c6 r hr).eqv (fun a a1 a5 => ?_) ?_ ?_ ?_ (fun k hk => ?_) (fun k hk => ?_)
        · rw [up_k (by omega), up_k (by omega)]
        all_goals rw [up_k (by decide), up_k (by decide)]
      · rw [up_j (by decide), up_k (by decide)] at z3
        rw [up_k (by omega), up_k (by omega)]
        exact c7 a r z1 z2 z3 z4
    · by_cases e3 : k = 242
      · subst e3
        rw [up_j (by omega), up_k (by decide)]
      · rw [up_k e3, up_k (by omega)]
theorem c_seed {a : Int} (ha : I32 a) (h : Inv s) : Cal L s (hx_seed L a) (md_seed L a) w32 := by
  by_cases e : 0 ≤ a ∧ a ≤ 999999999
  · have e1 : hx_seed L a s = ok L 1 (up s 9 2 a) := by rw [hx_seed_eq, ha.w, if_neg (by omega), if_neg (by omega)]
    have e2 : md_seed L a (up s 9 2 a) = ok L 1 (up (up s 9 2 a) 242 4 a) := by
      rw [md_seed_eq, tst (md_isIn_ok ha i_lit i_lit), if_pos e, ha.w]
    refine ⟨_, _, _, _, e1, e2, rfl, ?_, fun k hk => funext fun j => up_k (by omega), fun k hk => funext fun j => (up_k (by omega)).trans (up_k (by omega))⟩
    refine h.court ?_ (fun k j h1 h2 h3 => ?_)
    · obtain ⟨c1, c2, c3, c4, c5, c6, c7⟩ := h.1.2.1
      refine ⟨?_, ?_, ?_, ?_, ?_, fun r hr => ?_, fun a r z1 z2 z3 z4 => ?_⟩
      · rw [up_k (by decide), up_j (by decide), up_j (by decide), up_k (by decide)]; exact c1
      · rw [up_k (by decide), up_j (by decide), up_j (by decide), up_k (by decide)]; exact c2
      · rw [up_k (by decide), up_s, up_s]
      · rw [up_j (by decide), up_k (by decide)]; exact c4
      · rw [up_j (by decide), up_k (by decide)]; exact c5
      · rw [up_j (by decide), up_k (by decide)] at hr
        refine (c6 r hr).eqv (fun a a1 a5 => ?_) ?_ ?_ ?_ (fun k hk => ?_) (fun k hk => ?_)
        · rw [up_k (by omega), up_k (by omega)]
        all_goals rw [up_k (by decide), up_k (by decide)]
      · rw [up_j (by decide), up_k (by decide)] at z3
        rw [up_k (by omega), up_k (by omega)]
        exact c7 a r z1 z2 z3 z4
    · by_cases e3 : k = 242
      · subst e3
        rw [up_j (by omega), up_k (by decide)]
      · rw [up_k e3, up_k (by omega)]
  · refine Cal.pure (v := 0) (v2 := 0) ?_ ?_ rfl h
    · rw [hx_seed_eq, ha.w]
      by_cases e1 : a < 0
      · rw [if_pos e1]
      · rw [if_neg e1, if_pos (by omega)]
    · rw [md_seed_eq, tst (md_isIn_ok ha i_lit i_lit), if_neg e]
end
