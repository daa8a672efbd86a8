/-! behind a throw; bets; the reference's way -/
section
variable {L : Nat} {s : hh_Sv}
theorem bw_f : w32 ((false.toNat : Nat) : Int) = 0 := w32_0
theorem bw_t : ¬ w32 ((true.toNat : Nat) : Int) = 0 := by
  rw [show w32 ((true.toNat : Nat) : Int) = 1 from w32_1]
  decide
theorem as_add_ok {A : Nat} {v : Nat → Int} {b : Bool} (hA : kd L A = 20) (h8 : 8 ≤ A) (ha : asC s A v) : ∃ u, as_add L A ((b.toNat : Nat) : Int) s = ok L 0 u ∧ FA A s u ∧ asC u A (adv v b) := by
  obtain ⟨a0, a1, a2, a3, a4, a5, a6⟩ := ha
  rw [as_add_eq]
  cases b
  · rw [if_pos bw_f, as_add_b2_eq, if_pos hA, if_pos h8, if_pos bw_f, if_pos hA, as_add_b4_eq, if_pos hA, if_pos h8, if_pos hA, if_pos bw_f, as_add_b6_eq, if_pos hA, if_pos h8, if_pos hA, if_pos hA, if_pos h8]
    refine ⟨_, rfl, FA.rf.up.up.up.up, ?_, ?_, ?_, ?_, ?_, ?_, ?_⟩
    · rw [up_j (by decide), up_j (by decide), up_j (by decide), up_s]; rfl
    · rw [up_j (by decide), up_j (by decide), up_s, up_j (by decide), a1]; rfl
    · rw [up_j (by decide), up_j (by decide), up_j (by decide), up_j (by decide), a2]; rfl
    · rw [up_s, up_j (by decide), up_j (by decide), up_j (by decide), a3]; rfl
    · rw [up_j (by decide), up_j (by decide), up_j (by decide), up_j (by decide), a4]; rfl
    · rw [up_j (by decide), up_j (by decide), up_j (by decide), up_j (by decide), a5]; rfl
    · rw [up_j (by decide), up_s, up_j (by decide), up_j (by decide), a6]; rfl
  · rw [if_neg bw_t, if_pos hA, as_add_b2_eq, if_pos hA, if_pos h8, if_neg bw_t, as_add_b4_eq, if_pos hA, if_pos h8, if_pos hA, if_neg bw_t, as_add_b6_eq, if_pos hA, if_pos h8, if_pos hA, if_pos hA, if_pos h8]
    refine ⟨_, rfl, FA.rf.up.up.up.up, ?_, ?_, ?_, ?_, ?_, ?_, ?_⟩
    · rw [up_j (by decide), up_j (by decide), up_j (by decide), up_s, a0]; rfl
    · rw [up_j (by decide), up_j (by decide), up_s]; rfl
    · rw [up_j (by decide), up_j (by decide), up_j (by decide), up_j (by decide), a2]; rfl
    · rw [up_s, up_j (by decide), up_j (by decide), up_j (by decide), a3]; rfl
    · rw [up_j (by decide), up_j (by decide), up_j (by decide), up_j (by decide), a4]; rfl
    · rw [up_j (by decide), up_j (by decide), up_j (by decide), up_j (by decide), a5]; rfl
    · rw [up_j (by decide), up_s, up_j (by decide), up_j (by decide), a6]; rfl
theorem ru_goOn_ok {A t : Nat} {rs : List Ru} {v : Nat → Int} {N : Int} {b : Bool} (h : iv_L s) (ht : t < 16) (hS : ru_S s t rs) (hA : kd L A = 20) (hA2 : 26 ≤ A ∧ A ≤ 71) (ha : asC s A v) (hv : VB v N) (hN : N ≤ 1000000) : ∃ u, ru_goOn L (ru_q s t) A ((b.toNat : Nat) : Int) s = ok L 0 u ∧ FA A s u ∧ asC u A (goN rs v b) := by
  have h8 : 8 ≤ A := by omega
  have kq := ru_kd (L := L) (h.cell (t := t) (by omega))
  obtain ⟨u, u1, u2, u3⟩ := as_add_ok (L := L) (b := b) hA h8 ha
  have q1 := u2.q hA2
  obtain ⟨S1, e1⟩ := hS.q h q1 ht
  have e2 : u A 2 = v 2 := by rw [u3.2.2.1]; rfl
  have f1 : ru_firstOf L (ru_q s t) 5 A (u A 2) u = ok L (fo (adv v b) 3 (v 2) rs) u := by
    rw [← e1, e2]
    exact cl_first (k := 3) (q1.lw h) ht S1 hA u3 (VB.padv hv) (by omega) (by decide)
  refine ⟨up u A 2 (fo (adv v b) 3 (v 2) rs), ?_, u2.up, u3.up2⟩
  rw [ru_goOn_eq, if_pos hA, u1, ok_bind]
  dsimp only
  rw [if_pos hA, if_pos kq, f1, ok_bind]
  dsimp only
  rw [if_pos hA, if_pos h8]
/-- which kind the first rule that holds has; 5 without -/
def fk (v : Nat → Int) : List Ru → Nat
  | [] => 5
  | r :: l => if rtr v r.2.2 = true then r.1 else fk v l
theorem fk_le {v : Nat → Int} : ∀ {rs : List Ru}, (∀ r ∈ rs, ru_ok r) → fk v rs ≤ 7
  | [], _ => by rw [fk]; decide
  | r :: l, h => by
    rw [fk]
    have h1 := (h r List.mem_cons_self).1
    have h2 := fk_le (v := v) (rs := l) (fun x hx => h x (List.mem_cons_of_mem _ hx))
    split
    · exact h1
    · exact h2
theorem ru_betOn_ok {A t : Nat} {rs : List Ru} {v : Nat → Int} {N : Int} (h : iv_L s) (ht : t < 16) (hS : ru_S s t rs) (hA : kd L A = 20) (ha : asC s A v) (hv : VB v N) (hN : N < 2147483648) : ru_betOn L (ru_q s t) A s = ok L (ru_k (fk v rs)) s := by
  have hq := h.cell (t := t) (by omega)
  obtain ⟨⟨p4, p5, p6, p7⟩, ⟨k1, k2, k3, k4⟩, ⟨l1, l2, l3, l4⟩⟩ := ru_sh (L := L) hq
  have kq := ru_kd (L := L) hq
  have hC := hS.2.2.2.1
  have hl := hS.1
  rw [ru_betOn_eq]
  have key : ∀ (j i : Nat), i + j = rs.length → ru_betOn_b1 L (ru_q s t) A (i : Int) s = ok L (ru_k (fk v (rs.drop i))) s := by
    intro j
    induction j with
    | zero =>
      intro i e
      rw [Nat.add_zero] at e
      subst e
      rw [ru_betOn_b1_eq, if_pos kq, hC.1, if_neg (by omega), List.drop_length, fk]
      rfl
    | succ j ih =>
      intro i e
      obtain ⟨r, r1, r2, r3⟩ := drop_at (rs := rs) (i := i) (by omega)
      obtain ⟨c1, c2, c3, c4⟩ := hC.2 i r r1
      have hin : (0 : Int) ≤ (i : Int) ∧ (i : Int) < ((24 : Nat) : Int) := by omega
      rw [ru_betOn_b1_eq, if_pos kq, hC.1, if_pos (by rw [w32_id (by omega) (by omega), w32_id (by omega) (by omega)]; omega), if_pos kq, ru_holds_ok hq hA hC hl hS.2.2.1 r1 (hS.ok r r3) ha hv hN, ok_bind, r2, fk]
      dsimp only
      cases e2 : rtr v r.2.2
      · rw [if_pos bw_f, if_neg (by decide)]
        exact ih (i + 1) (by omega)
      · rw [if_neg bw_t, if_pos kq, p4, if_pos k1, l1, if_pos hin, Int.toNat_natCast, c1, if_pos rfl]
  have k0 := key rs.length 0 (by omega)
  rw [List.drop_zero] at k0
  exact k0
/-! the reference -/
theorem asM.up {v : Nat → Int} {j : Nat} {x : Int} (h : asM s v) : asM (up s 262 j x) (fun k => if k = j then x else v k) := fun k hk => by
  by_cases e : k = j
  · subst e
    rw [up_s]
    exact (if_pos rfl).symm
  · rw [up_j e, h k hk]
    exact (if_neg e).symm
theorem asM.cg {v w : Nat → Int} (h : asM s v) (e : ∀ k, k < 7 → v k = w k) : asM s w := fun k hk => (h k hk).trans (e k hk)
theorem asM.f9 {v : Nat → Int} {u : hh_Sv} (h : asM s v) (g : F9 s u) : asM u v := fun k hk => by
  rw [g _ _ (by decide)]
  exact h k hk
theorem md_asks_ok {v : Nat → Int} {a b : Int} (h : asM s v) : ∃ u, md_asks L a b s = ok L 0 u ∧ FM s u ∧ asM u (s45 v a b) := by
  refine ⟨_, by rw [md_asks_eq, if_pos (by decide), if_pos (by decide)], FM.rf.up.up, ?_⟩
  refine (h.up.up).cg (fun k hk => ?_)
  unfold s45
  by_cases e : k = 5
  · rw [if_pos e, if_neg (by omega), if_pos e]
  · rw [if_neg e]
    by_cases e2 : k = 4
    · rw [if_pos e2, if_pos e2]
    · rw [if_neg e2, if_neg e2, if_neg e]
theorem md_hardNow_ok {t : Nat} {rs : List Ru} {v : Nat → Int} {N : Int} (h : iv_L s) (ht : t < 16) (hS : ru_S s t rs) (ha : asM s v) (hv : VB v N) (hN : N ≤ 1000000) : ∃ u, md_hardNow L (t : Int) s = ok L (hdN rs v) u ∧ FM s u ∧ asM u (s45 v 0 0) := by
  obtain ⟨w, w1, w2, w3⟩ := md_asks_ok (L := L) (a := 0) (b := 0) ha
  have h0 := hv 0 (by decide)
  obtain ⟨u, u1, u2⟩ := mo_first (L := L) (k := 1) (d := 0) ht (hS.q h w2.q ht).1 w3 (hv.p45 (by omega) (by omega)) (by omega) (by decide)
  have u1 : md_first L (t : Int) 1 0 w = _ := u1
  refine ⟨u, ?_, w2.tr u2.m, w3.f9 u2⟩
  rw [md_hardNow_eq, w1, ok_bind]
  dsimp only
  rw [u1, ok_bind]
  rfl
theorem md_guardNow_ok {t : Nat} {rs : List Ru} {v : Nat → Int} {N a : Int} (h : iv_L s) (ht : t < 16) (hS : ru_S s t rs) (ha : asM s v) (hv : VB v N) (hN : N ≤ 1000000) (hx : 0 ≤ a ∧ a ≤ N) : ∃ u, md_guardNow L (t : Int) a s = ok L (gdN rs v a) u ∧ FM s u ∧ asM u (s45 v a 0) := by
  obtain ⟨w, w1, w2, w3⟩ := md_asks_ok (L := L) (a := a) (b := 0) ha
  have h0 := hv 0 (by decide)
  obtain ⟨u, u1, u2⟩ := mo_first (L := L) (k := 2) (d := 0) ht (hS.q h w2.q ht).1 w3 (hv.p45 hx (by omega)) (by omega) (by decide)
  have u1 : md_first L (t : Int) 2 0 w = _ := u1
  refine ⟨u, ?_, w2.tr u2.m, w3.f9 u2⟩
  rw [md_guardNow_eq, w1, ok_bind]
  dsimp only
  rw [u1, ok_bind]
  rfl
theorem md_chanceNow_ok {t : Nat} {rs : List Ru} {v : Nat → Int} {N a b : Int} (h : iv_L s) (ht : t < 16) (hS : ru_S s t rs) (ha : asM s v) (hv : VB v N) (hN : N ≤ 1000000) (hx : 0 ≤ a ∧ a ≤ N) (hy : 0 ≤ b ∧ b ≤ N) : ∃ u, md_chanceNow L (t : Int) a b s = ok L (chV rs (s45 v a b)) u ∧ FM s u ∧ asM u (s45 v a b) := by
  obtain ⟨w, w1, w2, w3⟩ := md_asks_ok (L := L) (a := a) (b := b) ha
  have h0 := hv 0 (by decide)
  obtain ⟨u, u1, u2⟩ := mo_first (L := L) (k := 0) (d := 50) ht (hS.q h w2.q ht).1 w3 (hv.p45 hx hy) (by omega) (by decide)
  have u1 : md_first L (t : Int) 0 50 w = _ := u1
  have hb := fo_bd (v := s45 v a b) (k := 0) (d := 50) (N := 100) (by decide) (by decide) hS.ok
  have g := w2.tr u2.m
  have hS2 := hS
  obtain ⟨-, -, -, -, -, -, -, r8, -, r10⟩ := hS2
  have l6 := ru_l_le (k := 6) hS.ok
  have l7 := ru_l_le (k := 7) hS.ok
  have m1 := mu_bd (a := ((ru_l 6 rs : Nat) : Int)) (by omega) hx
  have m2 := mu_bd (a := ((ru_l 7 rs : Nat) : Int)) (by omega) hy
  refine ⟨u, ?_, g, w3.f9 u2⟩
  rw [md_chanceNow_eq, w1, ok_bind]
  dsimp only
  rw [u1, ok_bind]
  dsimp only
  rw [if_pos (by omega), if_pos (by omega), Int.toNat_natCast, g _ _ (by decide) (by decide), g _ _ (by decide) (by decide), r8, r10, jma_min_ok i_lit ⟨by omega, by omega⟩, ok_bind]
  dsimp only
  rw [jma_max_ok i_lit (by split <;> exact ⟨by omega, by omega⟩), ok_bind]
  rfl
theorem md_begins_ok : ∃ u, md_begins L s = ok L 0 u ∧ FM s u ∧ asM u (fun _ => 0) := by
  rw [md_begins_eq]
  refine lp_st (n := 7) (fun z u => md_begins_b1 L z u) (fun i u => FM s u ∧ ∀ k, k < i → u 262 k = 0) (fun r => ∃ u, r = ok L 0 u ∧ FM s u ∧ asM u (fun _ => 0)) ?_ ?_ 7 0 s (by omega) ⟨FM.rf, fun k hk => by omega⟩
  · intro i u hi ⟨g, p⟩
    refine ⟨up u 262 i 0, ⟨g.up, fun k hk => ?_⟩, ?_⟩
    · by_cases e : k = i
      · rw [e, up_s]
      · rw [up_j e]
        exact p k (by omega)
    · show md_begins_b1 L (i : Int) u = md_begins_b1 L ((i : Int) + 1) (up u 262 i 0)
      rw [md_begins_b1_eq, if_pos (by rw [w32_id (by omega) (by omega)]; omega), if_pos (by omega), Int.toNat_natCast]
  · intro u ⟨g, p⟩
    refine ⟨u, ?_, g, p⟩
    show md_begins_b1 L ((7 : Nat) : Int) u = ok L 0 u
    rw [md_begins_b1_eq, if_neg (by rw [w32_id (by decide) (by decide)]; decide)]
theorem md_goesOn_ok {t : Nat} {rs : List Ru} {v : Nat → Int} {N a c : Int} {b : Bool} (h : iv_L s) (ht : t < 16) (hS : ru_S s t rs) (ha : asM s v) (hv : VB v N) (hN : N ≤ 1000000) (hx : 0 ≤ a ∧ a ≤ N) (hy : 0 ≤ c ∧ c ≤ N) : ∃ u, md_goesOn L (t : Int) ((b.toNat : Nat) : Int) a c s = ok L 0 u ∧ FM s u ∧ asM u (goN rs (s45 v a c) b) := by
  have fin : ∀ w : hh_Sv, FM s w → asM w (adv v b) → ∃ u, ((md_asks L a c w).bind (fun r2 => if 0 ≤ 2 ∧ 2 < 7 then (md_first L (t : Int) 3 (r2.2.2 262 2) r2.2.2).bind (fun r3 => if 0 ≤ 2 ∧ 2 < 7 then ok L 0 (up r3.2.2 262 2 r3.1) else none) else none)) = ok L 0 u ∧ FM s u ∧ asM u (goN rs (s45 v a c) b) := by
    intro w g aw
    obtain ⟨y, y1, y2, y3⟩ := md_asks_ok (L := L) (a := a) (b := c) aw
    have gy := g.tr y2
    have es : s45 (adv v b) a c = adv (s45 v a c) b := by
      funext k
      unfold s45 adv
      by_cases e4 : k = 4
      · subst e4; rfl
      · by_cases e5 : k = 5
        · subst e5; rfl
        · rw [if_neg e4, if_neg e5]
          by_cases e0 : k = 0
          · rw [if_pos e0, if_pos e0]; rfl
          · rw [if_neg e0, if_neg e0]
            by_cases e1 : k = 1
            · rw [if_pos e1, if_pos e1]; rfl
            · rw [if_neg e1, if_neg e1]
              by_cases e3 : k = 3
              · rw [if_pos e3, if_pos e3]; rfl
              · rw [if_neg e3, if_neg e3]
                by_cases e6 : k = 6
                · rw [if_pos e6, if_pos e6]; rfl
                · rw [if_neg e6, if_neg e6]
                  show v k = if k = 4 then a else if k = 5 then c else v k
                  rw [if_neg e4, if_neg e5]
    rw [es] at y3
    obtain ⟨u, u1, u2⟩ := mo_first (L := L) (k := 3) (d := v 2) ht (hS.q h gy.q ht).1 y3 (VB.padv (hv.p45 hx hy)) (by omega) (by decide)
    have e2 : y 262 2 = v 2 := y3 2 (by decide)
    have u1 : md_first L (t : Int) 3 (v 2) y = _ := u1
    refine ⟨up u 262 2 (fo (adv (s45 v a c) b) 3 (v 2) rs), ?_, (gy.tr u2.m).up, ?_⟩
    · rw [y1, ok_bind]
      dsimp only
      rw [if_pos (by decide), e2, u1, ok_bind]
      dsimp only
      rw [if_pos (by decide)]
    · exact ((y3.f9 u2).up).cg (fun k hk => rfl)
  rw [md_goesOn_eq]
  cases b
  · rw [if_pos bw_f, md_goesOn_b2_eq, if_pos (by decide), if_pos bw_f, if_pos (by decide), md_goesOn_b4_eq, if_pos (by decide), if_pos (by decide), if_pos (by decide), if_pos (by decide), md_one_ok (o := false.toNat) (Or.inl rfl), ok_bind]
    dsimp only
    rw [if_pos (by decide)]
    refine fin _ (FM.rf.up.up.up.up) ?_
    intro k hk
    have hk : k = 0 ∨ k = 1 ∨ k = 2 ∨ k = 3 ∨ k = 4 ∨ k = 5 ∨ k = 6 := by omega
    rcases hk with rfl | rfl | rfl | rfl | rfl | rfl | rfl
    · rw [up_j (by decide), up_j (by decide), up_j (by decide)]; exact up_s
    · rw [up_j (by decide), up_j (by decide), show (1 : Int).toNat = 1 from rfl, up_s, show (0 : Int).toNat = 0 from rfl, up_j (by decide), ha 1 (by decide)]; rfl
    · rw [up_j (by decide), up_j (by decide), up_j (by decide), up_j (by decide), ha 2 (by decide)]; rfl
    · rw [up_j (by decide), up_s, up_j (by decide), up_j (by decide), ha 3 (by decide)]; rfl
    · rw [up_j (by decide), up_j (by decide), up_j (by decide), up_j (by decide), ha 4 (by decide)]; rfl
    · rw [up_j (by decide), up_j (by decide), up_j (by decide), up_j (by decide), ha 5 (by decide)]; rfl
    · rw [up_s, up_j (by decide), up_j (by decide), ha 6 (by decide)]; rfl
  · rw [if_neg bw_t, if_pos (by decide), md_goesOn_b2_eq, if_pos (by decide), if_neg bw_t, md_goesOn_b4_eq, if_pos (by decide), if_pos (by decide), if_pos (by decide), if_pos (by decide), md_one_ok (o := true.toNat) (Or.inr rfl), ok_bind]
    dsimp only
    rw [if_pos (by decide)]
    refine fin _ (FM.rf.up.up.up.up) ?_
    intro k hk
    have hk : k = 0 ∨ k = 1 ∨ k = 2 ∨ k = 3 ∨ k = 4 ∨ k = 5 ∨ k = 6 := by omega
    rcases hk with rfl | rfl | rfl | rfl | rfl | rfl | rfl
    · rw [up_j (by decide), up_j (by decide), up_j (by decide), show (0 : Int).toNat = 0 from rfl, up_s, ha 0 (by decide)]; rfl
    · rw [up_j (by decide), up_j (by decide)]; exact up_s
    · rw [up_j (by decide), up_j (by decide), up_j (by decide), up_j (by decide), ha 2 (by decide)]; rfl
    · rw [up_j (by decide), up_s, up_j (by decide), up_j (by decide), ha 3 (by decide)]; rfl
    · rw [up_j (by decide), up_j (by decide), up_j (by decide), up_j (by decide), ha 4 (by decide)]; rfl
    · rw [up_j (by decide), up_j (by decide), up_j (by decide), up_j (by decide), ha 5 (by decide)]; rfl
    · rw [up_s, up_j (by decide), up_j (by decide), ha 6 (by decide)]; rfl
end
