/-! conditions of the reference; the first rule that holds, in both -/
/-- the pile: the last answer on top -/
def pl (u : hh_Sv) : List Bool → Prop
  | [] => True
  | b :: st => u 259 st.length = ((b.toNat : Nat) : Int) ∧ pl u st
theorem pl_up {u : hh_Sv} {k : Nat} {w : Int} : ∀ {st : List Bool}, st.length ≤ k → pl u st → pl (up u 259 k w) st
  | [], _, _ => trivial
  | b :: st, h, h2 => by
    rw [List.length_cons] at h
    refine ⟨?_, pl_up (by omega) h2.2⟩
    rw [up_j (by omega)]
    exact h2.1
section
variable {L : Nat} {s : hh_Sv}
def F9 (s u : hh_Sv) : Prop := ∀ k j, k ≠ 259 → u k j = s k j
theorem F9.up {u : hh_Sv} {j : Nat} {w : Int} (h : F9 s u) : F9 s (up u 259 j w) := fun a b hn => by
  rw [up_k hn]
  exact h a b hn
theorem md_isTrue_ok {t i : Nat} {fs : List Ru} {r : Ru} {v : Nat → Int} {N : Int} (ht16 : t < 16) (hM : ru_M s t fs) (hl : fs.length ≤ 24) (ht : ru_at fs fs.length ≤ 300) (hr : fs[i]? = some r) (hok : ru_ok r) (ha : asM s v) (hv : VB v N) (hN : N < 2147483648) : ∃ u, md_isTrue L ((24 * t + i : Nat) : Int) s = ok L (((rtr v r.2.2).toNat : Nat) : Int) u ∧ F9 s u := by
  obtain ⟨c1, c2, c3, c4, c5⟩ := hM.2 i r hr
  have hi : i < fs.length := (List.getElem?_eq_some_iff.mp hr).1
  have hat := ru_at_succ hr
  have htl := @ru_at_le fs (i + 1)
  have hin : (0 : Int) ≤ ((24 * t + i : Nat) : Int) ∧ ((24 * t + i : Nat) : Int) < 408 := by omega
  have key : ∀ (l : List Cd) (st : List Bool) (n : Nat) (u : hh_Sv), (∀ (j : Nat) (c : Cd), l[j]? = some c → r.2.2[n + j]? = some c) → n + l.length = r.2.2.length → st.length ≤ 40 → (∃ m, cd_d l st.length = some m) → (r.2.2 = [] ∨ (stps v l st).length = 1) → (r.2.2 = [] → stps v l st = []) → F9 s u → pl u st → ∃ w, md_isTrue_b1 L ((24 * t + i : Nat) : Int) (st.length : Int) ((300 * t + ru_at fs i + n : Nat) : Int) u = ok L (((topb (stps v l st)).toNat : Nat) : Int) w ∧ F9 s w := by
    intro l
    induction l with
    | nil =>
      intro st n u h1 h2 h3 h4 h5 h6 g hp
      rw [List.length_nil, Nat.add_zero] at h2
      rw [stps] at h5 h6 ⊢
      rw [md_isTrue_b1_eq, if_pos hin, Int.toNat_natCast, g _ _ (by decide), c4, if_neg (by rw [w32_id (by omega) (by omega), w32_id (by omega) (by omega)]; omega), if_pos hin, if_pos hin, g _ _ (by decide), c3, w32_id (by omega) (by omega), w32_id (by omega) (by omega)]
      by_cases e : r.2.2 = []
      · have e1 : r.2.2.length = 0 := by rw [e]; rfl
        rw [if_pos (by omega), h6 e]
        exact ⟨u, rfl, g⟩
      · have e1 : 0 < r.2.2.length := List.length_pos_iff.mpr e
        rcases h5 with z | z
        · exact absurd z e
        · match st, z, hp with
          | [b], _, hp =>
            have e2 : u 259 0 = ((b.toNat : Nat) : Int) := hp.1
            rw [if_neg (by omega), if_pos (by decide), e2]
            cases b
            · rw [if_pos (show w32 ((false.toNat : Nat) : Int) = 0 from w32_0)]
              exact ⟨u, rfl, g⟩
            · rw [if_neg (show ¬ w32 ((true.toNat : Nat) : Int) = 0 by rw [show w32 ((true.toNat : Nat) : Int) = 1 from w32_1]; decide)]
              exact ⟨u, rfl, g⟩
    | cons c l ih =>
      intro st n u h1 h2 h3 ⟨m, h4⟩ h5 h6 g hp
      rw [List.length_cons] at h2
      have hcm : r.2.2[n]? = some c := h1 0 c rfl
      have hco : cd_ok c := hok.2.2.1 c (List.mem_of_getElem? hcm)
      obtain ⟨d1, d2, d3, d4⟩ := stp_len (v := v) hco.1 h4
      obtain ⟨f1, f2, f3⟩ := c5 n c hcm
      have hin2 : (0 : Int) ≤ ((300 * t + ru_at fs i + n : Nat) : Int) ∧ ((300 * t + ru_at fs i + n : Nat) : Int) < 5100 := by omega
      have hnext : ∀ (st2 : List Bool) (u2 : hh_Sv), st2 = stp v c st → st2.length ≤ 40 → F9 s u2 → pl u2 st2 → ∃ w, md_isTrue_b1 L ((24 * t + i : Nat) : Int) (st2.length : Int) (((300 * t + ru_at fs i + n : Nat) : Int) + 1) u2 = ok L (((topb (stps v (c :: l) st)).toNat : Nat) : Int) w ∧ F9 s w := fun st2 u2 e2 hl2 g2 hp2 => by
        have := ih st2 (n + 1) u2 (fun j c' hj => by
          have := h1 (j + 1) c' hj
          rw [show n + 1 + j = n + (j + 1) by omega]
          exact this) (by omega) hl2 ⟨m, by rw [e2]; exact d1⟩ (by rw [e2]; exact h5) (by rw [e2]; exact h6) g2 hp2
        rw [stps, ← e2]
        exact this
      have ew : w32 (u 256 (300 * t + ru_at fs i + n)) = (c.1 : Int) := by rw [g _ _ (by decide), f1]; exact w32_id (by omega) (by have := hco.1; omega)
      rw [md_isTrue_b1_eq, if_pos hin, Int.toNat_natCast, if_pos (by rw [g _ _ (by decide), c4, w32_id (by omega) (by omega), w32_id (by omega) (by omega)]; omega), if_pos hin2, Int.toNat_natCast, ew]
      have hk : c.1 ≤ 2 ∨ c.1 = 3 ∨ c.1 = 4 ∨ c.1 = 5 := by have := hco.1; omega
      rcases hk with k | k | k | k
      · have hst : stp v c st = cmpv v c :: st := by unfold stp; rw [if_pos k]
        have hb := hv c.2.1 (by have := hco.2.1; omega)
        have hn := hco.2.2
        have d2k := d2 k
        have e7 : u 257 (300 * t + ru_at fs i + n) = (c.2.1 : Int) := by rw [g _ _ (by decide), f2]
        have e8 : w32 (u 258 (300 * t + ru_at fs i + n)) = (c.2.2 : Int) := by rw [g _ _ (by decide), f3]; exact w32_id (by omega) (by omega)
        have e9 : w32 (u 262 c.2.1) = v c.2.1 := by rw [g _ _ (by decide), ha c.2.1 (by have := hco.2.1; omega)]; exact w32_id (by omega) (by omega)
        have b7 : ∀ b : Bool, cmpv v c = b → ∃ w, md_isTrue_b7 L ((24 * t + i : Nat) : Int) (st.length : Int) ((300 * t + ru_at fs i + n : Nat) : Int) (st.length : Int) ((b.toNat : Nat) : Int) u = ok L (((topb (stps v (c :: l) st)).toNat : Nat) : Int) w ∧ F9 s w := fun b hb2 => by
          rw [md_isTrue_b7_eq, if_pos (by omega), if_pos (by cases b; exact Or.inl rfl; exact Or.inr rfl), Int.toNat_natCast]
          refine hnext (b :: st) _ (by rw [hst, hb2]) (by rw [List.length_cons]; omega) g.up ⟨up_s, pl_up (Nat.le_refl _) hp⟩
        rw [if_neg (by omega), if_pos hin2, e7, Int.toNat_natCast, if_pos (by have := hco.2.1; omega), if_pos hin2, e8, e9]
        have hk : c.1 = 0 ∨ c.1 = 1 ∨ c.1 = 2 := by omega
        rcases hk with k | k | k
        · have ec : cmpv v c = decide (v c.2.1 < (c.2.2 : Int)) := by unfold cmpv; rw [if_pos k]
          rw [if_pos (by omega), if_pos hin2]
          by_cases q : v c.2.1 < (c.2.2 : Int)
          · rw [if_pos q]
            exact b7 true (by rw [ec, decide_eq_true q])
          · rw [if_neg q]
            exact b7 false (by rw [ec, decide_eq_false q])
        · have ec : cmpv v c = decide ((c.2.2 : Int) < v c.2.1) := by unfold cmpv; rw [if_neg (by omega), if_pos k]
          rw [if_neg (by omega), if_pos hin2, if_pos (by omega), if_pos hin2]
          by_cases q : (c.2.2 : Int) < v c.2.1
          · rw [if_pos q]
            exact b7 true (by rw [ec, decide_eq_true q])
          · rw [if_neg q]
            exact b7 false (by rw [ec, decide_eq_false q])
        · have ec : cmpv v c = decide (v c.2.1 = (c.2.2 : Int)) := by unfold cmpv; rw [if_neg (by omega), if_neg (by omega)]
          rw [if_neg (by omega), if_pos hin2, if_neg (by omega), if_pos hin2]
          by_cases q : v c.2.1 = (c.2.2 : Int)
          · rw [if_pos q]
            exact b7 true (by rw [ec, decide_eq_true q])
          · rw [if_neg q]
            exact b7 false (by rw [ec, decide_eq_false q])
      · obtain ⟨x, y, r2, rfl⟩ := d4 (by omega) (by omega)
        have hst : stp v c (x :: y :: r2) = (y || x) :: r2 := by unfold stp; rw [if_neg (by omega), if_neg (by omega)]; show (if c.1 = 3 then (y || x) else (y && x)) :: r2 = _; rw [if_pos k]
        rw [List.length_cons, List.length_cons] at h3 ⊢
        obtain ⟨hx, hy, hp3⟩ := hp
        have e1 : ((r2.length + 1 + 1 : Nat) : Int) + (-1) = ((r2.length + 1 : Nat) : Int) := by omega
        have e2 : ((r2.length + 1 : Nat) : Int) - 1 = (r2.length : Int) := by omega
        have b16 : ∀ b : Bool, (y || x) = b → ∃ w, md_isTrue_b16 L ((24 * t + i : Nat) : Int) ((r2.length + 1 : Nat) : Int) ((300 * t + ru_at fs i + n : Nat) : Int) (r2.length : Int) ((b.toNat : Nat) : Int) u = ok L (((topb (stps v (c :: l) (x :: y :: r2))).toNat : Nat) : Int) w ∧ F9 s w := fun b hb2 => by
          rw [md_isTrue_b16_eq, if_pos (by omega), if_pos (by cases b; exact Or.inl rfl; exact Or.inr rfl), Int.toNat_natCast]
          exact hnext (b :: r2) _ (by rw [hst, hb2]) (by rw [List.length_cons]; omega) g.up ⟨up_s, pl_up (Nat.le_refl _) hp3⟩
        have hx : u 259 (r2.length + 1) = ((x.toNat : Nat) : Int) := hx
        rw [if_pos (by omega), if_pos hin2, if_neg (by omega), if_pos hin2, if_pos (by omega), e1, e2, if_pos (by omega), Int.toNat_natCast, Int.toNat_natCast, hy, hx, if_pos (show (0 : Int) ≤ ((r2.length + 1 : Nat) : Int) ∧ ((r2.length + 1 : Nat) : Int) < 64 by omega)]
        cases y
        · rw [if_pos (show w32 ((false.toNat : Nat) : Int) = 0 from w32_0)]
          cases x
          · rw [if_pos (show w32 ((false.toNat : Nat) : Int) = 0 from w32_0)]
            exact b16 false rfl
          · rw [if_neg (show ¬ w32 ((true.toNat : Nat) : Int) = 0 by rw [show w32 ((true.toNat : Nat) : Int) = 1 from w32_1]; decide)]
            exact b16 true rfl
        · rw [if_neg (show ¬ w32 ((true.toNat : Nat) : Int) = 0 by rw [show w32 ((true.toNat : Nat) : Int) = 1 from w32_1]; decide)]
          exact b16 true rfl
      · obtain ⟨x, y, r2, rfl⟩ := d4 (by omega) (by omega)
        have hst : stp v c (x :: y :: r2) = (y && x) :: r2 := by unfold stp; rw [if_neg (by omega), if_neg (by omega)]; show (if c.1 = 3 then (y || x) else (y && x)) :: r2 = _; rw [if_neg (by omega)]
        rw [List.length_cons, List.length_cons] at h3 ⊢
        obtain ⟨hx, hy, hp3⟩ := hp
        have e1 : ((r2.length + 1 + 1 : Nat) : Int) + (-1) = ((r2.length + 1 : Nat) : Int) := by omega
        have e2 : ((r2.length + 1 : Nat) : Int) - 1 = (r2.length : Int) := by omega
        have b16 : ∀ b : Bool, (y && x) = b → ∃ w, md_isTrue_b16 L ((24 * t + i : Nat) : Int) ((r2.length + 1 : Nat) : Int) ((300 * t + ru_at fs i + n : Nat) : Int) (r2.length : Int) ((b.toNat : Nat) : Int) u = ok L (((topb (stps v (c :: l) (x :: y :: r2))).toNat : Nat) : Int) w ∧ F9 s w := fun b hb2 => by
          rw [md_isTrue_b16_eq, if_pos (by omega), if_pos (by cases b; exact Or.inl rfl; exact Or.inr rfl), Int.toNat_natCast]
          exact hnext (b :: r2) _ (by rw [hst, hb2]) (by rw [List.length_cons]; omega) g.up ⟨up_s, pl_up (Nat.le_refl _) hp3⟩
        have hx : u 259 (r2.length + 1) = ((x.toNat : Nat) : Int) := hx
        rw [if_pos (by omega), if_pos hin2, if_neg (by omega), if_pos hin2, if_neg (by omega), e1, e2, if_pos (by omega), Int.toNat_natCast, Int.toNat_natCast, hy, hx, if_pos (show (0 : Int) ≤ ((r2.length + 1 : Nat) : Int) ∧ ((r2.length + 1 : Nat) : Int) < 64 by omega), md_isTrue_b15_eq]
        cases y
        · rw [if_pos (show w32 ((false.toNat : Nat) : Int) = 0 from w32_0)]
          exact b16 false rfl
        · rw [if_neg (show ¬ w32 ((true.toNat : Nat) : Int) = 0 by rw [show w32 ((true.toNat : Nat) : Int) = 1 from w32_1]; decide)]
          cases x
          · rw [if_pos (show w32 ((false.toNat : Nat) : Int) = 0 from w32_0)]
            exact b16 false rfl
          · rw [if_neg (show ¬ w32 ((true.toNat : Nat) : Int) = 0 by rw [show w32 ((true.toNat : Nat) : Int) = 1 from w32_1]; decide)]
            exact b16 true rfl
      · obtain ⟨b, r2, rfl⟩ := d3 k
        have hst : stp v c (b :: r2) = (!b) :: r2 := by unfold stp; rw [if_neg (by omega), if_pos k]
        rw [List.length_cons] at h3 ⊢
        obtain ⟨hx, hp3⟩ := hp
        have e2 : ((r2.length + 1 : Nat) : Int) - 1 = (r2.length : Int) := by omega
        rw [if_pos (by omega), if_pos hin2, if_pos (by omega), e2, if_pos (by omega), Int.toNat_natCast, hx, if_pos (show (0 : Int) ≤ (r2.length : Int) ∧ (r2.length : Int) < 64 by omega)]
        cases b
        · rw [if_pos (show w32 ((false.toNat : Nat) : Int) = 0 from w32_0)]
          exact hnext (true :: r2) _ (by rw [hst]; rfl) (by rw [List.length_cons]; omega) g.up ⟨up_s, pl_up (Nat.le_refl _) hp3⟩
        · rw [if_neg (show ¬ w32 ((true.toNat : Nat) : Int) = 0 by rw [show w32 ((true.toNat : Nat) : Int) = 1 from w32_1]; decide), if_pos (show (0 : Int) ≤ (r2.length : Int) ∧ (r2.length : Int) < 64 by omega)]
          exact hnext (false :: r2) _ (by rw [hst]; rfl) (by rw [List.length_cons]; omega) g.up ⟨up_s, pl_up (Nat.le_refl _) hp3⟩
  rw [rtr_top, md_isTrue_eq, if_pos hin, Int.toNat_natCast, c3]
  have h5 : r.2.2 = [] ∨ (stps v r.2.2 []).length = 1 := by
    rcases hok.2.2.2.1 with z | z
    · exact Or.inl z
    · exact Or.inr (stps_len hok.2.2.1 z)
  have hcd : ∃ m, cd_d r.2.2 ([] : List Bool).length = some m := by
    rcases hok.2.2.2.1 with z | z
    · rw [z]; exact ⟨_, rfl⟩
    · exact ⟨1, z⟩
  exact key r.2.2 [] 0 s (fun j c hj => by rw [Nat.zero_add]; exact hj) (by omega) (by decide) hcd h5 (fun z => by rw [z]; rfl) (fun _ _ _ => rfl) trivial
/-- the first rule of a kind that holds -/
def fo (v : Nat → Int) (k : Nat) (d : Int) : List Ru → Int
  | [] => d
  | r :: l => if r.1 = k ∧ rtr v r.2.2 = true then (r.2.1 : Int) else fo v k d l
theorem fo_f {v : Nat → Int} {k : Nat} {d : Int} (hk : k ≤ 5) : ∀ rs : List Ru, fo v k d (ru_f rs) = fo v k d rs
  | [] => rfl
  | r :: l => by
    have ih := fo_f (v := v) (d := d) hk l
    unfold ru_f at ih ⊢
    rw [List.filter_cons]
    by_cases e : r.1 ≤ 5
    · rw [if_pos (decide_eq_true e), fo, fo, ih]
    · rw [if_neg (by rw [decide_eq_false e]; decide), ih, fo, if_neg (fun q => by omega)]
theorem fo_bd {v : Nat → Int} {k : Nat} {d N : Int} (hd : 0 ≤ d ∧ d ≤ N) (hN : 100 ≤ N) : ∀ {rs : List Ru}, (∀ r ∈ rs, ru_ok r) → 0 ≤ fo v k d rs ∧ fo v k d rs ≤ N
  | [], _ => hd
  | r :: l, h => by
    rw [fo]
    have h1 := (h r List.mem_cons_self).2.1
    have h2 := fo_bd (v := v) (k := k) hd hN (rs := l) (fun x hx => h x (List.mem_cons_of_mem _ hx))
    split
    · omega
    · exact h2
theorem ru_k_inj : ∀ a, a ≤ 7 → ∀ b, b ≤ 7 → ru_k a = ru_k b → a = b := by
  intro a ha b hb
  have h1 : a = 0 ∨ a = 1 ∨ a = 2 ∨ a = 3 ∨ a = 4 ∨ a = 5 ∨ a = 6 ∨ a = 7 := by omega
  have h2 : b = 0 ∨ b = 1 ∨ b = 2 ∨ b = 3 ∨ b = 4 ∨ b = 5 ∨ b = 6 ∨ b = 7 := by omega
  rcases h1 with rfl | rfl | rfl | rfl | rfl | rfl | rfl | rfl <;> rcases h2 with rfl | rfl | rfl | rfl | rfl | rfl | rfl | rfl <;> decide
theorem ru_k_w : ∀ a, a ≤ 7 → w32 (ru_k a) = ru_k a := by
  intro a ha
  have h1 : a = 0 ∨ a = 1 ∨ a = 2 ∨ a = 3 ∨ a = 4 ∨ a = 5 ∨ a = 6 ∨ a = 7 := by omega
  rcases h1 with rfl | rfl | rfl | rfl | rfl | rfl | rfl | rfl <;> exact w32_id (by decide) (by decide)
theorem drop_at {rs : List Ru} {i : Nat} (h : i < rs.length) : ∃ r, rs[i]? = some r ∧ rs.drop i = r :: rs.drop (i + 1) ∧ r ∈ rs := ⟨rs[i], List.getElem?_eq_getElem h, List.drop_eq_getElem_cons h, List.getElem_mem h⟩
theorem ru_firstOf_ok {q A k : Nat} {rs : List Ru} {v : Nat → Int} {N d : Int} (hq : ru_cell q) (hA : kd L A = 20) (hC : ru_C s q rs) (hl : rs.length ≤ 24) (ht : ru_at rs rs.length ≤ 300) (hok : ∀ r ∈ rs, ru_ok r) (ha : asC s A v) (hv : VB v N) (hN : N < 2147483648) (hk : k ≤ 7) : ru_firstOf L q (ru_k k) A d s = ok L (fo v k d rs) s := by
  obtain ⟨⟨p4, p5, p6, p7⟩, ⟨k1, k2, k3, k4⟩, ⟨l1, l2, l3, l4⟩⟩ := ru_sh (L := L) hq
  have kq := ru_kd (L := L) hq
  rw [ru_firstOf_eq]
  have key : ∀ (j i : Nat), i + j = rs.length → ru_firstOf_b1 L q (ru_k k) A d (i : Int) s = ok L (fo v k d (rs.drop i)) s := by
    intro j
    induction j with
    | zero =>
      intro i e
      rw [Nat.add_zero] at e
      subst e
      rw [ru_firstOf_b1_eq, if_pos kq, hC.1, if_neg (by omega), List.drop_length, fo]
    | succ j ih =>
      intro i e
      obtain ⟨r, r1, r2, r3⟩ := drop_at (rs := rs) (i := i) (by omega)
      obtain ⟨c1, c2, c3, c4⟩ := hC.2 i r r1
      have hin : (0 : Int) ≤ (i : Int) ∧ (i : Int) < ((24 : Nat) : Int) := by omega
      rw [ru_firstOf_b1_eq, if_pos kq, hC.1, if_pos (by rw [w32_id (by omega) (by omega), w32_id (by omega) (by omega)]; omega), if_pos kq, p4, if_pos k1, l1, if_pos hin, Int.toNat_natCast, c1, ru_k_w _ (hok r r3).1, ru_k_w _ hk, r2, fo]
      by_cases e1 : r.1 = k
      · rw [if_pos (by rw [e1]), if_pos kq, ru_holds_ok hq hA hC hl ht r1 (hok r r3) ha hv hN, ok_bind]
        dsimp only
        cases e2 : rtr v r.2.2
        · rw [if_pos (show w32 ((false.toNat : Nat) : Int) = 0 from w32_0), if_neg (fun z => absurd z.2 (by decide))]
          exact ih (i + 1) (by omega)
        · rw [if_neg (show ¬ w32 ((true.toNat : Nat) : Int) = 0 by rw [show w32 ((true.toNat : Nat) : Int) = 1 from w32_1]; decide), if_pos kq, p5, if_pos k2, l2, if_pos hin, c2, if_pos ⟨e1, rfl⟩]
      · rw [if_neg (fun z => e1 (ru_k_inj _ (hok r r3).1 _ hk z)), if_neg (fun z => e1 z.1)]
        exact ih (i + 1) (by omega)
  have k0 := key rs.length 0 (by omega)
  rw [List.drop_zero] at k0
  exact k0
theorem md_first_ok {t k : Nat} {fs : List Ru} {v : Nat → Int} {N d : Int} (ht16 : t < 16) (hM : ru_M s t fs) (hl : fs.length ≤ 24) (ht : ru_at fs fs.length ≤ 300) (hok : ∀ r ∈ fs, ru_ok r) (ha : asM s v) (hv : VB v N) (hN : N < 2147483648) (hk : k ≤ 7) : ∃ u, md_first L (t : Int) (k : Int) d s = ok L (fo v k d fs) u ∧ F9 s u := by
  rw [md_first_eq]
  have key : ∀ (j i : Nat) (u : hh_Sv), i + j = fs.length → F9 s u → ∃ w, md_first_b1 L (t : Int) (k : Int) d ((24 * t + i : Nat) : Int) u = ok L (fo v k d (fs.drop i)) w ∧ F9 s w := by
    intro j
    induction j with
    | zero =>
      intro i u e g
      rw [Nat.add_zero] at e
      subst e
      rw [md_first_b1_eq, if_pos (by omega), Int.toNat_natCast, g _ _ (by decide), hM.1, if_neg (by rw [w32_id (by omega) (by omega), w32_id (by omega) (by omega)]; omega), List.drop_length, fo]
      exact ⟨u, rfl, g⟩
    | succ j ih =>
      intro i u e g
      obtain ⟨r, r1, r2, r3⟩ := drop_at (rs := fs) (i := i) (by omega)
      obtain ⟨c1, c2, c3, c4, c5⟩ := hM.2 i r r1
      have hro := hok r r3
      have hin : (0 : Int) ≤ ((24 * t + i : Nat) : Int) ∧ ((24 * t + i : Nat) : Int) < 408 := by omega
      have hMu : ru_M u t fs := hM.eqv ht16 hl ht (g _ _ (by decide)) (fun k j _ _ _ => g _ _ (by omega)) (fun k j _ _ _ => g _ _ (by omega))
      rw [md_first_b1_eq, if_pos (by omega), Int.toNat_natCast, if_pos (by rw [g _ _ (by decide), hM.1, w32_id (by omega) (by omega), w32_id (by omega) (by omega)]; omega), if_pos hin, Int.toNat_natCast, g _ _ (by decide), c1, w32_id (i := (r.1 : Int)) (by omega) (by have := hro.1; omega), w32_id (i := (k : Int)) (by omega) (by omega), r2, fo]
      by_cases e1 : r.1 = k
      · obtain ⟨w, w1, w2⟩ := md_isTrue_ok (L := L) ht16 hMu hl ht r1 hro (fun k hk => by rw [g _ _ (by decide)]; exact ha k hk) hv hN
        rw [if_pos (by omega), w1, ok_bind]
        dsimp only
        have g2 : F9 s w := fun a b hn => (w2 a b hn).trans (g a b hn)
        cases e2 : rtr v r.2.2
        · rw [if_pos (show w32 ((false.toNat : Nat) : Int) = 0 from w32_0), if_neg (fun z => absurd z.2 (by decide))]
          exact ih (i + 1) w (by omega) g2
        · rw [if_neg (show ¬ w32 ((true.toNat : Nat) : Int) = 0 by rw [show w32 ((true.toNat : Nat) : Int) = 1 from w32_1]; decide), if_pos hin, g2 _ _ (by decide), c2, if_pos ⟨e1, rfl⟩]
          exact ⟨w, rfl, g2⟩
      · rw [if_neg (by omega), if_neg (fun z => e1 z.1)]
        exact ih (i + 1) u (by omega) g
  have k0 := key fs.length 0 s (by omega) (fun _ _ _ => rfl)
  rw [List.drop_zero, Nat.add_zero] at k0
  exact k0
end
