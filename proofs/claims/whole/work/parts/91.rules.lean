/-! rules, in both -/
theorem ru_sh0 : ((SHf 0 18).2.2.getD 4 0 = 19 ∧ (SHf 0 18).2.2.getD 5 0 = 20 ∧ (SHf 0 18).2.2.getD 6 0 = 21 ∧ (SHf 0 18).2.2.getD 7 0 = 22) ∧ ((SHf 0 19).1 = 0 ∧ (SHf 0 20).1 = 0 ∧ (SHf 0 21).1 = 0 ∧ (SHf 0 22).1 = 0) ∧ ((SHf 0 19).2.1 = 24 ∧ (SHf 0 20).2.1 = 24 ∧ (SHf 0 21).2.1 = 24 ∧ (SHf 0 22).2.1 = 300) := by decide +kernel
theorem ru_sh1 : ∀ i, i < 16 → ((SHf 0 (90 + 5 * i)).2.2.getD 4 0 = 90 + 5 * i + 1 ∧ (SHf 0 (90 + 5 * i)).2.2.getD 5 0 = 90 + 5 * i + 2 ∧ (SHf 0 (90 + 5 * i)).2.2.getD 6 0 = 90 + 5 * i + 3 ∧ (SHf 0 (90 + 5 * i)).2.2.getD 7 0 = 90 + 5 * i + 4) ∧ ((SHf 0 (90 + 5 * i + 1)).1 = 0 ∧ (SHf 0 (90 + 5 * i + 2)).1 = 0 ∧ (SHf 0 (90 + 5 * i + 3)).1 = 0 ∧ (SHf 0 (90 + 5 * i + 4)).1 = 0) ∧ ((SHf 0 (90 + 5 * i + 1)).2.1 = 24 ∧ (SHf 0 (90 + 5 * i + 2)).2.1 = 24 ∧ (SHf 0 (90 + 5 * i + 3)).2.1 = 24 ∧ (SHf 0 (90 + 5 * i + 4)).2.1 = 300) := by decide +kernel
section
variable {L : Nat} {s : hh_Sv}
theorem ru_sh {q : Nat} (h : ru_cell q) : (pf L q 4 = q + 1 ∧ pf L q 5 = q + 2 ∧ pf L q 6 = q + 3 ∧ pf L q 7 = q + 4) ∧ (kd L (q + 1) = 0 ∧ kd L (q + 2) = 0 ∧ kd L (q + 3) = 0 ∧ kd L (q + 4) = 0) ∧ (ln L (q + 1) = 24 ∧ ln L (q + 2) = 24 ∧ ln L (q + 3) = 24 ∧ ln L (q + 4) = 300) := by
  unfold kd pf ln
  have hq : 8 ≤ q := by have := h.ge; omega
  rw [in_shL (k := q) hq, in_shL (k := q + 1) (by omega), in_shL (k := q + 2) (by omega), in_shL (k := q + 3) (by omega), in_shL (k := q + 4) (by omega)]
  rcases h with rfl | ⟨i, h1, rfl⟩
  · exact ru_sh0
  · exact ru_sh1 i h1
/-- the class's cell A, the reference's, hold what is asked -/
def asC (s : hh_Sv) (A : Nat) (v : Nat → Int) : Prop := s A 0 = v 0 ∧ s A 1 = v 1 ∧ s A 2 = v 2 ∧ s A 3 = v 3 ∧ s A 5 = v 4 ∧ s A 6 = v 5 ∧ s A 4 = v 6
def asM (s : hh_Sv) (v : Nat → Int) : Prop := ∀ k, k < 7 → s 262 k = v k
def VB (v : Nat → Int) (N : Int) : Prop := ∀ k, k < 7 → 0 ≤ v k ∧ v k ≤ N
theorem as_wordOf_ok {A k : Nat} {v : Nat → Int} (hA : kd L A = 20) (ha : asC s A v) (hk : k ≤ 6) : as_wordOf L A (cd_w k) s = ok L (v k) s := by
  obtain ⟨a0, a1, a2, a3, a4, a5, a6⟩ := ha
  have hk : k = 0 ∨ k = 1 ∨ k = 2 ∨ k = 3 ∨ k = 4 ∨ k = 5 ∨ k = 6 := by omega
  rw [as_wordOf_eq]
  rcases hk with rfl | rfl | rfl | rfl | rfl | rfl | rfl
  · rw [show w32 (cd_w 0) = 6 from w32_id (by decide) (by decide), if_neg (by decide), if_neg (by decide), if_neg (by decide), if_pos rfl, if_pos hA, a0]
  · rw [show w32 (cd_w 1) = 7 from w32_id (by decide) (by decide), if_neg (by decide), if_neg (by decide), if_neg (by decide), if_neg (by decide), if_pos rfl, if_pos hA, a1]
  · rw [show w32 (cd_w 2) = 5 from w32_id (by decide) (by decide), if_neg (by decide), if_neg (by decide), if_pos rfl, if_pos hA, a2]
  · rw [show w32 (cd_w 3) = 8 from w32_id (by decide) (by decide), if_neg (by decide), if_neg (by decide), if_neg (by decide), if_neg (by decide), if_neg (by decide), if_pos rfl, if_pos hA, a3]
  · rw [show w32 (cd_w 4) = 3 from w32_id (by decide) (by decide), if_pos rfl, if_pos hA, a4]
  · rw [show w32 (cd_w 5) = 4 from w32_id (by decide) (by decide), if_neg (by decide), if_pos rfl, if_pos hA, a5]
  · rw [show w32 (cd_w 6) = 9 from w32_id (by decide) (by decide), if_neg (by decide), if_neg (by decide), if_neg (by decide), if_neg (by decide), if_neg (by decide), if_neg (by decide), if_pos hA, a6]
theorem cd_wn : ∀ k, k ≤ 6 → 0 ≤ cd_w k ∧ cd_w k ≤ 9 ∧ 3 ≤ cd_w k := fun k hk => by
  have hk : k = 0 ∨ k = 1 ∨ k = 2 ∨ k = 3 ∨ k = 4 ∨ k = 5 ∨ k = 6 := by omega
  rcases hk with rfl | rfl | rfl | rfl | rfl | rfl | rfl <;> decide
theorem cd_gn : ∀ k, k ≤ 2 → 0 ≤ cd_g k ∧ cd_g k ≤ 62 := fun k hk => by
  have hk : k = 0 ∨ k = 1 ∨ k = 2 := by omega
  rcases hk with rfl | rfl | rfl <;> decide
theorem cd_n2 {c : Cd} (h : c.1 ≤ 2) : cd_n c = cd_w c.2.1 * 16384 + cd_g c.1 * 128 + c.2.2 := by
  obtain ⟨a, b⟩ := c
  have h : a ≤ 2 := h
  have hk : a = 0 ∨ a = 1 ∨ a = 2 := by omega
  rcases hk with rfl | rfl | rfl <;> rfl
/-- a code's three parts -/
theorem cd_parts {c : Cd} (hc : cd_ok c) (h : c.1 ≤ 2) : iShr (cd_n c) 14 = cd_w c.2.1 ∧ bAnd (iShr (cd_n c) 7) 127 = cd_g c.1 ∧ bAnd (cd_n c) 127 = (c.2.2 : Int) ∧ 49152 ≤ cd_n c ∧ cd_n c < 200000 := by
  have hw := cd_wn c.2.1 hc.2.1
  have hg := cd_gn c.1 h
  have hn := hc.2.2
  obtain ⟨W, eW⟩ := Int.eq_ofNat_of_zero_le hw.1
  obtain ⟨G, eG⟩ := Int.eq_ofNat_of_zero_le hg.1
  have e : cd_n c = ((W * 16384 + G * 128 + c.2.2 : Nat) : Int) := by rw [cd_n2 h, eW, eG]; omega
  rw [eW] at hw ⊢
  rw [eG] at hg ⊢
  have a127 : ∀ x : Nat, x < 9223372036854775808 → bAnd (x : Int) 127 = ((x % 128 : Nat) : Int) := fun x hx => by
    have q : bAnd (x : Int) ((127 : Nat) : Int) = ((x &&& 127 : Nat) : Int) := bAnd_nat hx (by decide)
    rw [show (127 : Nat) = 2 ^ 7 - 1 from rfl, Nat.and_two_pow_sub_one_eq_mod] at q
    exact q
  rw [e]
  refine ⟨?_, ?_, ?_, by omega, by omega⟩
  · rw [iShr_nat (b := 14) (k := 14) (by omega) rfl (by decide)]
    congr 1
    omega
  · rw [iShr_nat (b := 7) (k := 7) (by omega) rfl (by decide), a127 _ (by omega)]
    congr 1
    omega
  · rw [a127 _ (by omega)]
    congr 1
    omega
theorem as_meets_ok {A : Nat} {v : Nat → Int} {c : Cd} {N : Int} (hA : kd L A = 20) (ha : asC s A v) (hv : VB v N) (hN : N < 2147483648) (hc : cd_ok c) (h : c.1 ≤ 2) : as_meets L A (cd_n c) s = ok L ((cmpv v c).toNat : Nat) s := by
  obtain ⟨p1, p2, p3, -, -⟩ := cd_parts hc h
  have hb := hv c.2.1 (by have := hc.2.1; omega)
  have hn := hc.2.2
  have e1 : w32 (v c.2.1) = v c.2.1 := w32_id (by omega) (by omega)
  have e2 : w32 (c.2.2 : Int) = (c.2.2 : Int) := w32_id (by omega) (by omega)
  rw [as_meets_eq, if_pos hA, p1, as_wordOf_ok hA ha hc.2.1, ok_bind, p2, p3]
  dsimp only
  rw [e1, e2]
  have hk : c.1 = 0 ∨ c.1 = 1 ∨ c.1 = 2 := by omega
  rcases hk with k | k | k
  · have ec : cmpv v c = decide (v c.2.1 < (c.2.2 : Int)) := by unfold cmpv; rw [if_pos k]
    rw [ec, k, show w32 (cd_g 0) = 60 from w32_id (by decide) (by decide), if_pos rfl]
    by_cases q : v c.2.1 < (c.2.2 : Int)
    · rw [if_pos q, decide_eq_true q]; rfl
    · rw [if_neg q, decide_eq_false q]; rfl
  · have ec : cmpv v c = decide ((c.2.2 : Int) < v c.2.1) := by unfold cmpv; rw [if_neg (by omega), if_pos k]
    rw [ec, k, show w32 (cd_g 1) = 62 from w32_id (by decide) (by decide), if_neg (by decide), if_pos rfl]
    by_cases q : (c.2.2 : Int) < v c.2.1
    · rw [if_pos q, decide_eq_true q]; rfl
    · rw [if_neg q, decide_eq_false q]; rfl
  · have ec : cmpv v c = decide (v c.2.1 = (c.2.2 : Int)) := by unfold cmpv; rw [if_neg (by omega), if_neg (by omega)]
    rw [ec, k, show w32 (cd_g 2) = 61 from w32_id (by decide) (by decide), if_neg (by decide), if_neg (by decide)]
    by_cases q : v c.2.1 = (c.2.2 : Int)
    · rw [if_pos q, decide_eq_true q]; rfl
    · rw [if_neg q, decide_eq_false q]; rfl
def topb : List Bool → Bool
  | b :: _ => b
  | [] => true
theorem rtr_top {v : Nat → Int} {l : List Cd} : rtr v l = topb (stps v l []) := by
  unfold rtr topb
  cases stps v l [] <;> rfl
theorem enc_top {st : List Bool} (h : st.length ≤ 40) : bAnd ((enc st : Nat) : Int) 1 = (((topb st).toNat : Nat) : Int) := by
  have hl := enc_lt st
  have hp : 2 ^ (st.length + 1) ≤ 2 ^ 41 := Nat.pow_le_pow_right (by decide) (by omega)
  have q : bAnd ((enc st : Nat) : Int) ((1 : Nat) : Int) = ((enc st &&& 1 : Nat) : Int) := bAnd_nat (by omega) (by decide)
  have r : enc st &&& 1 = (topb st).toNat := by
    cases st with
    | nil => rfl
    | cons b st => rw [enc, e_and1]; rfl
  rw [r] at q
  exact q
theorem ru_holds_ok {q A i : Nat} {rs : List Ru} {r : Ru} {v : Nat → Int} {N : Int} (hq : ru_cell q) (hA : kd L A = 20) (hC : ru_C s q rs) (hl : rs.length ≤ 24) (ht : ru_at rs rs.length ≤ 300) (hr : rs[i]? = some r) (hok : ru_ok r) (ha : asC s A v) (hv : VB v N) (hN : N < 2147483648) : ru_holds L q (i : Int) A s = ok L (((rtr v r.2.2).toNat : Nat) : Int) s := by
  obtain ⟨⟨p4, p5, p6, p7⟩, ⟨k1, k2, k3, k4⟩, ⟨l1, l2, l3, l4⟩⟩ := ru_sh (L := L) hq
  have kq := ru_kd (L := L) hq
  obtain ⟨c1, c2, c3, c4⟩ := hC.2 i r hr
  have hi : i < rs.length := (List.getElem?_eq_some_iff.mp hr).1
  have hat := ru_at_succ hr
  have htl := @ru_at_le rs (i + 1)
  have hin : (0 : Int) ≤ (i : Int) ∧ (i : Int) < ((24 : Nat) : Int) := by omega
  have key : ∀ (l : List Cd) (st : List Bool) (n : Nat), (∀ (j : Nat) (c : Cd), l[j]? = some c → r.2.2[n + j]? = some c) → n + l.length = r.2.2.length → st.length ≤ 40 → (∃ m, cd_d l st.length = some m) → ru_holds_b3 L q (i : Int) A ((enc st : Nat) : Int) ((ru_at rs i + n : Nat) : Int) s = ok L (((topb (stps v l st)).toNat : Nat) : Int) s := by
    intro l
    induction l with
    | nil =>
      intro st n h1 h2 h3 h4
      rw [List.length_nil, Nat.add_zero] at h2
      rw [ru_holds_b3_eq, if_pos kq, p6, if_pos k3, l3, if_pos hin, Int.toNat_natCast, c3, if_neg (by rw [w32_id (by omega) (by omega), w32_id (by omega) (by omega)]; omega), enc_top h3, stps]
      cases topb st
      · rw [if_neg (fun z => by have := lCmp_eq.mp z; rw [w64_id (by decide) (by decide), w64_id (by decide) (by decide)] at this; exact absurd this (by decide))]; rfl
      · rw [if_pos (show w32 (lCmp ((true.toNat : Nat) : Int) 1) = 0 from lCmp_eq.mpr rfl)]; rfl
    | cons c l ih =>
      intro st n h1 h2 h3 ⟨m, h4⟩
      rw [List.length_cons] at h2
      have hcm : r.2.2[n]? = some c := h1 0 c rfl
      have hco : cd_ok c := hok.2.2.1 c (List.mem_of_getElem? hcm)
      obtain ⟨d1, d2, d3, d4⟩ := stp_len (v := v) hco.1 h4
      have ecode : s (q + 4) (ru_at rs i + n) = cd_n c := c4 n c hcm
      have hin2 : (0 : Int) ≤ ((ru_at rs i + n : Nat) : Int) ∧ ((ru_at rs i + n : Nat) : Int) < ((300 : Nat) : Int) := by omega
      have hnext : ∀ st2 : List Bool, st2 = stp v c st → st2.length ≤ 40 → ru_holds_b3 L q (i : Int) A ((enc st2 : Nat) : Int) (((ru_at rs i + n : Nat) : Int) + 1) s = ok L (((topb (stps v (c :: l) st)).toNat : Nat) : Int) s := fun st2 e2 hl2 => by
        have := ih st2 (n + 1) (fun j c' hj => by
          have := h1 (j + 1) c' hj
          rw [show n + 1 + j = n + (j + 1) by omega]
          exact this) (by omega) hl2 ⟨m, by rw [e2]; exact d1⟩
        rw [stps, ← e2]
        exact this
      have hel := enc_lt st
      have hep : 2 ^ (st.length + 1) ≤ 2 ^ 41 := Nat.pow_le_pow_right (by decide) (by omega)
      rw [ru_holds_b3_eq, if_pos kq, p6, if_pos k3, l3, if_pos hin, Int.toNat_natCast, c3, if_pos (by rw [w32_id (by omega) (by omega), w32_id (by omega) (by omega)]; omega), if_pos kq, p7, if_pos k4, l4, if_pos hin2, Int.toNat_natCast, ecode]
      have hk : c.1 ≤ 2 ∨ c.1 = 3 ∨ c.1 = 4 ∨ c.1 = 5 := by have := hco.1; omega
      rcases hk with k | k | k | k
      · obtain ⟨-, -, -, b1, b2⟩ := cd_parts hco k
        have ew : w32 (cd_n c) = cd_n c := w32_id (by omega) (by omega)
        have hst : stp v c st = cmpv v c :: st := by unfold stp; rw [if_pos k]
        have hnx := hnext (cmpv v c :: st) hst.symm (by rw [List.length_cons]; have := d2 k; omega)
        rw [enc] at hnx
        rw [ew, if_neg (by omega), if_neg (by omega), if_neg (by omega), if_pos hA, as_meets_ok hA ha hv hN hco k, ok_bind]
        dsimp only
        rw [← hnx]
        cases cmpv v c
        · rw [if_pos (show w32 ((false.toNat : Nat) : Int) = 0 from w32_0), ru_holds_b8_eq, show w32 0 = ((false.toNat : Nat) : Int) from w32_0, e_push (by omega)]
        · rw [if_neg (show ¬ w32 ((true.toNat : Nat) : Int) = 0 by rw [show w32 ((true.toNat : Nat) : Int) = 1 from w32_1]; decide), ru_holds_b8_eq, show w32 1 = ((true.toNat : Nat) : Int) from w32_1, e_push (by omega)]
      · have ec : cd_n c = 19 := by unfold cd_n; rw [k]; rfl
        obtain ⟨x, y, r2, rfl⟩ := d4 (by omega) (by omega)
        have hst : stp v c (x :: y :: r2) = (y || x) :: r2 := by unfold stp; rw [if_neg (by omega), if_neg (by omega)]; show (if c.1 = 3 then (y || x) else (y && x)) :: r2 = _; rw [if_pos k]
        rw [List.length_cons, List.length_cons] at h3
        have hnx := hnext ((y || x) :: r2) hst.symm (by rw [List.length_cons]; omega)
        have hel2 := enc_lt r2
        have hep2 : 2 ^ (r2.length + 1) ≤ 2 ^ 39 := Nat.pow_le_pow_right (by decide) (by omega)
        rw [ec, show w32 19 = 19 from w32_id (by decide) (by decide), if_neg (by decide), if_neg (by decide), if_pos rfl, enc, enc, e_or (by omega)]
        exact hnx
      · have ec : cd_n c = 18 := by unfold cd_n; rw [k]; rfl
        obtain ⟨x, y, r2, rfl⟩ := d4 (by omega) (by omega)
        have hst : stp v c (x :: y :: r2) = (y && x) :: r2 := by unfold stp; rw [if_neg (by omega), if_neg (by omega)]; show (if c.1 = 3 then (y || x) else (y && x)) :: r2 = _; rw [if_neg (by omega)]
        rw [List.length_cons, List.length_cons] at h3
        have hnx := hnext ((y && x) :: r2) hst.symm (by rw [List.length_cons]; omega)
        have hel2 := enc_lt r2
        have hep2 : 2 ^ (r2.length + 1) ≤ 2 ^ 39 := Nat.pow_le_pow_right (by decide) (by omega)
        rw [ec, show w32 18 = 18 from w32_id (by decide) (by decide), if_neg (by decide), if_pos rfl, enc, enc, e_and (by omega)]
        exact hnx
      · have ec : cd_n c = 20 := by unfold cd_n; rw [k]; rfl
        obtain ⟨b, r2, rfl⟩ := d3 k
        have hst : stp v c (b :: r2) = (!b) :: r2 := by unfold stp; rw [if_neg (by omega), if_pos k]
        rw [List.length_cons] at h3
        have hnx := hnext ((!b) :: r2) hst.symm (by rw [List.length_cons]; omega)
        have hel2 := enc_lt r2
        have hep2 : 2 ^ (r2.length + 1) ≤ 2 ^ 40 := Nat.pow_le_pow_right (by decide) (by omega)
        rw [ec, show w32 20 = 20 from w32_id (by decide) (by decide), if_pos rfl, enc, e_xor (by omega)]
        exact hnx
  have hcd : ∃ m, cd_d r.2.2 ([] : List Bool).length = some m := by
    rcases hok.2.2.2.1 with z | z
    · rw [z]; exact ⟨_, rfl⟩
    · exact ⟨1, z⟩
  have k0 := key r.2.2 [] 0 (fun j c hj => by rw [Nat.zero_add]; exact hj) (by omega) (by decide) hcd
  rw [Nat.add_zero] at k0
  rw [rtr_top, ru_holds_eq, w32_id (by omega) (by omega)]
  by_cases e0 : i = 0
  · subst e0
    rw [if_pos (by omega), ru_holds_b2_eq]
    have ez : ru_at rs 0 = 0 := rfl
    rw [ez] at k0
    exact k0
  · obtain ⟨i0, rfl⟩ : ∃ i0, i = i0 + 1 := ⟨i - 1, by omega⟩
    have hi0 : i0 < rs.length := by omega
    obtain ⟨-, -, e3, -⟩ := hC.2 i0 rs[i0] (List.getElem?_eq_getElem hi0)
    rw [if_neg (by omega), if_pos kq, p6, if_pos k3, l3, if_pos (by omega), ru_holds_b2_eq, show (((i0 + 1 : Nat) : Int) - 1).toNat = i0 by omega, e3]
    exact k0
end
