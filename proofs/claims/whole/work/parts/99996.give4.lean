/-! give: the reference plays a way -/
theorem p8 : ∀ t : Nat, t < 9 → (100 : Int) ^ t ≤ 10000000000000000 := by decide +kernel
section
variable {L : Nat} {s : hh_Sv}
def wi (p : Bool) : Nat := if p = true then 0 else 1
theorem wi_bd {p : Bool} : wi p ≤ 1 := by unfold wi; split <;> omega
def asX (u : hh_Sv) (p : Bool) (v : Nat → Int) : Prop := ∀ k, k < 7 → u 282 (7 * wi p + k) = v k
def FP (s u : hh_Sv) : Prop := ∀ k j, k ≠ 259 → k ≠ 262 → k ≠ 282 → ¬ (k = 242 ∧ j = 69) → u k j = s k j
theorem FP.rf : FP s s := fun _ _ _ _ _ _ => rfl
theorem FP.tr {u v : hh_Sv} (h1 : FP s u) (h2 : FP u v) : FP s v := fun k j a b c d => (h2 k j a b c d).trans (h1 k j a b c d)
theorem FM.p {u : hh_Sv} (h : FM s u) : FP s u := fun k j a b _ _ => h k j a b
theorem FP.q {u : hh_Sv} (h : FP s u) : Eqh s u := fun k j hn => h k j (fun e => hn (by subst e; exact ⟨by unfold scr; omega, by decide, by omega⟩)) (fun e => hn (by subst e; exact ⟨by unfold scr; omega, by decide, by omega⟩)) (fun e => hn (by subst e; exact ⟨by unfold scr; omega, by decide, by omega⟩)) (fun e => hn (by obtain ⟨rfl, rfl⟩ := e; exact ⟨by unfold scr; omega, by decide, by omega⟩))
theorem FP.w69 {u : hh_Sv} {x : Int} (h : FP s u) : FP s (up u 242 69 x) := fun k j a b c d => by
  unfold up
  rw [if_neg d]
  exact h k j a b c d
theorem FP.w282 {u : hh_Sv} {i : Nat} {x : Int} (h : FP s u) : FP s (up u 282 i x) := fun k j a b c d => by
  rw [up_k c]
  exact h k j a b c d
theorem md_fetches_ok {p : Bool} {v : Nat → Int} (h : asX s p v) : ∃ u, md_fetches L ((wi p : Nat) : Int) s = ok L 0 u ∧ FM s u ∧ asM u v := by
  have hw := wi_bd (p := p)
  rw [md_fetches_eq]
  refine lp_st (n := 7) (fun z u => md_fetches_b1 L ((wi p : Nat) : Int) z u) (fun i u => FM s u ∧ ∀ k, k < i → u 262 k = v k) (fun r => ∃ u, r = ok L 0 u ∧ FM s u ∧ asM u v) ?_ ?_ 7 0 s (by omega) ⟨FM.rf, fun k hk => by omega⟩
  · intro i u hi ⟨g, q⟩
    refine ⟨up u 262 i (v i), ⟨g.up, fun k hk => ?_⟩, ?_⟩
    · by_cases e : k = i
      · rw [e, up_s]
      · rw [up_j e]
        exact q k (by omega)
    · show md_fetches_b1 L ((wi p : Nat) : Int) (i : Int) u = md_fetches_b1 L ((wi p : Nat) : Int) ((i : Int) + 1) (up u 262 i (v i))
      have e1 : u 282 (7 * ((wi p : Nat) : Int) + (i : Int)).toNat = v i := by
        rw [show (7 * ((wi p : Nat) : Int) + (i : Int)).toNat = 7 * wi p + i by omega, g _ _ (by decide) (by decide)]
        exact h i hi
      rw [md_fetches_b1_eq, if_pos (by rw [w32_id (by omega) (by omega)]; omega), if_pos (by omega), if_pos (by omega), e1, Int.toNat_natCast]
  · intro u ⟨g, q⟩
    refine ⟨u, ?_, g, q⟩
    show md_fetches_b1 L ((wi p : Nat) : Int) ((7 : Nat) : Int) u = ok L 0 u
    rw [md_fetches_b1_eq, if_neg (by rw [w32_id (by decide) (by decide)]; decide)]
theorem md_has_ok {x k : Nat} (hx : x < 2147483648) (hk : k < 32) : md_has L (x : Int) (k : Int) s = ok L (((x.testBit k).toNat : Nat) : Int) s := by
  have hb := bt_01 x k
  rw [md_has_eq, bit_at hx rfl hk, w32_id (by omega) (by omega), tb_bt]
  by_cases e : bt x k = 1
  · rw [if_pos (by omega), e]
    rfl
  · rw [if_neg (by omega), show bt x k = 0 by omega]
    rfl
/-- back into the pair -/
theorem md_plays_14 {a1 a2 l3 l4 l5 l6 l7 : Int} {p : Bool} {v : Nat → Int} {w : Bool → Nat → Int} (h : asM s v) (hw : ∀ o, o ≠ p → asX s o (w o)) : ∃ u, FP s u ∧ u 242 69 = s 242 69 ∧ asX u p v ∧ (∀ o, o ≠ p → asX u o (w o)) ∧ md_plays_b14 L a1 a2 l3 l4 l5 l6 l7 ((wi p : Nat) : Int) 0 s = md_plays_b3 L a1 a2 l3 l4 l5 l6 (l7 + 1) u := by
  have hb := wi_bd (p := p)
  refine lp_st (n := 7) (fun z u => md_plays_b14 L a1 a2 l3 l4 l5 l6 l7 ((wi p : Nat) : Int) z u) (fun i u => (∀ k j, k ≠ 282 → u k j = s k j) ∧ (∀ k, k < i → u 282 (7 * wi p + k) = v k) ∧ ∀ o, o ≠ p → asX u o (w o)) (fun r => ∃ u, FP s u ∧ u 242 69 = s 242 69 ∧ asX u p v ∧ (∀ o, o ≠ p → asX u o (w o)) ∧ r = md_plays_b3 L a1 a2 l3 l4 l5 l6 (l7 + 1) u) ?_ ?_ 7 0 s (by omega) ⟨fun _ _ _ => rfl, fun k hk => by omega, hw⟩
  · intro i u hi ⟨g, q, q2⟩
    refine ⟨up u 282 (7 * wi p + i) (v i), ⟨fun k j hk => ?_, fun k hk => ?_, fun o ho k hk => ?_⟩, ?_⟩
    · rw [up_k hk]
      exact g k j hk
    · by_cases e : k = i
      · rw [e, up_s]
      · rw [up_j (by omega)]
        exact q k (by omega)
    · have e : wi o ≠ wi p := fun e => ho (by
        revert e
        unfold wi
        cases o <;> cases p <;> first | exact fun _ => rfl | exact fun e => absurd e (by decide))
      have ho1 := wi_bd (p := o)
      rw [up_j (by omega)]
      exact q2 o ho k hk
    · show md_plays_b14 L a1 a2 l3 l4 l5 l6 l7 ((wi p : Nat) : Int) (i : Int) u = md_plays_b14 L a1 a2 l3 l4 l5 l6 l7 ((wi p : Nat) : Int) ((i : Int) + 1) (up u 282 (7 * wi p + i) (v i))
      have e1 : u 262 i = v i := by rw [g _ _ (by decide)]; exact h i hi
      rw [md_plays_b14_eq, if_pos (by rw [w32_id (by omega) (by omega)]; omega), if_pos (by omega), if_pos (by omega), Int.toNat_natCast, e1, show (7 * ((wi p : Nat) : Int) + (i : Int)).toNat = 7 * wi p + i by omega]
  · intro u ⟨g, q, q2⟩
    refine ⟨u, fun k j _ _ h3 _ => g k j h3, g _ _ (by decide), q, q2, ?_⟩
    show md_plays_b14 L a1 a2 l3 l4 l5 l6 l7 ((wi p : Nat) : Int) ((7 : Nat) : Int) u = _
    rw [md_plays_b14_eq, if_neg (by rw [w32_id (by decide) (by decide)]; decide)]
theorem md_plays_who {A : Bool → Nat} {N t : Nat} {K m w : Int} {st : Bool → Nat → Int} (hA : ∀ p, A p < 12) (hN : N ≤ 8) (hK : 0 ≤ K ∧ K ≤ 5) (ht : t < N) (hb : GB st t) (ha : ∀ p, asX s p (st p)) (hc : 0 < w32 (lCmp (s 242 69) 0)) : md_plays_b3 L (A true : Nat) (A false : Nat) (N : Nat) K m w (t : Nat) s = md_plays_b9 L (A true : Nat) (A false : Nat) (N : Nat) K m w (t : Nat) (((gG K st).toNat : Nat) : Int) ((wi (gO K st t) : Nat) : Int) (A (gO K st t) : Nat) s := by
  have h0 : s 282 0 = st true 0 := ha true 0 (by decide)
  have hv0 := (hb true).1 0 (by decide)
  have b7 : ∀ o : Bool, md_plays_b7 L (A true : Nat) (A false : Nat) (N : Nat) K m w (t : Nat) (((gG K st).toNat : Nat) : Int) ((wi o : Nat) : Int) s = md_plays_b9 L (A true : Nat) (A false : Nat) (N : Nat) K m w (t : Nat) (((gG K st).toNat : Nat) : Int) ((wi o : Nat) : Int) (A o : Nat) s := fun o => by
    rw [md_plays_b7_eq]
    cases o
    · rw [if_neg (show ¬ w32 ((wi false : Nat) : Int) = 0 from bw_t)]
    · rw [if_pos (show w32 ((wi true : Nat) : Int) = 0 from bw_f)]
  rw [← b7]
  have b5 : md_plays_b5 L (A true : Nat) (A false : Nat) (N : Nat) K m w (t : Nat) (((gG K st).toNat : Nat) : Int) s = md_plays_b7 L (A true : Nat) (A false : Nat) (N : Nat) K m w (t : Nat) (((gG K st).toNat : Nat) : Int) ((wi (gO K st t) : Nat) : Int) s := by
    rw [md_plays_b5_eq]
    by_cases eg : gG K st = false
    · have eo : gO K st t = decide (t % 2 = 0) := by unfold gO; rw [eg]; rfl
      have e2 : tMod (w32 (t : Int)) 2 = ((wi (gO K st t) : Nat) : Int) := by
        rw [w32_id (by omega) (by omega), tMod_nn (by omega) (by decide), eo]
        unfold wi
        by_cases q : t % 2 = 0
        · rw [decide_eq_true q, if_pos rfl]; omega
        · rw [decide_eq_false q, if_neg (by decide)]; omega
      rw [if_pos (bz.mpr eg), e2]
    · have eg2 : gG K st = true := by cases q : gG K st; exact absurd q eg; rfl
      have eo : gO K st t = true := by unfold gO; rw [eg2]; rfl
      rw [if_neg (fun q => eg (bz.mp q)), eo]
      rfl
  rw [← b5, md_plays_b3_eq, if_pos (by rw [w32_id (by omega) (by omega), w32_id (by omega) (by omega)]; omega), if_pos hc, w32_id (i := K) (by omega) (by omega)]
  by_cases eK : 0 < K
  · rw [if_pos eK, if_pos (by decide)]
    by_cases e : K ≤ st true 0
    · have eg : gG K st = true := decide_eq_true ⟨eK, e⟩
      rw [if_neg (by rw [h0, w32_id (by omega) (by omega)]; omega), eg]
      rfl
    · have eg : gG K st = false := decide_eq_false (fun q => e q.2)
      rw [if_pos (by rw [h0, w32_id (by omega) (by omega)]; omega), md_plays_b4_eq, eg]
      rfl
  · have eg : gG K st = false := decide_eq_false (fun q => eK q.1)
    rw [if_neg eK, md_plays_b4_eq, eg]
    rfl
end
