/-! trials: chances by pairs -/
/-- (hot, cold) behind t + 1 throws, with k pairs -/
def dp (p u d : Int) : Nat → Nat → Int × Int
  | 0, k => if k = 0 then (p, 10 - p) else (0, 0)
  | t + 1, k => ((dp p u d t k).2 * d + (if 0 < k then (dp p u d t (k - 1)).1 * u else 0), (dp p u d t k).2 * (10 - d) + (dp p u d t k).1 * (10 - u))
theorem dp_0 {p u d : Int} : ∀ (t k : Nat), t < k → dp p u d t k = (0, 0)
  | 0, k, h => by rw [dp, if_neg (by omega)]
  | t + 1, k, h => by rw [dp, dp_0 t k (by omega), dp_0 t (k - 1) (by omega)]; simp
theorem dp_nn {p u d : Int} (hp : 0 ≤ p ∧ p ≤ 10) (hu : 0 ≤ u ∧ u ≤ 10) (hd : 0 ≤ d ∧ d ≤ 10) : ∀ (t k : Nat), 0 ≤ (dp p u d t k).1 ∧ 0 ≤ (dp p u d t k).2
  | 0, k => by
    rw [dp]
    split
    · exact ⟨hp.1, by show 0 ≤ 10 - p; omega⟩
    · exact ⟨by decide, by decide⟩
  | t + 1, k => by
    have h1 := dp_nn hp hu hd t k
    have h2 := dp_nn hp hu hd t (k - 1)
    rw [dp]
    have a1 := Int.mul_nonneg h1.2 hd.1
    have a2 := Int.mul_nonneg h2.1 hu.1
    have a3 := Int.mul_nonneg h1.2 (show 0 ≤ 10 - d by omega)
    have a4 := Int.mul_nonneg h1.1 (show 0 ≤ 10 - u by omega)
    constructor
    · show 0 ≤ (dp p u d t k).2 * d + (if 0 < k then (dp p u d t (k - 1)).1 * u else 0)
      split <;> omega
    · show 0 ≤ (dp p u d t k).2 * (10 - d) + (dp p u d t k).1 * (10 - u)
      omega
/-- their sums -/
theorem dp_sum {p u d : Int} : ∀ (t m : Nat), t < m → sg (fun k => (dp p u d t k).1 + (dp p u d t k).2) m = 10 ^ (t + 1)
  | 0, m, h => by
    obtain ⟨m, rfl⟩ : ∃ x, m = x + 1 := ⟨m - 1, by omega⟩
    induction m with
    | zero =>
      show 0 + ((dp p u d 0 0).1 + (dp p u d 0 0).2) = 10
      rw [dp, if_pos rfl]
      show 0 + (p + (10 - p)) = 10
      omega
    | succ m ih =>
      rw [sg, ih (by omega)]
      rw [dp, if_neg (by omega)]
      show (10 : Int) ^ (0 + 1) + (0 + 0) = _
      omega
  | t + 1, m, h => by
    have ih := dp_sum (p := p) (u := u) (d := d) t m (by omega)
    have key : ∀ m : Nat, sg (fun k => (dp p u d (t + 1) k).1 + (dp p u d (t + 1) k).2) (m + 1) = 10 * sg (fun k => (dp p u d t k).1 + (dp p u d t k).2) (m + 1) - (dp p u d t m).1 * u := by
      intro m
      induction m with
      | zero =>
        show 0 + ((dp p u d (t + 1) 0).1 + (dp p u d (t + 1) 0).2) = 10 * (0 + ((dp p u d t 0).1 + (dp p u d t 0).2)) - (dp p u d t 0).1 * u
        rw [dp, if_neg (by omega)]
        show 0 + ((dp p u d t 0).2 * d + 0 + ((dp p u d t 0).2 * (10 - d) + (dp p u d t 0).1 * (10 - u))) = _
        rw [Int.mul_sub, Int.mul_sub]
        omega
      | succ m ihm =>
        have e2 : sg (fun k => (dp p u d t k).1 + (dp p u d t k).2) (m + 1 + 1) = sg (fun k => (dp p u d t k).1 + (dp p u d t k).2) (m + 1) + ((dp p u d t (m + 1)).1 + (dp p u d t (m + 1)).2) := rfl
        rw [sg, ihm, e2]
        rw [dp, if_pos (by omega)]
        show _ + ((dp p u d t (m + 1)).2 * d + (dp p u d t (m + 1 - 1)).1 * u + ((dp p u d t (m + 1)).2 * (10 - d) + (dp p u d t (m + 1)).1 * (10 - u))) = _
        rw [Nat.add_sub_cancel, Int.mul_sub, Int.mul_sub]
        omega
    obtain ⟨m, rfl⟩ : ∃ x, m = x + 1 := ⟨m - 1, by omega⟩
    rw [key, ih, dp_0 t m (by omega)]
    show 10 * 10 ^ (t + 1) - 0 * u = _
    rw [Int.zero_mul, Int.sub_zero, ← Int.pow_succ']
section
variable {L : Nat} {s : hh_Sv}
theorem jma_min_ok {a b : Int} (ha : I32 a) (hb : I32 b) : jma_min L a b s = ok L (if b < a then b else a) s := by
  rw [jma_min_eq, ha.w, hb.w]
  split <;> rfl
theorem jma_max_ok {a b : Int} (ha : I32 a) (hb : I32 b) : jma_max L a b s = ok L (if a < b then b else a) s := by
  rw [jma_max_eq, ha.w, hb.w]
  split <;> rfl
theorem jar_fill_ok {q N : Nat} (hk : kd L q = 3) (hl : ln L q = N) (hN : N < 10000) (h8 : 8 ≤ q) : ∃ u, jar_fill L q 0 s = ok L 0 u ∧ (∀ k j, k ≠ q → u k j = s k j) ∧ ∀ j, j < N → u q j = 0 := by
  rw [jar_fill_eq, if_pos (by rw [hk]; decide), hl]
  refine lp_st (n := N) (fun z u => jar_fill_b1 L q 0 z (N : Int) u) (fun i u => (∀ k j, k ≠ q → u k j = s k j) ∧ ∀ j, j < i → u q j = 0) (fun r => ∃ u, r = ok L 0 u ∧ (∀ k j, k ≠ q → u k j = s k j) ∧ ∀ j, j < N → u q j = 0) ?_ ?_ N 0 s (by omega) ⟨fun _ _ _ => rfl, fun j hj => by omega⟩
  · intro i u hi ⟨p1, p2⟩
    show ∃ t', _ ∧ jar_fill_b1 L q 0 (i : Int) (N : Int) u = jar_fill_b1 L q 0 ((i : Int) + 1) (N : Int) t'
    rw [jar_fill_b1_eq, if_pos (by rw [w32_id (by omega) (by omega), w32_id (by omega) (by omega)]; omega), if_pos hk, if_pos h8, hl, if_pos (by omega), Int.toNat_natCast]
    refine ⟨_, ⟨fun k j hk2 => (up_k hk2).trans (p1 k j hk2), fun j hj => ?_⟩, rfl⟩
    by_cases e : j = i
    · rw [e, up_s]
    · rw [up_j e]
      exact p2 j (by omega)
  · intro u hu
    refine ⟨u, ?_, hu⟩
    show jar_fill_b1 L q 0 (N : Int) (N : Int) u = _
    rw [jar_fill_b1_eq, if_neg (by omega)]
/-- the class's rows stand as behind t + 1 throws -/
def tr_Q (s : hh_Sv) (p u d : Int) (t : Nat) (v : hh_Sv) : Prop := (∀ k j, k ≠ 36 → k ≠ 37 → v k j = s k j) ∧ ∀ k, k < 13 → v 36 k = (dp p u d t k).1 ∧ v 37 k = (dp p u d t k).2
theorem tr_in {p u d : Int} (hu : 0 ≤ u ∧ u ≤ 10) (hd : 0 ≤ d ∧ d ≤ 10) {n t : Nat} (ht : t + 1 < 13) : ∀ (m : Nat) (v : hh_Sv), m ≤ t + 2 → (∀ k j, k ≠ 36 → k ≠ 37 → v k j = s k j) → (∀ k, k < m → v 36 k = (dp p u d t k).1 ∧ v 37 k = (dp p u d t k).2) → (∀ k, m ≤ k → k < 13 → v 36 k = (dp p u d (t + 1) k).1 ∧ v 37 k = (dp p u d (t + 1) k).2) → ∃ v', tr_lay_b2 L (n : Int) u d ((t + 1 : Nat) : Int) ((m : Int) - 1) v = tr_lay_b1 L (n : Int) u d (((t + 1 : Nat) : Int) + 1) v' ∧ tr_Q s p u d (t + 1) v'
  | 0, v, hm, g, p1, p2 => by
    refine ⟨v, ?_, g, fun k hk => p2 k (Nat.zero_le _) hk⟩
    rw [tr_lay_b2_eq, if_pos (by rw [w32_id (by omega) (by omega)]; omega)]
  | m + 1, v, hm, g, p1, p2 => by
    have e1 : ((m + 1 : Nat) : Int) - 1 = (m : Int) := by omega
    have hb4 : ∀ c : Int, c = (if 0 < m then (dp p u d t (m - 1)).1 * u else 0) → ∃ v', tr_lay_b4 L (n : Int) u d ((t + 1 : Nat) : Int) (m : Int) (v 36 m) (m : Int) (v 37 m * d) c v = tr_lay_b1 L (n : Int) u d (((t + 1 : Nat) : Int) + 1) v' ∧ tr_Q s p u d (t + 1) v' := fun c hc => by
      rw [tr_lay_b4_eq, if_pos (by omega), if_pos (by omega), if_pos (by omega), Int.toNat_natCast, w32_id (by omega) (by omega), w32_id (by omega) (by omega), show (m : Int) + (-1) = (m : Int) - 1 by omega]
      obtain ⟨q1, q2⟩ := p1 m (by omega)
      refine tr_in hu hd ht m _ (by omega) (fun k j h1 h2 => ?_) (fun k hk => ?_) (fun k h1 h2 => ?_)
      · rw [up_k h2, up_k h1]
        exact g k j h1 h2
      · rw [up_k (by decide), up_j (by omega), up_j (by omega), up_k (by decide)]
        exact p1 k (by omega)
      · by_cases ek : k = m
        · subst ek
          rw [up_k (by decide), up_s, up_s, q1, q2, hc]
          exact ⟨rfl, rfl⟩
        · rw [up_k (by decide), up_j ek, up_j ek, up_k (by decide)]
          exact p2 k (by omega) h2
    rw [e1, tr_lay_b2_eq, if_neg (by rw [w32_id (by omega) (by omega)]; omega), if_pos (by omega), if_pos (by omega), Int.toNat_natCast, w32_id (i := (m : Int)) (by omega) (by omega), w32_id (i := d) (by omega) (by omega), w32_id (i := u) (by omega) (by omega)]
    by_cases e0 : 0 < (m : Int)
    · rw [if_pos e0, if_pos (by omega), show ((m : Int) - 1).toNat = m - 1 by omega]
      refine hb4 _ ?_
      rw [if_pos (by omega), (p1 (m - 1) (by omega)).1]
    · rw [if_neg e0]
      refine hb4 _ ?_
      rw [if_neg (by omega)]
def upO (p e : Int) : Int := if p + e < 10 then p + e else 10
def dnO (p e : Int) : Int := if 0 < p - e then p - e else 0
theorem tr_lay_ok {n : Nat} {p e : Int} (hn : 1 ≤ n ∧ n ≤ 12) (hp : 0 ≤ p ∧ p ≤ 10) (he : 0 ≤ e ∧ e ≤ 10) : ∃ v, tr_lay L (n : Int) p e s = ok L 0 v ∧ tr_Q s p (upO p e) (dnO p e) (n - 1) v := by
  have hu : 0 ≤ upO p e ∧ upO p e ≤ 10 := by unfold upO; split <;> omega
  have hd : 0 ≤ dnO p e ∧ dnO p e ≤ 10 := by unfold dnO; split <;> omega
  obtain ⟨v1, a1, a2, a3⟩ := jar_fill_ok (L := L) (s := s) (q := 36) (N := 13) rfl rfl (by decide) (by decide)
  obtain ⟨v2, b1, b2, b3⟩ := jar_fill_ok (L := L) (s := v1) (q := 37) (N := 13) rfl rfl (by decide) (by decide)
  have x1 : jma_min L 10 (p + e) s = ok L (upO p e) s := jma_min_ok i_lit ⟨by omega, by omega⟩
  have x2 : jma_max L 0 (p - e) s = ok L (dnO p e) s := jma_max_ok i_lit ⟨by omega, by omega⟩
  rw [tr_lay_eq, x1, ok_bind]
  dsimp only
  rw [x2, ok_bind]
  dsimp only
  rw [a1, ok_bind]
  dsimp only
  rw [b1, ok_bind, if_pos (by decide), if_pos (by decide)]
  dsimp only
  rw [w32_id (i := p) (by omega) (by omega), w32_id (i := 10 - p) (by omega) (by omega)]
  have key : ∀ (j t : Nat) (v : hh_Sv), t + 1 + j = n → tr_Q s p (upO p e) (dnO p e) t v → ∃ v', tr_lay_b1 L (n : Int) (upO p e) (dnO p e) ((t + 1 : Nat) : Int) v = ok L 0 v' ∧ tr_Q s p (upO p e) (dnO p e) (n - 1) v' := by
    intro j
    induction j with
    | zero =>
      intro t v et hv
      refine ⟨v, ?_, by rw [show n - 1 = t by omega]; exact hv⟩
      rw [tr_lay_b1_eq, if_neg (by rw [w32_id (by omega) (by omega), w32_id (by omega) (by omega)]; omega)]
    | succ j ih =>
      intro t v et hv
      obtain ⟨v', w1, w2⟩ := tr_in (L := L) (s := s) (p := p) (n := n) hu hd (t := t) (by omega) (t + 2) v (Nat.le_refl _) hv.1 (fun k hk => hv.2 k (by omega)) (fun k h1 h2 => by
        rw [dp_0 (t + 1) k (by omega)]
        have := hv.2 k h2
        rw [dp_0 t k (by omega)] at this
        exact this)
      rw [show ((t + 2 : Nat) : Int) - 1 = ((t + 1 : Nat) : Int) by omega] at w1
      rw [tr_lay_b1_eq, if_pos (by rw [w32_id (by omega) (by omega), w32_id (by omega) (by omega)]; omega), w1]
      exact ih (t + 1) v' (by omega) w2
  refine key (n - 1) 0 _ (by omega) ⟨fun k j h1 h2 => ?_, fun k hk => ?_⟩
  · rw [up_k h2, up_k h1, b2 k j h2, a2 k j h1]
  · rw [dp]
    by_cases ek : k = 0
    · subst ek
      rw [up_k (by decide), up_s, up_s, if_pos rfl]
      exact ⟨rfl, rfl⟩
    · rw [up_k (by decide), up_j ek, up_j ek, up_k (by decide), b3 k hk, b2 _ _ (by decide), a3 k hk, if_neg ek]
      exact ⟨rfl, rfl⟩
end
