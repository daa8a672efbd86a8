/-! trials: the reference's rows; lines; power, need, strong -/
section
variable {L : Nat} {s : hh_Sv}
def tq (s : hh_Sv) (p u d : Int) (t : Nat) (v : hh_Sv) : Prop := (∀ k j, ¬ (273 ≤ k ∧ k ≤ 276) → v k j = s k j) ∧ ∀ k, k < 13 → v 273 k = (dp p u d t k).2 ∧ v 274 k = (dp p u d t k).1
theorem mt_next {p u d : Int} (hu : 0 ≤ u ∧ u ≤ 10) (hd : 0 ≤ d ∧ d ≤ 10) {n t : Nat} {v : hh_Sv} (ht : t + 1 < 13) (hv : tq s p u d t v) : ∃ v', md_tries_b8 L (n : Int) u d ((t + 1 : Nat) : Int) 0 v = md_tries_b7 L (n : Int) u d (((t + 1 : Nat) : Int) + 1) v' ∧ tq s p u d (t + 1) v' := by
  refine lp_st (n := 13) (fun z x => md_tries_b8 L (n : Int) u d ((t + 1 : Nat) : Int) z x) (fun i x => tq s p u d t x ∧ ∀ k, k < i → x 275 k = (dp p u d (t + 1) k).2 ∧ x 276 k = (dp p u d (t + 1) k).1) (fun r => ∃ v', r = md_tries_b7 L (n : Int) u d (((t + 1 : Nat) : Int) + 1) v' ∧ tq s p u d (t + 1) v') ?_ ?_ 13 0 v (by omega) ⟨hv, fun k hk => by omega⟩
  · intro i x hi ⟨⟨g, q⟩, r⟩
    show ∃ t', _ ∧ md_tries_b8 L (n : Int) u d ((t + 1 : Nat) : Int) (i : Int) x = md_tries_b8 L (n : Int) u d ((t + 1 : Nat) : Int) ((i : Int) + 1) t'
    obtain ⟨q1, q2⟩ := q i hi
    have hb10 : ∀ c : Int, c = (if 0 < i then (dp p u d t (i - 1)).1 * u else 0) → ∃ t', (tq s p u d t t' ∧ ∀ k, k < i + 1 → t' 275 k = (dp p u d (t + 1) k).2 ∧ t' 276 k = (dp p u d (t + 1) k).1) ∧ md_tries_b10 L (n : Int) u d ((t + 1 : Nat) : Int) (i : Int) (i : Int) (x 273 i * d) c (up x 275 i (x 273 i * (10 - d) + x 274 i * (10 - u))) = md_tries_b8 L (n : Int) u d ((t + 1 : Nat) : Int) ((i : Int) + 1) t' := fun c hc => by
      rw [md_tries_b10_eq, if_pos (by omega), Int.toNat_natCast]
      refine ⟨_, ⟨⟨fun k j hk => ?_, fun k hk => ?_⟩, fun k hk => ?_⟩, rfl⟩
      · rw [up_k (by omega), up_k (by omega)]; exact g k j hk
      · rw [up_k (by decide), up_k (by decide), up_k (by decide), up_k (by decide)]; exact q k hk
      · by_cases ek : k = i
        · subst ek
          rw [up_k (by decide), up_s, up_s, q1, q2, hc]
          exact ⟨rfl, rfl⟩
        · rw [up_k (by decide), up_j ek, up_j ek, up_k (by decide)]
          exact r k (by omega)
    rw [md_tries_b8_eq, if_pos (by rw [w32_id (by omega) (by omega)]; omega), if_pos (by omega), if_pos (by omega), if_pos (by omega), if_pos (by omega), Int.toNat_natCast, w32_id (i := (i : Int)) (by omega) (by omega), w32_id (i := d) (by omega) (by omega), w32_id (i := u) (by omega) (by omega), w32_id (i := 10 - d) (by omega) (by omega), w32_id (i := 10 - u) (by omega) (by omega)]
    by_cases e0 : 0 < (i : Int)
    · rw [if_pos e0, if_pos (by omega), show ((i : Int) - 1).toNat = i - 1 by omega]
      refine hb10 _ ?_
      rw [if_pos (by omega), (q (i - 1) (by omega)).2]
    · rw [if_neg e0]
      refine hb10 _ ?_
      rw [if_neg (by omega)]
  · intro x ⟨⟨g, q⟩, r⟩
    show ∃ v', md_tries_b8 L (n : Int) u d ((t + 1 : Nat) : Int) ((13 : Nat) : Int) x = _ ∧ _
    rw [md_tries_b8_eq, if_neg (by rw [w32_id (by decide) (by decide)]; decide)]
    refine lp_st (n := 13) (fun z x => md_tries_b12 L (n : Int) u d ((t + 1 : Nat) : Int) z x) (fun i x => (∀ k j, ¬ (273 ≤ k ∧ k ≤ 276) → x k j = s k j) ∧ (∀ k, k < 13 → x 275 k = (dp p u d (t + 1) k).2 ∧ x 276 k = (dp p u d (t + 1) k).1) ∧ ∀ k, k < i → x 273 k = (dp p u d (t + 1) k).2 ∧ x 274 k = (dp p u d (t + 1) k).1) (fun r => ∃ v', r = md_tries_b7 L (n : Int) u d (((t + 1 : Nat) : Int) + 1) v' ∧ tq s p u d (t + 1) v') ?_ ?_ 13 0 x (by omega) ⟨g, r, fun k hk => by omega⟩
    · intro i x hi ⟨g, r, q⟩
      show ∃ t', _ ∧ md_tries_b12 L (n : Int) u d ((t + 1 : Nat) : Int) (i : Int) x = md_tries_b12 L (n : Int) u d ((t + 1 : Nat) : Int) ((i : Int) + 1) t'
      rw [md_tries_b12_eq, if_pos (by rw [w32_id (by omega) (by omega)]; omega), if_pos (by omega), if_pos (by omega), if_pos (by omega), if_pos (by omega), Int.toNat_natCast]
      refine ⟨_, ⟨fun k j hk => ?_, fun k hk => ?_, fun k hk => ?_⟩, rfl⟩
      · rw [up_k (by omega), up_k (by omega)]; exact g k j hk
      · rw [up_k (by decide), up_k (by decide), up_k (by decide), up_k (by decide)]; exact r k hk
      · by_cases ek : k = i
        · subst ek
          rw [up_k (by decide), up_s, up_s]
          exact r k hi
        · rw [up_k (by decide), up_j ek, up_j ek, up_k (by decide)]
          exact q k (by omega)
    · intro x ⟨g, r, q⟩
      refine ⟨x, ?_, g, q⟩
      show md_tries_b12 L (n : Int) u d ((t + 1 : Nat) : Int) ((13 : Nat) : Int) x = _
      rw [md_tries_b12_eq, if_neg (by rw [w32_id (by decide) (by decide)]; decide)]
theorem md_tries_ok {n : Nat} {p e : Int} (hn : 1 ≤ n ∧ n ≤ 12) (hp : 0 ≤ p ∧ p ≤ 10) (he : 0 ≤ e ∧ e ≤ 10) : ∃ v, md_tries L (n : Int) p e s = ok L 0 v ∧ tq s p (upO p e) (dnO p e) (n - 1) v := by
  have hu : 0 ≤ upO p e ∧ upO p e ≤ 10 := by unfold upO; split <;> omega
  have hd : 0 ≤ dnO p e ∧ dnO p e ≤ 10 := by unfold dnO; split <;> omega
  have x1 : jma_min L 10 (p + e) s = ok L (upO p e) s := jma_min_ok i_lit ⟨by omega, by omega⟩
  have x2 : jma_max L 0 (p - e) s = ok L (dnO p e) s := jma_max_ok i_lit ⟨by omega, by omega⟩
  rw [md_tries_eq, x1, ok_bind]
  dsimp only
  rw [x2, ok_bind]
  dsimp only
  have key : ∀ (j t : Nat) (v : hh_Sv), t + 1 + j = n → tq s p (upO p e) (dnO p e) t v → ∃ v', md_tries_b7 L (n : Int) (upO p e) (dnO p e) ((t + 1 : Nat) : Int) v = ok L 0 v' ∧ tq s p (upO p e) (dnO p e) (n - 1) v' := by
    intro j
    induction j with
    | zero =>
      intro t v et hv
      refine ⟨v, ?_, by rw [show n - 1 = t by omega]; exact hv⟩
      rw [md_tries_b7_eq, if_neg (by rw [w32_id (by omega) (by omega), w32_id (by omega) (by omega)]; omega)]
    | succ j ih =>
      intro t v et hv
      obtain ⟨v', w1, w2⟩ := mt_next (L := L) (n := n) hu hd (by omega) hv
      rw [md_tries_b7_eq, if_pos (by rw [w32_id (by omega) (by omega), w32_id (by omega) (by omega)]; omega), w1]
      exact ih (t + 1) v' (by omega) w2
  refine lp_st (n := 13) (fun z x => md_tries_b1 L (n : Int) p (upO p e) (dnO p e) z x) (fun i x => (∀ k j, ¬ (273 ≤ k ∧ k ≤ 276) → x k j = s k j) ∧ ∀ k, k < i → x 273 k = (dp p (upO p e) (dnO p e) 0 k).2 ∧ x 274 k = (dp p (upO p e) (dnO p e) 0 k).1) (fun r => ∃ v, r = ok L 0 v ∧ tq s p (upO p e) (dnO p e) (n - 1) v) ?_ ?_ 13 0 s (by omega) ⟨fun _ _ _ => rfl, fun k hk => by omega⟩
  · intro i x hi ⟨g, q⟩
    show ∃ t', _ ∧ md_tries_b1 L (n : Int) p (upO p e) (dnO p e) (i : Int) x = md_tries_b1 L (n : Int) p (upO p e) (dnO p e) ((i : Int) + 1) t'
    have fin : ∀ a b : Int, (dp p (upO p e) (dnO p e) 0 i).2 = a → (dp p (upO p e) (dnO p e) 0 i).1 = b → ((∀ k j, ¬ (273 ≤ k ∧ k ≤ 276) → (up (up x 273 i a) 274 i b) k j = s k j) ∧ ∀ k, k < i + 1 → (up (up x 273 i a) 274 i b) 273 k = (dp p (upO p e) (dnO p e) 0 k).2 ∧ (up (up x 273 i a) 274 i b) 274 k = (dp p (upO p e) (dnO p e) 0 k).1) := fun a b ha hb => by
      refine ⟨fun k j hk => ?_, fun k hk => ?_⟩
      · rw [up_k (by omega), up_k (by omega)]; exact g k j hk
      · by_cases ek : k = i
        · subst ek
          rw [up_k (by decide), up_s, up_s]
          exact ⟨ha.symm, hb.symm⟩
        · rw [up_k (by decide), up_j ek, up_j ek, up_k (by decide)]
          exact q k (by omega)
    rw [md_tries_b1_eq, w32_id (i := (i : Int)) (by omega) (by omega), if_pos (by omega)]
    by_cases e0 : (i : Int) = 0
    · have ei : i = 0 := by omega
      rw [if_pos e0, md_tries_b3_eq, if_pos (by omega), w32_id (i := (i : Int)) (by omega) (by omega), if_pos e0, md_tries_b5_eq, if_pos (by omega), Int.toNat_natCast, w32_id (i := p) (by omega) (by omega), w32_id (i := 10 - p) (by omega) (by omega)]
      exact ⟨_, fin _ _ (by rw [dp, if_pos ei]) (by rw [dp, if_pos ei]), rfl⟩
    · rw [if_neg e0, md_tries_b3_eq, if_pos (by omega), w32_id (i := (i : Int)) (by omega) (by omega), if_neg e0, md_tries_b5_eq, if_pos (by omega), Int.toNat_natCast]
      exact ⟨_, fin _ _ (by rw [dp, if_neg (by omega)]) (by rw [dp, if_neg (by omega)]), rfl⟩
  · intro x hx
    show ∃ v, md_tries_b1 L (n : Int) p (upO p e) (dnO p e) ((13 : Nat) : Int) x = _ ∧ _
    rw [md_tries_b1_eq, if_neg (by rw [w32_id (by decide) (by decide)]; decide)]
    exact key (n - 1) 0 x (by omega) hx
/-- chances from c pairs on -/
def fT (p e : Int) (n k : Nat) : Int := (dp p (upO p e) (dnO p e) (n - 1) k).1 + (dp p (upO p e) (dnO p e) (n - 1) k).2
def tl (p e : Int) (n c : Nat) : Int := sg (fT p e n) 13 - sg (fT p e n) c
theorem fT_top {p e : Int} {n : Nat} (hn : 1 ≤ n ∧ n ≤ 12) : sg (fT p e n) 13 = sg (fT p e n) n := by
  have : ∀ j, n + j ≤ 13 → sg (fT p e n) (n + j) = sg (fT p e n) n := by
    intro j
    induction j with
    | zero => intro _; rfl
    | succ j ih =>
      intro hj
      rw [show n + (j + 1) = (n + j) + 1 by omega, sg, ih (by omega), fT, dp_0 (n - 1) (n + j) (by omega)]
      show _ + (0 + 0) = _
      omega
  have := this (13 - n) (by omega)
  rw [show n + (13 - n) = 13 by omega] at this
  exact this
theorem md_tail_ok {p e : Int} {n c : Nat} {v : hh_Sv} (hv : tq s p (upO p e) (dnO p e) (n - 1) v) (hc : c ≤ 13) : md_tail L (c : Int) v = ok L (tl p e n c) v := by
  rw [md_tail_eq]
  have key : ∀ (j i : Nat), i + j = 13 → md_tail_b1 L (sg (fT p e n) i - sg (fT p e n) c) (i : Int) v = ok L (tl p e n c) v := by
    intro j
    induction j with
    | zero =>
      intro i e1
      have : i = 13 := by omega
      subst this
      rw [md_tail_b1_eq, if_neg (by rw [w32_id (by decide) (by decide)]; decide)]
      rfl
    | succ j ih =>
      intro i e1
      obtain ⟨q1, q2⟩ := hv.2 i (by omega)
      rw [md_tail_b1_eq, if_pos (by rw [w32_id (by omega) (by omega)]; omega), if_pos (by omega), if_pos (by omega), Int.toNat_natCast, q1, q2]
      have := ih (i + 1) (by omega)
      rw [sg, fT] at this
      rw [show sg (fT p e n) i - sg (fT p e n) c + ((dp p (upO p e) (dnO p e) (n - 1) i).2 + (dp p (upO p e) (dnO p e) (n - 1) i).1) = sg (fT p e n) i + ((dp p (upO p e) (dnO p e) (n - 1) i).1 + (dp p (upO p e) (dnO p e) (n - 1) i).2) - sg (fT p e n) c by omega]
      exact this
  have := key (13 - c) c (by omega)
  rw [Int.sub_self] at this
  exact this
theorem md_power_ok {b : Int} (hb : 0 ≤ b ∧ b ≤ 100) {n : Nat} (hn : n ≤ 100) : md_power L b (n : Int) s = ok L (b ^ n) s := by
  rw [md_power_eq]
  have key : ∀ (j i : Nat), i + j = n → md_power_b1 L b (n : Int) (b ^ i) (i : Int) s = ok L (b ^ n) s := by
    intro j
    induction j with
    | zero =>
      intro i e
      rw [Nat.add_zero] at e
      subst e
      rw [md_power_b1_eq, if_neg (by omega)]
    | succ j ih =>
      intro i e
      rw [md_power_b1_eq, if_pos (by rw [w32_id (by omega) (by omega), w32_id (by omega) (by omega)]; omega), w32_id (by omega) (by omega), ← Int.pow_succ]
      exact ih (i + 1) (by omega)
  have k0 := key n 0 (by omega)
  rw [Int.pow_zero] at k0
  exact k0
theorem tr_atLeast_ok {n c : Nat} {p e : Int} (hn : 1 ≤ n ∧ n ≤ 12) (hp : 0 ≤ p ∧ p ≤ 10) (he : 0 ≤ e ∧ e ≤ 10) (hc : c ≤ n) : ∃ v, tr_atLeast L (n : Int) p e (c : Int) s = ok L (tl p e n c) v ∧ ∀ k j, k ≠ 36 → k ≠ 37 → v k j = s k j := by
  obtain ⟨v, v1, v2⟩ := tr_lay_ok (L := L) (s := s) hn hp he
  refine ⟨v, ?_, v2.1⟩
  rw [tr_atLeast_eq, v1, ok_bind]
  dsimp only
  have key : ∀ (j i : Nat), i + j = n → tr_atLeast_b1 L (n : Int) (sg (fT p e n) i - sg (fT p e n) c) (i : Int) v = ok L (tl p e n c) v := by
    intro j
    induction j with
    | zero =>
      intro i e1
      rw [Nat.add_zero] at e1
      subst e1
      rw [tr_atLeast_b1_eq, if_neg (by omega), tl, fT_top hn]
    | succ j ih =>
      intro i e1
      obtain ⟨q1, q2⟩ := v2.2 i (by omega)
      rw [tr_atLeast_b1_eq, if_pos (by rw [w32_id (by omega) (by omega), w32_id (by omega) (by omega)]; omega), if_pos (by omega), if_pos (by omega), Int.toNat_natCast, q1, q2]
      have := ih (i + 1) (by omega)
      rw [sg, fT] at this
      rw [show sg (fT p e n) i - sg (fT p e n) c + ((dp p (upO p e) (dnO p e) (n - 1) i).1 + (dp p (upO p e) (dnO p e) (n - 1) i).2) = sg (fT p e n) i + ((dp p (upO p e) (dnO p e) (n - 1) i).1 + (dp p (upO p e) (dnO p e) (n - 1) i).2) - sg (fT p e n) c by omega]
      exact this
  have := key (n - c) c (by omega)
  rw [Int.sub_self] at this
  exact this
/-- the first place from c on, k places at most, at which f says yes -/
def fs (f : Nat → Bool) : Nat → Nat → Nat
  | 0, c => c
  | k + 1, c => if f c = true then c else fs f k (c + 1)
theorem fs_le {f : Nat → Bool} : ∀ k c, c ≤ fs f k c ∧ fs f k c ≤ c + k
  | 0, c => ⟨Nat.le_refl _, Nat.le_refl _⟩
  | k + 1, c => by
    rw [fs]
    have := fs_le (f := f) k (c + 1)
    split <;> omega
noncomputable def isL (p w : Int) (n c : Nat) : Bool := decide (¬ 0 < w32 (lCmp (tl p 0 n c * 100) (w32 w * 10 ^ n)))
noncomputable def lnO (p w : Int) (n : Nat) : Nat := fs (isL p w n) n 0
theorem tr_lineAt_ok {n : Nat} {p w : Int} (hK : iv_K s) (hn : 1 ≤ n ∧ n ≤ 12) (hp : 0 ≤ p ∧ p ≤ 10) : ∃ v, tr_lineAt L (n : Int) p w s = ok L (lnO p w n : Nat) v ∧ ∀ k j, k ≠ 36 → k ≠ 37 → v k j = s k j := by
  obtain ⟨v, v1, v2⟩ := tr_lay_ok (L := L) (s := s) (e := 0) hn hp (by decide)
  refine ⟨v, ?_, v2.1⟩
  rw [tr_lineAt_eq, v1, ok_bind]
  dsimp only
  have e10 : v 2 n = 10 ^ n := by rw [v2.1 _ _ (by decide) (by decide), hK.1 n (by omega)]; rfl
  have key : ∀ m : Nat, m ≤ n → tr_lineAt_b1 L (n : Int) w ((fs (isL p w n) (n - m) m : Nat) : Int) (sg (fT p 0 n) n - sg (fT p 0 n) m) ((m : Int) - 1) v = ok L (lnO p w n : Nat) v := by
    intro m
    induction m with
    | zero =>
      intro _
      rw [tr_lineAt_b1_eq, if_pos (by rw [w32_id (by omega) (by omega)]; omega)]
      rfl
    | succ m ih =>
      intro hm
      obtain ⟨q1, q2⟩ := v2.2 m (by omega)
      have ih := ih (by omega)
      have et : sg (fT p 0 n) n - sg (fT p 0 n) (m + 1) + ((dp p (upO p 0) (dnO p 0) (n - 1) m).1 + (dp p (upO p 0) (dnO p 0) (n - 1) m).2) = sg (fT p 0 n) n - sg (fT p 0 n) m := by
        rw [sg, fT]
        omega
      have eT : sg (fT p 0 n) n - sg (fT p 0 n) m = tl p 0 n m := by rw [tl, fT_top hn]
      rw [show n - m = (n - (m + 1)) + 1 by omega, fs] at ih
      rw [show ((m + 1 : Nat) : Int) - 1 = (m : Int) by omega, tr_lineAt_b1_eq, if_neg (by rw [w32_id (by omega) (by omega)]; omega), if_pos (by omega), if_pos (by omega), if_pos (by omega), Int.toNat_natCast, Int.toNat_natCast, q1, q2, e10, et, show (m : Int) + (-1) = (m : Int) - 1 by omega]
      by_cases c : 0 < w32 (lCmp ((sg (fT p 0 n) n - sg (fT p 0 n) m) * 100) (w32 w * 10 ^ n))
      · rw [if_pos c]
        rw [if_neg (show ¬ isL p w n m = true by unfold isL; rw [← eT, decide_eq_true_eq]; exact fun q => q c)] at ih
        exact ih
      · rw [if_neg c]
        rw [if_pos (show isL p w n m = true by unfold isL; rw [← eT, decide_eq_true_eq]; exact c)] at ih
        exact ih
  have := key n (Nat.le_refl _)
  rw [Nat.sub_self, Int.sub_self] at this
  exact this
theorem md_lineOf_ok {n : Nat} {p w : Int} (hn : 1 ≤ n ∧ n ≤ 12) (hp : 0 ≤ p ∧ p ≤ 10) : ∃ v, md_lineOf L (n : Int) p w s = ok L (lnO p w n : Nat) v ∧ ∀ k j, ¬ (273 ≤ k ∧ k ≤ 276) → v k j = s k j := by
  obtain ⟨v, v1, v2⟩ := md_tries_ok (L := L) (s := s) (e := 0) hn hp (by decide)
  refine ⟨v, ?_, v2.1⟩
  rw [md_lineOf_eq, v1, ok_bind]
  dsimp only
  have key : ∀ (k c : Nat), c + k = n → md_lineOf_b1 L (n : Int) w (c : Int) v = ok L ((fs (isL p w n) k c : Nat) : Int) v := by
    intro k
    induction k with
    | zero =>
      intro c e
      rw [Nat.add_zero] at e
      subst e
      rw [md_lineOf_b1_eq, if_neg (by omega)]
      rfl
    | succ k ih =>
      intro c e
      rw [md_lineOf_b1_eq, if_pos (by rw [w32_id (by omega) (by omega), w32_id (by omega) (by omega)]; omega), md_tail_ok v2 (by omega), ok_bind]
      dsimp only
      rw [md_power_ok (by decide) (by omega), ok_bind, fs]
      dsimp only
      by_cases q : 0 < w32 (lCmp (tl p 0 n c * 100) (w32 w * 10 ^ n))
      · rw [if_pos q, if_neg (show ¬ isL p w n c = true by unfold isL; rw [decide_eq_true_eq]; exact fun z => z q)]
        exact ih (c + 1) (by omega)
      · rw [if_neg q, if_pos (show isL p w n c = true by unfold isL; rw [decide_eq_true_eq]; exact q)]
  exact key n 0 (by omega)
end
