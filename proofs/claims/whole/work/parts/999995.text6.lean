/-! texts: the class's tokens -/
def knd (c : Int) : Int := if isA c = true then 1 else if isD c = true then 2 else 3
def nmx (T : Nat → Int) (n q : Nat) : Int := if 3 < rn T n isD q - q then -1 else nv T q (rn T n isD q - q)
def tE (T : Nat → Int) (n q : Nat) : Nat := if isA (T q) = true then rn T n isA q else if isD (T q) = true then rn T n isD q else q + 1
def tK (T : Nat → Int) (n q : Nat) : Int := if q < n then knd (T q) else 0
def tC (T : Nat → Int) (n q : Nat) : Int := if q < n then (if isA (T q) = true then wx T n q else if isD (T q) = true then nmx T n q else T q) else -1
def tP (T : Nat → Int) (n : Nat) : Nat → Nat
  | 0 => rn T n isB 0
  | i + 1 => rn T n isB (tE T n (tP T n i))
section
variable {L : Nat} {s : hh_Sv}
theorem isAD {c : Int} (h : isA c = true) : isD c = false := by
  have := of_decide_eq_true h
  exact decide_eq_false (by omega)
theorem re_kindOf_ok {c : Int} (hc : -128 ≤ c ∧ c < 128) : re_kindOf L c s = ok L (knd c) s := by
  unfold knd
  rw [re_kindOf_eq, w32_id (by omega) (by omega)]
  have b1 : ¬ isA c = true → re_kindOf_b1 L c s = ok L (if isD c = true then 2 else 3) s := fun _ => by
    rw [re_kindOf_b1_eq, w32_id (by omega) (by omega)]
    by_cases e1 : c < 48
    · rw [if_pos e1, re_kindOf_b2_eq, if_neg (fun z => by have := of_decide_eq_true z; omega)]
    · rw [if_neg e1]
      by_cases e2 : 57 < c
      · rw [if_pos e2, re_kindOf_b2_eq, if_neg (fun z => by have := of_decide_eq_true z; omega)]
      · rw [if_neg e2, if_pos (show isD c = true from decide_eq_true (by omega))]
  by_cases e1 : c < 97
  · have hn : ¬ isA c = true := fun z => by have := of_decide_eq_true z; omega
    rw [if_pos e1, b1 hn, if_neg hn]
  · rw [if_neg e1]
    by_cases e2 : 122 < c
    · have hn : ¬ isA c = true := fun z => by have := of_decide_eq_true z; omega
      rw [if_pos e2, b1 hn, if_neg hn]
    · rw [if_neg e2, if_pos (show isA c = true from decide_eq_true (by omega))]
theorem re_numberIn_ok {T : Nat → Int} {n q : Nat} (h : Tc s T n) (hq : q ≤ n) : re_numberIn L (q : Int) ((rn T n isD q : Nat) : Int) s = ok L (nmx T n q) s := by
  obtain ⟨h1, h2, h3⟩ := rn_bd (T := T) (n := n) (f := isD) (n - q) q (by omega)
  obtain ⟨n6, hT, -, -⟩ := h
  have key : ∀ (k e : Nat), e + k = rn T n isD q → q ≤ e → re_numberIn_b2 L ((rn T n isD q : Nat) : Int) (nv T q (e - q)) (e : Int) s = ok L (nv T q (rn T n isD q - q)) s := by
    intro k
    induction k with
    | zero =>
      intro e he hqe
      rw [Nat.add_zero] at he
      rw [re_numberIn_b2_eq, if_neg (by rw [w32_id (by omega) (by omega), w32_id (by omega) (by omega)]; omega), he]
    | succ k ih =>
      intro e he hqe
      have i := ih (e + 1) (by omega) (by omega)
      rw [show e + 1 - q = (e - q) + 1 by omega, nv, show q + (e - q) = e by omega] at i
      rw [re_numberIn_b2_eq, if_pos (by rw [w32_id (by omega) (by omega), w32_id (by omega) (by omega)]; omega), if_pos (by omega), Int.toNat_natCast, (hT e (by omega)).1, Int.mul_comm]
      exact i
  unfold nmx
  rw [re_numberIn_eq, w32_id (by omega) (by omega)]
  by_cases e : 3 < rn T n isD q - q
  · rw [if_pos (by omega), if_pos e]
  · rw [if_neg (by omega), if_neg e]
    have k := key (rn T n isD q - q) q (by omega) (by omega)
    rw [Nat.sub_self] at k
    exact k
theorem re_open_2 {T : Nat → Int} {n q i : Nat} {f : Int → Bool} {kk : Int} (h : Tc s T n) (hk : kk = 1 ∨ kk = 2) (hf : ∀ c, knd c = kk ↔ f c = true) : ∀ (k e : Nat), e + k = n → re_open_b2 L (n : Int) (i : Int) (q : Int) (e : Int) kk s = re_open_b3 L (n : Int) (i : Int) (q : Int) ((rn T n f e : Nat) : Int) kk s := by
  obtain ⟨n6, hT, -, -⟩ := h
  have kw : w32 kk = kk := w32_id (by omega) (by omega)
  intro k
  induction k with
  | zero =>
    intro e he
    rw [re_open_b2_eq, kw, if_neg (by omega), if_neg (by rw [w32_id (by omega) (by omega), w32_id (by omega) (by omega)]; omega), rn_end (by omega)]
  | succ k ih =>
    intro e he
    obtain ⟨c1, c2, c3⟩ := hT e (by omega)
    have kb : w32 (knd (T e)) = knd (T e) := by
      unfold knd
      split
      · exact w32_1
      · split <;> exact w32_id (by decide) (by decide)
    rw [re_open_b2_eq, kw, if_neg (by omega), if_pos (by rw [w32_id (by omega) (by omega), w32_id (by omega) (by omega)]; omega), if_pos (by rw [w32_id (by omega) (by omega)]; omega), if_pos (by omega), Int.toNat_natCast, c1, re_kindOf_ok ⟨c2, c3⟩, ok_bind]
    dsimp only
    rw [kb]
    by_cases ef : f (T e) = true
    · rw [if_pos ((hf _).mpr ef), rn_go (by omega) ef]
      exact ih (e + 1) (by omega)
    · rw [if_neg (fun z => ef ((hf _).mp z)), rn_no (by omega) ef]
theorem knd_1 {c : Int} : knd c = 1 ↔ isA c = true := by
  unfold knd
  by_cases h : isA c = true
  · rw [if_pos h]; exact ⟨fun _ => h, fun _ => rfl⟩
  · rw [if_neg h]
    refine ⟨fun z => ?_, fun z => absurd z h⟩
    split at z <;> exact absurd z (by decide)
theorem knd_2 {c : Int} : knd c = 2 ↔ isD c = true := by
  unfold knd
  by_cases h : isA c = true
  · rw [if_pos h, isAD h]; exact ⟨fun z => absurd z (by decide), fun z => absurd z (by decide)⟩
  · rw [if_neg h]
    by_cases h2 : isD c = true
    · rw [if_pos h2]; exact ⟨fun _ => h2, fun _ => rfl⟩
    · rw [if_neg h2]; exact ⟨fun z => absurd z (by decide), fun z => absurd z h2⟩
end
