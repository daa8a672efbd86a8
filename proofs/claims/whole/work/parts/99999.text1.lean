/-! texts: places on the bytes; the reference's reading -/
def isB (c : Int) : Bool := decide (c = 32 ∨ c = 10)
def isA (c : Int) : Bool := decide (97 ≤ c ∧ c ≤ 122)
def isD (c : Int) : Bool := decide (48 ≤ c ∧ c ≤ 57)
/-- the first place from p that f does not hold at, at most n -/
def rnF (T : Nat → Int) (n : Nat) (f : Int → Bool) : Nat → Nat → Nat
  | 0, p => p
  | k + 1, p => if f (T p) = true then rnF T n f k (p + 1) else p
def rn (T : Nat → Int) (n : Nat) (f : Int → Bool) (p : Nat) : Nat := rnF T n f (n - p) p
theorem rn_end {T : Nat → Int} {n p : Nat} {f : Int → Bool} (h : n ≤ p) : rn T n f p = p := by
  unfold rn
  rw [show n - p = 0 by omega, rnF]
theorem rn_go {T : Nat → Int} {n p : Nat} {f : Int → Bool} (h : p < n) (hf : f (T p) = true) : rn T n f p = rn T n f (p + 1) := by
  unfold rn
  rw [show n - p = (n - (p + 1)) + 1 by omega, rnF, if_pos hf]
theorem rn_no {T : Nat → Int} {n p : Nat} {f : Int → Bool} (h : p < n) (hf : ¬ f (T p) = true) : rn T n f p = p := by
  unfold rn
  rw [show n - p = (n - (p + 1)) + 1 by omega, rnF, if_neg hf]
theorem rn_bd {T : Nat → Int} {n : Nat} {f : Int → Bool} : ∀ (k p : Nat), p + k = n → (p ≤ rn T n f p ∧ rn T n f p ≤ n) ∧ (rn T n f p < n → f (T (rn T n f p)) = false) ∧ (∀ j, p ≤ j → j < rn T n f p → f (T j) = true)
  | 0, p, e => by
    rw [rn_end (by omega)]
    exact ⟨by omega, fun h => by omega, fun j _ _ => by omega⟩
  | k + 1, p, e => by
    by_cases hf : f (T p) = true
    · rw [rn_go (by omega) hf]
      obtain ⟨h1, h2, h3⟩ := rn_bd (T := T) (n := n) (f := f) k (p + 1) (by omega)
      refine ⟨by omega, h2, fun j a b => ?_⟩
      by_cases e2 : j = p
      · rw [e2]; exact hf
      · exact h3 j (by omega) b
    · rw [rn_no (by omega) hf]
      exact ⟨by omega, fun _ => by cases q : f (T p); rfl; exact absurd q hf, fun j _ _ => by omega⟩
theorem rn_rn {T : Nat → Int} {n p : Nat} {f : Int → Bool} (h : p ≤ n) : rn T n f (rn T n f p) = rn T n f p := by
  obtain ⟨h1, h2, h3⟩ := rn_bd (T := T) (n := n) (f := f) (n - p) p (by omega)
  by_cases e : rn T n f p < n
  · exact rn_no e (by rw [h2 e]; decide)
  · exact rn_end (by omega)
section
variable {L : Nat} {s : hh_Sv}
/-- the reference's text -/
def Tx (s : hh_Sv) (T : Nat → Int) (n : Nat) : Prop := s 242 11 = (n : Int) ∧ n ≤ 600 ∧ ∀ j, j < n → s 261 j = T j ∧ -128 ≤ T j ∧ T j < 128
def FX (s u : hh_Sv) : Prop := ∀ k j, ¬ (k = 242 ∧ (j = 12 ∨ j = 32 ∨ j = 33)) → u k j = s k j
theorem FX.rf : FX s s := fun _ _ _ => rfl
theorem FX.tr {u v : hh_Sv} (h1 : FX s u) (h2 : FX u v) : FX s v := fun k j h => (h2 k j h).trans (h1 k j h)
theorem FX.wr {u : hh_Sv} {j : Nat} {x : Int} (h : FX s u) (hj : j = 12 ∨ j = 32 ∨ j = 33) : FX s (up u 242 j x) := fun a b hn => by
  unfold up
  rw [if_neg (fun q => hn ⟨q.1, by omega⟩)]
  exact h a b hn
theorem Tx.x {T : Nat → Int} {n : Nat} {u : hh_Sv} (h : Tx s T n) (g : FX s u) : Tx u T n := by
  obtain ⟨a, b, c⟩ := h
  refine ⟨?_, b, fun j hj => ?_⟩
  · rw [g _ _ (by omega)]; exact a
  · rw [g _ _ (by omega)]; exact c j hj
theorem md_blanks_0 {T : Nat → Int} {n : Nat} : ∀ (k p : Nat) (u : hh_Sv), p + k = n → Tx u T n → u 242 12 = (p : Int) → ∃ y, md_blanks_b0 L u = ok L 0 y ∧ (∀ a b, ¬ (a = 242 ∧ b = 12) → y a b = u a b) ∧ y 242 12 = ((rn T n isB p : Nat) : Int)
  | 0, p, u, e, h, hp => by
    obtain ⟨a, b, c⟩ := h
    refine ⟨u, ?_, fun _ _ _ => rfl, by rw [rn_end (by omega)]; exact hp⟩
    rw [md_blanks_b0_eq, hp, a, if_neg (by rw [w32_id (by omega) (by omega), w32_id (by omega) (by omega)]; omega)]
  | k + 1, p, u, e, h, hp => by
    obtain ⟨a, b, c⟩ := h
    obtain ⟨c1, c2, c3⟩ := c p (by omega)
    have hin : (0 : Int) ≤ (p : Int) ∧ (p : Int) < 600 := by omega
    have cw : w32 (u 261 p) = T p := by rw [c1]; exact w32_id (by omega) (by omega)
    have hgo : isB (T p) = true → ∃ y, md_blanks_b1 L u = ok L 0 y ∧ (∀ a b, ¬ (a = 242 ∧ b = 12) → y a b = u a b) ∧ y 242 12 = ((rn T n isB p : Nat) : Int) := fun hf => by
      have g : FX u (up u 242 12 ((p : Int) + 1)) := FX.rf.wr (Or.inl rfl)
      obtain ⟨y, y1, y2, y3⟩ := md_blanks_0 k (p + 1) (up u 242 12 ((p : Int) + 1)) (by omega) (Tx.x ⟨a, b, c⟩ g) up_s
      refine ⟨y, ?_, fun i j hn => ?_, by rw [y3, rn_go (by omega) hf]⟩
      · rw [md_blanks_b1_eq, hp]
        exact y1
      · rw [y2 i j hn]
        unfold up
        rw [if_neg hn]
    rw [md_blanks_b0_eq, hp, a, if_pos (by rw [w32_id (by omega) (by omega), w32_id (by omega) (by omega)]; omega), if_pos hin, Int.toNat_natCast, cw]
    by_cases e1 : T p = 32
    · rw [if_pos e1]
      exact hgo (decide_eq_true (Or.inl e1))
    · rw [if_neg e1, if_pos hin]
      by_cases e2 : T p = 10
      · rw [if_pos e2]
        exact hgo (decide_eq_true (Or.inr e2))
      · rw [if_neg e2]
        refine ⟨u, rfl, fun _ _ _ => rfl, ?_⟩
        rw [rn_no (by omega) (by rw [show isB (T p) = false from decide_eq_false (by omega)]; decide)]
        exact hp
theorem md_blanks_ok {T : Nat → Int} {n p : Nat} (h : Tx s T n) (hp : s 242 12 = (p : Int)) (hn : p ≤ n) : ∃ y, md_blanks L s = ok L 0 y ∧ (∀ a b, ¬ (a = 242 ∧ b = 12) → y a b = s a b) ∧ y 242 12 = ((rn T n isB p : Nat) : Int) := by
  rw [show md_blanks L s = md_blanks_b0 L s by rw [md_blanks_eq, md_blanks_b0_eq]]
  exact md_blanks_0 (n - p) p s (by omega) h hp
theorem md_takesSign_ok {T : Nat → Int} {n p : Nat} {c : Int} (h : Tx s T n) (hp : s 242 12 = (p : Int)) (hn : p ≤ n) (hc : I32 c) : ∃ y, md_takesSign L c s = ok L (zb (rn T n isB p < n ∧ T (rn T n isB p) = c)) y ∧ (∀ a b, ¬ (a = 242 ∧ b = 12) → y a b = s a b) ∧ y 242 12 = (((if rn T n isB p < n ∧ T (rn T n isB p) = c then rn T n isB p + 1 else rn T n isB p) : Nat) : Int) := by
  obtain ⟨y, y1, y2, y3⟩ := md_blanks_ok (L := L) h hp hn
  obtain ⟨b1, -, -⟩ := rn_bd (T := T) (n := n) (f := isB) (n - p) p (by omega)
  obtain ⟨a, b, d⟩ := h
  rw [md_takesSign_eq, y1, ok_bind]
  dsimp only
  by_cases e : rn T n isB p < n
  · obtain ⟨d1, d2, d3⟩ := d (rn T n isB p) e
    rw [if_neg (by rw [y3, y2 _ _ (by omega), a, w32_id (by omega) (by omega), w32_id (by omega) (by omega)]; omega), if_pos (by rw [y3]; omega)]
    have ew : w32 (y 261 (y 242 12).toNat) = T (rn T n isB p) := by
      rw [y3, Int.toNat_natCast, y2 _ _ (by omega), d1]
      exact w32_id (by omega) (by omega)
    by_cases e2 : T (rn T n isB p) = c
    · refine ⟨up y 242 12 ((y 242 12) + 1), ?_, fun i j hq => ?_, ?_⟩
      · rw [if_pos (by rw [ew, hc.w]; exact e2), zb_1 ⟨e, e2⟩]
      · unfold up
        rw [if_neg hq]
        exact y2 i j hq
      · rw [up_s, if_pos ⟨e, e2⟩, y3]
        omega
    · refine ⟨y, ?_, y2, ?_⟩
      · rw [if_neg (by rw [ew, hc.w]; exact e2), zb_0 (fun q => e2 q.2)]
      · rw [if_neg (fun q => e2 q.2)]
        exact y3
  · refine ⟨y, ?_, y2, ?_⟩
    · rw [if_pos (by rw [y3, y2 _ _ (by omega), a, show rn T n isB p = n by omega]), zb_0 (fun q => e q.1)]
    · rw [if_neg (fun q => e q.1)]
      exact y3
end
