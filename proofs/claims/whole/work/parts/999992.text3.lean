/-! texts: the reference's numbers -/
def nOk (T : Nat → Int) (n q : Nat) (lo hi : Int) : Bool := decide ((1 ≤ rn T n isD q - q ∧ rn T n isD q - q ≤ 3) ∧ lo ≤ nv T q (rn T n isD q - q) ∧ nv T q (rn T n isD q - q) ≤ hi)
section
variable {L : Nat} {s : hh_Sv}
theorem md_takesNumber_1 {T : Nat → Int} {n q : Nat} {lo hi : Int} (hlo : I32 lo) (hhi : I32 hi) : ∀ (k e : Nat) (u : hh_Sv), e + k = n → q ≤ e → Tx u T n → u 242 12 = (q : Int) → u 242 33 = nv T q (min (e - q) 3) → (∀ j, q ≤ j → j < e → isD (T j) = true) → rn T n isD e = rn T n isD q → ∃ y, md_takesNumber_b1 L lo hi (e : Int) u = ok L (zb (nOk T n q lo hi = true)) y ∧ (∀ a b, ¬ (a = 242 ∧ (b = 12 ∨ b = 33)) → y a b = u a b) ∧ y 242 12 = (((if nOk T n q lo hi = true then rn T n isD q else q) : Nat) : Int) ∧ (nOk T n q lo hi = true → y 242 33 = nv T q (rn T n isD q - q)) := by
  have fin : ∀ (e : Nat) (u : hh_Sv), e ≤ n → n ≤ 600 → q ≤ e → u 242 12 = (q : Int) → u 242 33 = nv T q (min (e - q) 3) → (∀ j, q ≤ j → j < e → isD (T j) = true) → rn T n isD q = e → ∃ y, md_takesNumber_b3 L lo hi (e : Int) u = ok L (zb (nOk T n q lo hi = true)) y ∧ (∀ a b, ¬ (a = 242 ∧ (b = 12 ∨ b = 33)) → y a b = u a b) ∧ y 242 12 = (((if nOk T n q lo hi = true then rn T n isD q else q) : Nat) : Int) ∧ (nOk T n q lo hi = true → y 242 33 = nv T q (rn T n isD q - q)) := by
    intro e u he hn hqe h12 h33 hD hr
    have no : ¬ nOk T n q lo hi = true → ok L 0 u = ok L (zb (nOk T n q lo hi = true)) u ∧ (∀ a b, ¬ (a = 242 ∧ (b = 12 ∨ b = 33)) → u a b = u a b) ∧ u 242 12 = (((if nOk T n q lo hi = true then rn T n isD q else q) : Nat) : Int) ∧ (nOk T n q lo hi = true → u 242 33 = nv T q (rn T n isD q - q)) := fun hx => ⟨by rw [zb_0 hx], fun _ _ _ => rfl, by rw [if_neg hx]; exact h12, fun z => absurd z hx⟩
    rw [md_takesNumber_b3_eq, h12, w32_id (i := (e : Int)) (by omega) (by omega), w32_id (i := (q : Int)) (by omega) (by omega)]
    by_cases e0 : e = q
    · rw [if_pos (by omega)]
      exact ⟨u, no (fun z => by have := (of_decide_eq_true z).1; omega)⟩
    rw [if_neg (by omega), w32_id (i := (e : Int) - (q : Int)) (by omega) (by omega)]
    by_cases e3 : 3 < e - q
    · rw [if_pos (by omega)]
      exact ⟨u, no (fun z => by have := (of_decide_eq_true z).1; omega)⟩
    have hm : min (e - q) 3 = e - q := by omega
    rw [hm] at h33
    have nb := nv_bd (T := T) (q := q) (e - q) (fun j hj => hD _ (by omega) (by omega))
    have pb := p10 (e - q) (by omega)
    rw [if_neg (by omega), h33, md_isIn_ok ⟨by omega, by omega⟩ hlo hhi, ok_bind]
    dsimp only
    by_cases ei : lo ≤ nv T q (e - q) ∧ nv T q (e - q) ≤ hi
    · have hx : nOk T n q lo hi = true := decide_eq_true (by rw [hr]; exact ⟨by omega, ei⟩)
      refine ⟨up u 242 12 (e : Int), ?_, fun a b hn => ?_, ?_, fun _ => ?_⟩
      · rw [if_neg (fun z => zb_w.mp z ei), zb_1 hx]
      · unfold up
        rw [if_neg (fun z => hn ⟨z.1, Or.inl z.2⟩)]
      · rw [up_s, if_pos hx, hr]
      · rw [up_j (by decide), hr]
        exact h33
    · rw [if_pos (zb_w.mpr ei)]
      exact ⟨u, no (fun z => ei (by have := (of_decide_eq_true z).2; rw [hr] at this; exact this))⟩
  intro k
  induction k with
  | zero =>
    intro e u he hqe h h12 h33 hD hr
    obtain ⟨a, b, c⟩ := h
    rw [md_takesNumber_b1_eq, if_neg (by rw [a, w32_id (by omega) (by omega), w32_id (by omega) (by omega)]; omega)]
    exact fin e u (by omega) b hqe h12 h33 hD (by rw [← hr, rn_end (by omega)])
  | succ k ih =>
    intro e u he hqe h h12 h33 hD hr
    have hT := h
    obtain ⟨a, b, c⟩ := h
    obtain ⟨c1, c2, c3⟩ := c e (by omega)
    have hin : (0 : Int) ≤ (e : Int) ∧ (e : Int) < 600 := by omega
    have cw : w32 (u 261 e) = T e := by rw [c1]; exact w32_id (by omega) (by omega)
    have stop : ¬ isD (T e) = true → rn T n isD q = e := fun hf => by rw [← hr, rn_no (by omega) hf]
    rw [md_takesNumber_b1_eq, if_pos (by rw [a, w32_id (by omega) (by omega), w32_id (by omega) (by omega)]; omega), if_pos hin, Int.toNat_natCast, cw]
    by_cases e1 : T e < 48
    · rw [if_pos e1]
      exact fin e u (by omega) b hqe h12 h33 hD (stop (fun q => absurd (of_decide_eq_true q) (by omega)))
    rw [if_neg e1, if_pos hin]
    by_cases e2 : 57 < T e
    · rw [if_pos e2]
      exact fin e u (by omega) b hqe h12 h33 hD (stop (fun q => absurd (of_decide_eq_true q) (by omega)))
    rw [if_neg e2]
    have hf : isD (T e) = true := decide_eq_true (by omega)
    have hD2 : ∀ j, q ≤ j → j < e + 1 → isD (T j) = true := fun j a b => by
      by_cases q2 : j = e
      · rw [q2]; exact hf
      · exact hD j a (by omega)
    have hr2 : rn T n isD (e + 1) = rn T n isD q := by rw [← rn_go (by omega) hf]; exact hr
    by_cases h3 : e - q < 3
    · have g : FX u (up u 242 33 (10 * u 242 33 + u 261 e - 48)) := FX.rf.wr (Or.inr (Or.inr rfl))
      obtain ⟨y, y1, y2, y3, y4⟩ := ih (e + 1) (up u 242 33 (10 * u 242 33 + u 261 e - 48)) (by omega) (by omega) (hT.x g) (by rw [up_j (by decide)]; exact h12) (by rw [up_s, h33, c1, show min (e + 1 - q) 3 = min (e - q) 3 + 1 by omega, nv, show q + min (e - q) 3 = e by omega]) hD2 hr2
      refine ⟨y, ?_, fun i j hn => ?_, y3, y4⟩
      · rw [if_pos (by rw [h12, w32_id (by omega) (by omega)]; omega), if_pos hin]
        exact y1
      · rw [y2 i j hn]
        unfold up
        rw [if_neg (fun z => hn ⟨z.1, Or.inr z.2⟩)]
    · obtain ⟨y, y1, y2, y3, y4⟩ := ih (e + 1) u (by omega) (by omega) hT h12 (by rw [h33, show min (e - q) 3 = min (e + 1 - q) 3 by omega]) hD2 hr2
      refine ⟨y, ?_, y2, y3, y4⟩
      rw [if_neg (by rw [h12, w32_id (by omega) (by omega)]; omega)]
      exact y1
theorem md_takesNumber_ok {T : Nat → Int} {n p : Nat} {lo hi : Int} (h : Tx s T n) (hp : s 242 12 = (p : Int)) (hn : p ≤ n) (hlo : I32 lo) (hhi : I32 hi) : ∃ y, md_takesNumber L lo hi s = ok L (zb (nOk T n (rn T n isB p) lo hi = true)) y ∧ (∀ a b, ¬ (a = 242 ∧ (b = 12 ∨ b = 33)) → y a b = s a b) ∧ y 242 12 = (((if nOk T n (rn T n isB p) lo hi = true then rn T n isD (rn T n isB p) else rn T n isB p) : Nat) : Int) ∧ (nOk T n (rn T n isB p) lo hi = true → y 242 33 = nv T (rn T n isB p) (rn T n isD (rn T n isB p) - rn T n isB p)) := by
  obtain ⟨u, u1, u2, u3⟩ := md_blanks_ok (L := L) h hp hn
  obtain ⟨b1, -, -⟩ := rn_bd (T := T) (n := n) (f := isB) (n - p) p (by omega)
  have g : FX s (up u 242 33 0) := FX.wr (fun k j hk => u2 k j (fun q => hk ⟨q.1, Or.inl q.2⟩)) (Or.inr (Or.inr rfl))
  obtain ⟨y, y1, y2, y3, y4⟩ := md_takesNumber_1 (L := L) (q := rn T n isB p) hlo hhi (n - rn T n isB p) (rn T n isB p) (up u 242 33 0) (by omega) (by omega) (h.x g) (by rw [up_j (by decide)]; exact u3) (by rw [up_s, Nat.sub_self]; rfl) (fun j a b => by omega) rfl
  refine ⟨y, ?_, fun a b hq => ?_, y3, y4⟩
  · rw [md_takesNumber_eq, u1, ok_bind]
    dsimp only
    rw [u3]
    exact y1
  · rw [y2 a b hq]
    unfold up
    rw [if_neg (fun z => hq ⟨z.1, Or.inr z.2⟩)]
    exact u2 a b (fun z => hq ⟨z.1, Or.inl z.2⟩)
end
