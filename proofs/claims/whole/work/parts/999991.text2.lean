/-! texts: the reference's words and numbers -/
theorem bOr_comm {a b : Int} : bOr a b = bOr b a := by
  unfold bOr
  rw [BitVec.or_comm]
/-- the letters as one number -/
def wv (T : Nat → Int) (q : Nat) : Nat → Int
  | 0 => 0
  | m + 1 => wv T q m * 256 + T (q + m)
def nv (T : Nat → Int) (q : Nat) : Nat → Int
  | 0 => 0
  | m + 1 => 10 * nv T q m + T (q + m) - 48
def wc (T : Nat → Int) (n q : Nat) : Int := if rn T n isA q - q ≤ 7 then wv T q (rn T n isA q - q) else 0
theorem wv_bd {T : Nat → Int} {q : Nat} : ∀ (m : Nat), (∀ j, j < m → isA (T (q + j)) = true) → 0 ≤ wv T q m ∧ wv T q m < 256 ^ m
  | 0, _ => by rw [wv]; decide
  | m + 1, h => by
    have ih := wv_bd m (fun j hj => h j (by omega))
    have h2 : 97 ≤ T (q + m) ∧ T (q + m) ≤ 122 := of_decide_eq_true (h m (by omega))
    rw [wv, Int.pow_succ]
    omega
theorem p256 : ∀ m : Nat, m ≤ 7 → (256 : Int) ^ m ≤ 72057594037927936 := fun m hm => (show ∀ m : Nat, m < 8 → (256 : Int) ^ m ≤ 72057594037927936 by decide +kernel) m (by omega)
theorem p256b : ∀ m : Nat, m ≤ 6 → (256 : Int) ^ m ≤ 281474976710656 := fun m hm => (show ∀ m : Nat, m < 7 → (256 : Int) ^ m ≤ 281474976710656 by decide +kernel) m (by omega)
theorem nv_bd {T : Nat → Int} {q : Nat} : ∀ (m : Nat), (∀ j, j < m → isD (T (q + j)) = true) → 0 ≤ nv T q m ∧ nv T q m < 10 ^ m
  | 0, _ => by rw [nv]; decide
  | m + 1, h => by
    have ih := nv_bd m (fun j hj => h j (by omega))
    have h2 : 48 ≤ T (q + m) ∧ T (q + m) ≤ 57 := of_decide_eq_true (h m (by omega))
    rw [nv, Int.pow_succ]
    omega
theorem p10 : ∀ m : Nat, m ≤ 3 → (10 : Int) ^ m ≤ 1000 := fun m hm => (show ∀ m : Nat, m < 4 → (10 : Int) ^ m ≤ 1000 by decide +kernel) m (by omega)
section
variable {L : Nat} {s : hh_Sv}
theorem wc_bd {T : Nat → Int} {n q : Nat} (hq : q ≤ n) : 0 ≤ wc T n q ∧ wc T n q < 72057594037927936 := by
  obtain ⟨h1, h2, h3⟩ := rn_bd (T := T) (n := n) (f := isA) (n - q) q (by omega)
  unfold wc
  split
  · rename_i h7
    have := wv_bd (T := T) (q := q) (rn T n isA q - q) (fun j hj => h3 _ (by omega) (by omega))
    have := p256 _ h7
    omega
  · omega
theorem md_word_1 {T : Nat → Int} {n q : Nat} (hq : q ≤ n) : ∀ (k e : Nat) (l1 : Int) (u : hh_Sv), e + k = n → q ≤ e → Tx u T n → u 242 12 = (q : Int) → u 242 32 = (e : Int) → (∀ j, q ≤ j → j < e → isA (T j) = true) → rn T n isA e = rn T n isA q → l1 = (if e - q ≤ 7 then wv T q (e - q) else 0) → ∃ y, md_word_b1 L l1 u = ok L (wc T n q) y ∧ (∀ a b, ¬ (a = 242 ∧ b = 32) → y a b = u a b) ∧ y 242 32 = ((rn T n isA q : Nat) : Int) := by
  have fin : ∀ (e : Nat) (l1 : Int) (u : hh_Sv), e ≤ n → n ≤ 600 → q ≤ e → u 242 12 = (q : Int) → u 242 32 = (e : Int) → rn T n isA q = e → l1 = (if e - q ≤ 7 then wv T q (e - q) else 0) → md_word_b4 L l1 u = ok L (wc T n q) u := by
    intro e l1 u he hn hqe h12 h32 hr hl
    rw [md_word_b4_eq, h12, h32, w32_id (by omega) (by omega)]
    unfold wc
    rw [hr]
    by_cases h7 : e - q ≤ 7
    · rw [if_neg (by omega), if_pos h7, hl, if_pos h7]
    · rw [if_pos (by omega), if_neg h7]
  intro k
  induction k with
  | zero =>
    intro e l1 u he hqe h h12 h32 hA hr hl
    obtain ⟨a, b, c⟩ := h
    have hr2 : rn T n isA q = e := by rw [← hr, rn_end (by omega)]
    refine ⟨u, ?_, fun _ _ _ => rfl, by rw [h32, hr2]⟩
    rw [md_word_b1_eq, if_neg (by rw [h32, a, w32_id (by omega) (by omega), w32_id (by omega) (by omega)]; omega)]
    exact fin e l1 u (by omega) b hqe h12 h32 hr2 hl
  | succ k ih =>
    intro e l1 u he hqe h h12 h32 hA hr hl
    have hT := h
    obtain ⟨a, b, c⟩ := h
    obtain ⟨c1, c2, c3⟩ := c e (by omega)
    have hin : (0 : Int) ≤ u 242 32 ∧ u 242 32 < 600 := by omega
    have cw : w32 (u 261 (u 242 32).toNat) = T e := by rw [h32, Int.toNat_natCast, c1]; exact w32_id (by omega) (by omega)
    have stop : ¬ isA (T e) = true → ∃ y, md_word_b4 L l1 u = ok L (wc T n q) y ∧ (∀ a b, ¬ (a = 242 ∧ b = 32) → y a b = u a b) ∧ y 242 32 = ((rn T n isA q : Nat) : Int) := fun hf => by
      have hr2 : rn T n isA q = e := by rw [← hr, rn_no (by omega) hf]
      exact ⟨u, fin e l1 u (by omega) b hqe h12 h32 hr2 hl, fun _ _ _ => rfl, by rw [h32, hr2]⟩
    rw [md_word_b1_eq, if_pos (by rw [h32, a, w32_id (by omega) (by omega), w32_id (by omega) (by omega)]; omega), if_pos hin]
    by_cases e1 : T e < 97
    · rw [if_pos (by rw [cw]; exact e1)]
      exact stop (fun q => absurd (of_decide_eq_true q) (by omega))
    rw [if_neg (by rw [cw]; exact e1), if_pos hin]
    by_cases e2 : 122 < T e
    · rw [if_pos (by rw [cw]; exact e2)]
      exact stop (fun q => absurd (of_decide_eq_true q) (by omega))
    rw [if_neg (by rw [cw]; exact e2)]
    have hf : isA (T e) = true := decide_eq_true (by omega)
    have go : ∀ l2 : Int, l2 = (if e + 1 - q ≤ 7 then wv T q (e + 1 - q) else 0) → ∃ y, md_word_b3 L l2 u = ok L (wc T n q) y ∧ (∀ a b, ¬ (a = 242 ∧ b = 32) → y a b = u a b) ∧ y 242 32 = ((rn T n isA q : Nat) : Int) := fun l2 hl2 => by
      have g : FX u (up u 242 32 ((e : Int) + 1)) := FX.rf.wr (Or.inr (Or.inl rfl))
      obtain ⟨y, y1, y2, y3⟩ := ih (e + 1) l2 (up u 242 32 ((e : Int) + 1)) (by omega) (by omega) (hT.x g) (by rw [up_j (by decide)]; exact h12) up_s (fun j a b => by
        by_cases q2 : j = e
        · rw [q2]; exact hf
        · exact hA j a (by omega)) (by rw [← rn_go (by omega) hf]; exact hr) hl2
      refine ⟨y, ?_, fun i j hn => ?_, y3⟩
      · rw [md_word_b3_eq, h32]
        exact y1
      · rw [y2 i j hn]
        unfold up
        rw [if_neg hn]
    by_cases h7 : e - q < 7
    · have wb := wv_bd (T := T) (q := q) (e - q) (fun j hj => hA _ (by omega) (by omega))
      have pb := p256b (e - q) (by omega)
      have el : bOr (lShl l1 8) (T e) = (if e + 1 - q ≤ 7 then wv T q (e + 1 - q) else 0) := by
        rw [if_pos (by omega), hl, if_pos (by omega), lShl_id (b := 8) (k := 8) rfl (by decide), bOr_comm, bOr_add (n := 8) (by omega) (by omega) wb.1 (by omega), show e + 1 - q = (e - q) + 1 by omega, wv, show q + (e - q) = e by omega]
        omega
      rw [if_pos (by rw [h32, h12, w32_id (by omega) (by omega)]; omega), if_pos hin, cw, el]
      exact go _ rfl
    · rw [if_neg (by rw [h32, h12, w32_id (by omega) (by omega)]; omega)]
      exact go 0 (by rw [if_neg (by omega)])
theorem md_word_ok {T : Nat → Int} {n p : Nat} (h : Tx s T n) (hp : s 242 12 = (p : Int)) (hn : p ≤ n) : ∃ y, md_word L s = ok L (wc T n (rn T n isB p)) y ∧ (∀ a b, ¬ (a = 242 ∧ (b = 12 ∨ b = 32)) → y a b = s a b) ∧ y 242 12 = ((rn T n isB p : Nat) : Int) ∧ y 242 32 = ((rn T n isA (rn T n isB p) : Nat) : Int) := by
  obtain ⟨u, u1, u2, u3⟩ := md_blanks_ok (L := L) h hp hn
  obtain ⟨b1, -, -⟩ := rn_bd (T := T) (n := n) (f := isB) (n - p) p (by omega)
  have g : FX s (up u 242 32 (u 242 12)) := FX.wr (fun k j hk => u2 k j (fun q => hk ⟨q.1, Or.inl q.2⟩)) (Or.inr (Or.inl rfl))
  obtain ⟨y, y1, y2, y3⟩ := md_word_1 (L := L) (q := rn T n isB p) b1.2 (n - rn T n isB p) (rn T n isB p) 0 (up u 242 32 (u 242 12)) (by omega) (by omega) (h.x g) (by rw [up_j (by decide)]; exact u3) (by rw [up_s]; exact u3) (fun j a b => by omega) rfl (by rw [Nat.sub_self, if_pos (by decide), wv])
  refine ⟨y, ?_, fun a b hq => ?_, ?_, y3⟩
  · rw [md_word_eq, u1, ok_bind]
    exact y1
  · rw [y2 a b (fun z => hq ⟨z.1, Or.inr z.2⟩)]
    unfold up
    rw [if_neg (fun z => hq ⟨z.1, Or.inr z.2⟩)]
    exact u2 a b (fun z => hq ⟨z.1, Or.inl z.2⟩)
  · rw [y2 _ _ (by omega), up_j (by decide)]
    exact u3
theorem md_takes_ok {T : Nat → Int} {n p : Nat} {c : Int} (h : Tx s T n) (hp : s 242 12 = (p : Int)) (hn : p ≤ n) (hc : I64 c) : ∃ y, md_takes L c s = ok L (zb (wc T n (rn T n isB p) = c)) y ∧ (∀ a b, ¬ (a = 242 ∧ (b = 12 ∨ b = 32)) → y a b = s a b) ∧ y 242 12 = (((if wc T n (rn T n isB p) = c then rn T n isA (rn T n isB p) else rn T n isB p) : Nat) : Int) := by
  obtain ⟨y, y1, y2, y3, y4⟩ := md_word_ok (L := L) h hp hn
  obtain ⟨b1, -, -⟩ := rn_bd (T := T) (n := n) (f := isB) (n - p) p (by omega)
  have hw := wc_bd (T := T) b1.2
  have hI : I64 (wc T n (rn T n isB p)) := ⟨by omega, by omega⟩
  rw [md_takes_eq, y1, ok_bind]
  dsimp only
  by_cases e : wc T n (rn T n isB p) = c
  · refine ⟨up y 242 12 (y 242 32), ?_, fun a b hq => ?_, ?_⟩
    · rw [if_pos (lCmp_eq.mpr (by rw [e])), zb_1 e]
    · unfold up
      rw [if_neg (fun z => hq ⟨z.1, Or.inl z.2⟩)]
      exact y2 a b hq
    · rw [up_s, if_pos e]
      exact y4
  · refine ⟨y, ?_, y2, ?_⟩
    · rw [if_neg (fun q => e (by have := lCmp_eq.mp q; rw [hI.w, hc.w] at this; exact this)), zb_0 e]
    · rw [if_neg e]
      exact y3
end
