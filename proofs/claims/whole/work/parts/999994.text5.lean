/-! texts: which word, in both -/
theorem wv_pos {T : Nat → Int} {q : Nat} : ∀ (m : Nat), 1 ≤ m → (∀ j, j < m → 1 ≤ T (q + j)) → 0 < wv T q m
  | 0, h, _ => by omega
  | 1, _, h => by
    have := h 0 (by decide)
    show 0 < (0 : Int) * 256 + T (q + 0)
    omega
  | m + 2, _, h => by
    have ih := wv_pos (T := T) (q := q) (m + 1) (by omega) (fun j hj => h j (by omega))
    have := h (m + 1) (by omega)
    rw [wv]
    omega
theorem wv_inj {T S : Nat → Int} {q r : Nat} : ∀ (m k : Nat), (∀ j, j < m → 1 ≤ T (q + j) ∧ T (q + j) ≤ 255) → (∀ j, j < k → 1 ≤ S (r + j) ∧ S (r + j) ≤ 255) → wv T q m = wv S r k → m = k ∧ ∀ j, j < m → T (q + j) = S (r + j)
  | 0, 0, _, _, _ => ⟨rfl, fun j hj => by omega⟩
  | 0, k + 1, _, h, e => by
    have := wv_pos (T := S) (q := r) (k + 1) (by omega) (fun j hj => (h j hj).1)
    rw [← e, wv] at this
    omega
  | m + 1, 0, h, _, e => by
    have := wv_pos (T := T) (q := q) (m + 1) (by omega) (fun j hj => (h j hj).1)
    rw [e, wv] at this
    omega
  | m + 1, k + 1, h1, h2, e => by
    rw [wv, wv] at e
    have a1 := h1 m (by omega)
    have a2 := h2 k (by omega)
    have e1 : T (q + m) = S (r + k) := by omega
    obtain ⟨i1, i2⟩ := wv_inj m k (fun j hj => h1 j (by omega)) (fun j hj => h2 j (by omega)) (by omega)
    refine ⟨by omega, fun j hj => ?_⟩
    by_cases q2 : j = m
    · rw [q2, e1, i1]
    · exact i2 j (by omega)
/-- a word's number in the reference -/
def wq (w : Nat) : Int := wv st_o4 (wo w) (wz w)
theorem wq_ne : ∀ w, w < 21 → ∀ x, x < 21 → wq w = wq x → w = x := by decide +kernel
theorem wq_v : wq 0 = 6842740 ∧ wq 1 = 114767740298610 ∧ wq 2 = 29120983992657252 ∧ wq 3 = 1751216740 ∧ wq 4 = 444350952036 ∧ wq 5 = 495873782885 ∧ wq 6 = 7501166 ∧ wq 7 = 1835627379 ∧ wq 8 = 482854658917 ∧ wq 9 = 1751741555 ∧ wq 10 = 495672455781 ∧ wq 11 = 1920298611 ∧ wq 12 = 418330731890 ∧ wq 13 = 30521817456538484 ∧ wq 14 = 482670637683 ∧ wq 15 = 439855772532 ∧ wq 16 = 1885434739 ∧ wq 17 = 26982 ∧ wq 18 = 6385252 ∧ wq 19 = 28530 ∧ wq 20 = 7237492 := by decide +kernel
theorem wv_cg {T S : Nat → Int} {q r : Nat} : ∀ (m : Nat), (∀ j, j < m → T (q + j) = S (r + j)) → wv T q m = wv S r m
  | 0, _ => rfl
  | m + 1, h => by rw [wv, wv, wv_cg m (fun j hj => h j (by omega)), h m (by omega)]
theorem wm_iff {T : Nat → Int} {n q w : Nat} (hq : q ≤ n) (hw : w < 21) : wm T q (rn T n isA q) w = true ↔ wc T n q = wq w := by
  obtain ⟨h1, h2, h3⟩ := rn_bd (T := T) (n := n) (f := isA) (n - q) q (by omega)
  obtain ⟨t1, t2, t3, t4, t5⟩ := w_tx w hw
  constructor
  · intro h
    have h := of_decide_eq_true h
    unfold wc wq
    rw [if_pos (by omega), h.1]
    exact wv_cg _ h.2
  · intro h
    have hp : 0 < wq w := wv_pos _ t4.1 (fun j hj => by have := t5 j hj; omega)
    unfold wc at h
    by_cases h7 : rn T n isA q - q ≤ 7
    · rw [if_pos h7] at h
      obtain ⟨a, b⟩ := wv_inj _ _ (fun j hj => by
        have := of_decide_eq_true (h3 (q + j) (by omega) (by omega))
        omega) (fun j hj => by have := t5 j hj; omega) h
      exact decide_eq_true ⟨a, fun j hj => b j (by omega)⟩
    · rw [if_neg h7] at h
      omega
/-- the class's number of the word at q -/
def wx (T : Nat → Int) (n q : Nat) : Int := wiF T q (rn T n isA q) 21 0
theorem wiF_iff {T : Nat → Int} {n q w : Nat} (hq : q ≤ n) (hw : w < 21) : ∀ (k x : Nat), x + k = 21 → x ≤ w → (wiF T q (rn T n isA q) k x = (w : Int) ↔ wc T n q = wq w)
  | 0, x, h, hx => by omega
  | k + 1, x, h, hx => by
    rw [wiF]
    by_cases hm : wm T q (rn T n isA q) x = true
    · rw [if_pos hm]
      have e := (wm_iff hq (by omega)).mp hm
      rw [e]
      exact ⟨fun z => by rw [show x = w by omega], fun z => by rw [wq_ne x (by omega) w hw z]⟩
    · rw [if_neg hm]
      by_cases ex : x = w
      · have hn : ¬ wc T n q = wq w := fun z => hm ((wm_iff hq (by omega)).mpr (by rw [ex]; exact z))
        refine ⟨fun z => ?_, fun z => absurd z hn⟩
        exfalso
        have lo : ∀ (k y : Nat), wiF T q (rn T n isA q) k y = -1 ∨ (y : Int) ≤ wiF T q (rn T n isA q) k y := by
          intro k
          induction k with
          | zero => intro y; exact Or.inl rfl
          | succ k ih =>
            intro y
            rw [wiF]
            split
            · exact Or.inr (Int.le_refl _)
            · have := ih (y + 1)
              omega
        have := lo k (x + 1)
        omega
      · exact wiF_iff hq hw k (x + 1) (by omega) (by omega)
theorem wx_iff {T : Nat → Int} {n q w : Nat} (hq : q ≤ n) (hw : w < 21) : wx T n q = (w : Int) ↔ wc T n q = wq w := wiF_iff hq hw 21 0 (by omega) (by omega)
theorem wiF_bd {T : Nat → Int} {q e : Nat} : ∀ (k x : Nat), x + k = 21 → -1 ≤ wiF T q e k x ∧ wiF T q e k x < 21
  | 0, x, h => by rw [wiF]; omega
  | k + 1, x, h => by
    have := wiF_bd (T := T) (q := q) (e := e) k (x + 1) (by omega)
    rw [wiF]
    split <;> omega
theorem wx_bd {T : Nat → Int} {n q : Nat} : -1 ≤ wx T n q ∧ wx T n q < 21 := wiF_bd 21 0 (by omega)
