/-! texts: the class's words -/
def wo (w : Nat) : Nat := [0, 4, 11, 19, 24, 30, 36, 40, 45, 51, 56, 62, 67, 73, 81, 87, 93, 98, 101, 105, 108, 112].getD w 0
def wz (w : Nat) : Nat := [3, 6, 7, 4, 5, 5, 3, 4, 5, 4, 5, 4, 5, 7, 5, 5, 4, 2, 3, 2, 3].getD w 0
theorem w_tx : ∀ w, w < 21 → st_o4 (wo w + wz w) = 32 ∧ wo (w + 1) = wo w + wz w + 1 ∧ wo w + wz w < 112 ∧ (1 ≤ wz w ∧ wz w ≤ 7) ∧ ∀ k, k < wz w → 97 ≤ st_o4 (wo w + k) ∧ st_o4 (wo w + k) ≤ 122 := by decide +kernel
theorem w_by : ∀ j, j < 112 → 0 ≤ st_o4 j ∧ st_o4 j < 128 := by decide +kernel
theorem and255 : ∀ c : Nat, c < 128 → c &&& 255 = c := by decide +kernel
/-- the span from q to e is the word w -/
def wm (T : Nat → Int) (q e w : Nat) : Bool := decide (e - q = wz w ∧ ∀ k, k < wz w → T (q + k) = st_o4 (wo w + k))
/-- the first word from w on that it is -/
def wiF (T : Nat → Int) (q e : Nat) : Nat → Nat → Int
  | 0, _ => -1
  | k + 1, w => if wm T q e w = true then (w : Int) else wiF T q e k (w + 1)
section
variable {L : Nat} {s : hh_Sv}
theorem jst_length_ok (h3 : s 3 1 = 0) : jst_length L s = ok L 112 s := by
  have e : iShr ((112 : Nat) : Int) ((0 : Nat) : Int) = ((112 / 2 ^ 0 : Nat) : Int) := iShr_nat (by decide) rfl (by decide)
  have e : iShr 112 0 = 112 := e
  rw [jst_length_eq, jst_coder_eq, h3, if_pos (by decide), ok_bind]
  dsimp only
  rw [e]
theorem jst_charAt_ok {j : Nat} (h3 : s 3 1 = 0) (h4 : ∀ j, j < 112 → s 4 j = st_o4 j) (hj : j < 112) : jst_charAt L (j : Int) s = ok L (st_o4 j) s := by
  obtain ⟨b1, b2⟩ := w_by j hj
  have ea : u16 (bAnd (st_o4 j) 255) = st_o4 j := by
    obtain ⟨c, hc⟩ := Int.eq_ofNat_of_zero_le b1
    have e := bAnd_nat (a := c) (b := 255) (by omega) (by decide)
    rw [and255 c (by omega)] at e
    have e : bAnd (c : Int) 255 = (c : Int) := e
    rw [hc, e]
    unfold u16
    rw [opq_eq]
    omega
  have ck : jst_checkIndex L (j : Int) 112 s = ok L 0 s := by
    rw [jst_checkIndex_eq, jpr_checkIndex_eq, if_neg (by rw [w32_id (by omega) (by omega)]; omega), if_pos (by rw [w32_id (by omega) (by omega), w32_id (by decide) (by decide)]; omega), ok_bind]
  rw [jst_charAt_eq, jst_isLatin1_eq, if_pos (by rw [h3]; exact w32_0), ok_bind, if_neg (by rw [w32_1]; decide)]
  dsimp only
  rw [jla_charAt_eq, ck, ok_bind, if_pos (by omega), Int.toNat_natCast]
  dsimp only
  rw [if_pos (by rw [h4 j hj, ea]; omega), h4 j hj, ea, ok_bind]
  dsimp only
  rw [if_pos (by omega)]
/-- the class's text -/
def Tc (s : hh_Sv) (T : Nat → Int) (n : Nat) : Prop := n ≤ 600 ∧ (∀ j, j < n → s 25 j = T j ∧ -128 ≤ T j ∧ T j < 128) ∧ s 3 1 = 0 ∧ ∀ j, j < 112 → s 4 j = st_o4 j
theorem re_wordIn_w {T : Nat → Int} {n q e w : Nat} (h : Tc s T n) (hq : q ≤ e) (he : e ≤ n) (hw : w < 21) : ∀ (k i : Nat) (f : Bool), i + k = wz w → (f = true ↔ ∀ j, j < i → q + j < e ∧ T (q + j) = st_o4 (wo w + j)) → re_wordIn_b1 L (q : Int) (e : Int) (w : Int) ((q + i : Nat) : Int) ((f.toNat : Nat) : Int) ((wo w + i : Nat) : Int) s = if wm T q e w = true then ok L (w : Int) s else re_wordIn_b1 L (q : Int) (e : Int) ((w : Int) + 1) (q : Int) 1 ((wo (w + 1) : Nat) : Int) s := by
  obtain ⟨n6, hT, h3, h4⟩ := h
  obtain ⟨t1, t2, t3, t4, t5⟩ := w_tx w hw
  intro k
  induction k with
  | zero =>
    intro i f hi hf
    rw [Nat.add_zero] at hi
    subst hi
    have b5 : re_wordIn_b5 L (q : Int) (e : Int) (w : Int) ((wo w + wz w : Nat) : Int) s = re_wordIn_b1 L (q : Int) (e : Int) ((w : Int) + 1) (q : Int) 1 ((wo (w + 1) : Nat) : Int) s := by
      rw [re_wordIn_b5_eq, t2]
      rfl
    rw [re_wordIn_b1_eq, jst_length_ok h3, ok_bind]
    dsimp only
    rw [if_pos (by rw [w32_id (by omega) (by omega), w32_id (by decide) (by decide)]; omega)]
    rw [jst_charAt_ok h3 h4 t3, ok_bind, t1]
    dsimp only
    rw [if_pos (w32_id (by decide) (by decide))]
    cases f
    · rw [if_pos bw_f, b5, if_neg (fun z => by
        have z := of_decide_eq_true z
        have := hf.mpr (fun j hj => ⟨by omega, z.2 j hj⟩)
        exact absurd this (by decide))]
    · have hf := hf.mp rfl
      rw [if_neg bw_t, w32_id (by omega) (by omega), w32_id (by omega) (by omega)]
      by_cases e1 : q + wz w = e
      · rw [if_pos (by omega), if_pos (show wm T q e w = true from decide_eq_true ⟨by omega, fun j hj => (hf j hj).2⟩)]
      · rw [if_neg (by omega), b5, if_neg (fun z => by
          have z := of_decide_eq_true z
          omega)]
  | succ k ih =>
    intro i f hi hf
    obtain ⟨c1, c2⟩ := t5 i (by omega)
    have nx : ∀ g : Bool, (g = true ↔ ∀ j, j < i + 1 → q + j < e ∧ T (q + j) = st_o4 (wo w + j)) → re_wordIn_b3 L (q : Int) (e : Int) (w : Int) ((q + i : Nat) : Int) ((wo w + i : Nat) : Int) ((g.toNat : Nat) : Int) s = if wm T q e w = true then ok L (w : Int) s else re_wordIn_b1 L (q : Int) (e : Int) ((w : Int) + 1) (q : Int) 1 ((wo (w + 1) : Nat) : Int) s := fun g hg => by
      rw [re_wordIn_b3_eq]
      exact ih (i + 1) g (by omega) hg
    have n0 : ¬ (∀ j, j < i + 1 → q + j < e ∧ T (q + j) = st_o4 (wo w + j)) → re_wordIn_b2 L (q : Int) (e : Int) (w : Int) ((q + i : Nat) : Int) ((wo w + i : Nat) : Int) s = if wm T q e w = true then ok L (w : Int) s else re_wordIn_b1 L (q : Int) (e : Int) ((w : Int) + 1) (q : Int) 1 ((wo (w + 1) : Nat) : Int) s := fun hn => by
      rw [re_wordIn_b2_eq]
      exact nx false ⟨fun z => absurd z (by decide), fun z => absurd z hn⟩
    rw [re_wordIn_b1_eq, jst_length_ok h3, ok_bind]
    dsimp only
    rw [if_pos (by rw [w32_id (by omega) (by omega), w32_id (by decide) (by decide)]; omega)]
    rw [jst_charAt_ok h3 h4 (by omega), ok_bind]
    dsimp only
    rw [if_neg (by rw [w32_id (by omega) (by omega)]; omega)]
    cases f
    · rw [if_pos bw_f]
      exact n0 (fun z => absurd (hf.mpr (fun j hj => z j (by omega))) (by decide))
    · have hf := hf.mp rfl
      rw [if_neg bw_t, w32_id (i := ((q + i : Nat) : Int)) (by omega) (by omega), w32_id (i := (e : Int)) (by omega) (by omega)]
      by_cases e1 : q + i < e
      · obtain ⟨d1, d2, d3⟩ := hT (q + i) (by omega)
        have ed : w32 (s 25 (q + i)) = T (q + i) := by rw [d1]; exact w32_id (by omega) (by omega)
        have ee : w32 (st_o4 (wo w + i)) = st_o4 (wo w + i) := w32_id (by omega) (by omega)
        rw [if_pos (by omega), if_pos (by omega), Int.toNat_natCast]
        by_cases e2 : T (q + i) = st_o4 (wo w + i)
        · rw [if_pos (by rw [ed, ee]; exact e2)]
          exact nx true ⟨fun _ j hj => by
            by_cases q2 : j = i
            · rw [q2]; exact ⟨e1, e2⟩
            · exact hf j (by omega), fun _ => rfl⟩
        · rw [if_neg (by rw [ed, ee]; exact e2)]
          exact n0 (fun z => e2 (z i (by omega)).2)
      · rw [if_neg (by omega)]
        exact n0 (fun z => e1 (z i (by omega)).1)
theorem re_wordIn_k {T : Nat → Int} {n q e : Nat} (h : Tc s T n) (hq : q ≤ e) (he : e ≤ n) : ∀ (k w : Nat), w + k = 21 → re_wordIn_b1 L (q : Int) (e : Int) (w : Int) (q : Int) 1 ((wo w : Nat) : Int) s = ok L (wiF T q e k w) s
  | 0, w, hw => by
    rw [Nat.add_zero] at hw
    subst hw
    rw [re_wordIn_b1_eq, jst_length_ok h.2.2.1, ok_bind]
    dsimp only
    rw [if_neg (show ¬ w32 ((wo 21 : Nat) : Int) < w32 112 from Int.lt_irrefl (w32 112)), wiF]
  | k + 1, w, hw => by
    have a := re_wordIn_w (L := L) h hq he (show w < 21 by omega) (wz w) 0 true (by omega) ⟨fun _ j hj => by omega, fun _ => rfl⟩
    have a : re_wordIn_b1 L (q : Int) (e : Int) (w : Int) (q : Int) 1 ((wo w : Nat) : Int) s = _ := a
    rw [a, wiF]
    by_cases hm : wm T q e w = true
    · rw [if_pos hm, if_pos hm]
    · rw [if_neg hm, if_neg hm]
      exact re_wordIn_k h hq he k (w + 1) (by omega)
theorem re_wordIn_ok {T : Nat → Int} {n q e : Nat} (h : Tc s T n) (hq : q ≤ e) (he : e ≤ n) : re_wordIn L (q : Int) (e : Int) s = ok L (wiF T q e 21 0) s := by
  rw [re_wordIn_eq]
  exact re_wordIn_k h hq he 21 0 (by omega)
end
