/-! texts: what the class asks of a token -/
section
variable {L : Nat} {s : hh_Sv}
/-- the class reads at token i of m -/
def CR (s : hh_Sv) (T : Nat → Int) (n m i : Nat) : Prop := n ≤ 600 ∧ m ≤ n ∧ tP T n m = n ∧ (∀ j, j ≤ m → Tok s T n j) ∧ (∀ j, j < m → tP T n j < n) ∧ s 24 5 = (i : Int) ∧ i ≤ m ∧ ∀ j, j < n → -128 ≤ T j ∧ T j < 128
theorem CR.q {T : Nat → Int} {n m i : Nat} (h : CR s T n m i) : tP T n i ≤ n ∧ (i < m ↔ tP T n i < n) := by
  obtain ⟨a, b, c, d, e, f, g, k⟩ := h
  by_cases hi : i < m
  · have := e i hi
    exact ⟨by omega, by omega⟩
  · have : i = m := by omega
    rw [this, c]
    exact ⟨by omega, by omega⟩
theorem knd_w {c : Int} : w32 (knd c) = knd c := by
  unfold knd
  split
  · exact w32_1
  · split <;> exact w32_id (by decide) (by decide)
theorem tK_w {T : Nat → Int} {n q : Nat} : w32 (tK T n q) = tK T n q := by
  unfold tK
  split
  · exact knd_w
  · exact w32_0
theorem wc_0 {T : Nat → Int} {n q : Nat} (h : ¬ (q < n ∧ isA (T q) = true)) : wc T n q = 0 := by
  have e : rn T n isA q = q := by
    by_cases hq : q < n
    · exact rn_no hq (fun z => h ⟨hq, z⟩)
    · exact rn_end (by omega)
  unfold wc
  rw [e, Nat.sub_self, if_pos (by decide), wv]
theorem wq_pos {w : Nat} (hw : w < 21) : 0 < wq w := by
  obtain ⟨t1, t2, t3, t4, t5⟩ := w_tx w hw
  exact wv_pos _ t4.1 (fun j hj => by have := t5 j hj; omega)
theorem tK_1 {T : Nat → Int} {n q : Nat} : tK T n q = 1 ↔ q < n ∧ isA (T q) = true := by
  unfold tK
  by_cases h : q < n
  · rw [if_pos h, knd_1]
    exact ⟨fun z => ⟨h, z⟩, fun z => z.2⟩
  · rw [if_neg h]
    exact ⟨fun z => absurd z (by decide), fun z => absurd z.1 h⟩
theorem tK_2 {T : Nat → Int} {n q : Nat} : tK T n q = 2 ↔ q < n ∧ isD (T q) = true := by
  unfold tK
  by_cases h : q < n
  · rw [if_pos h, knd_2]
    exact ⟨fun z => ⟨h, z⟩, fun z => z.2⟩
  · rw [if_neg h]
    exact ⟨fun z => absurd z (by decide), fun z => absurd z.1 h⟩
theorem tK_3 {T : Nat → Int} {n q : Nat} : tK T n q = 3 ↔ q < n ∧ isA (T q) = false ∧ isD (T q) = false := by
  unfold tK knd
  by_cases h : q < n
  · rw [if_pos h]
    cases hA : isA (T q)
    · rw [if_neg (by decide)]
      cases hD : isD (T q)
      · rw [if_neg (by decide)]; exact ⟨fun _ => ⟨h, rfl, rfl⟩, fun _ => rfl⟩
      · rw [if_pos rfl]; exact ⟨fun z => absurd z (by decide), fun z => absurd z.2.2 (by decide)⟩
    · rw [if_pos rfl]; exact ⟨fun z => absurd z (by decide), fun z => absurd z.2.1 (by decide)⟩
  · rw [if_neg h]
    exact ⟨fun z => absurd z (by decide), fun z => absurd z.1 h⟩
theorem re_isWord_ok {T : Nat → Int} {n m i w : Nat} (h : CR s T n m i) (hw : w < 21) : re_isWord L (w : Int) s = ok L (zb (wc T n (tP T n i) = wq w)) s := by
  have hq := h.q.1
  obtain ⟨a, b, c, d, e, f, g, k⟩ := h
  obtain ⟨t1, t2, t3⟩ := d i g
  have hin : (0 : Int) ≤ s 24 5 ∧ s 24 5 < 601 := by omega
  have ei : (s 24 5).toNat = i := by omega
  have e6 : w32 (s 26 (s 24 5).toNat) = tK T n (tP T n i) := by rw [ei, t1]; exact tK_w
  rw [re_isWord_eq, if_pos hin]
  by_cases hk : tK T n (tP T n i) = 1
  · obtain ⟨k1, k2⟩ := tK_1.mp hk
    have e7 : w32 (s 27 (s 24 5).toNat) = wx T n (tP T n i) := by
      have := wx_bd (T := T) (n := n) (q := tP T n i)
      rw [ei, t2]
      unfold tC
      rw [if_pos k1, if_pos k2]
      exact w32_id (by omega) (by omega)
    rw [if_pos (by rw [e6]; exact hk), if_pos hin]
    by_cases hx : wc T n (tP T n i) = wq w
    · rw [if_pos (by rw [e7, w32_id (by omega) (by omega)]; exact (wx_iff hq hw).mpr hx), zb_1 hx]
    · rw [if_neg (by rw [e7, w32_id (by omega) (by omega)]; exact fun z => hx ((wx_iff hq hw).mp z)), re_isWord_b1_eq, zb_0 hx]
  · have := wq_pos hw
    have h0 := wc_0 (T := T) (n := n) (q := tP T n i) (fun z => hk (tK_1.mpr z))
    rw [if_neg (by rw [e6]; exact hk), re_isWord_b1_eq, zb_0 (by omega)]
theorem re_isSign_ok {T : Nat → Int} {n m i : Nat} {c : Int} (h : CR s T n m i) (hc : isA c = false ∧ isD c = false) (hI : I32 c) : re_isSign L c s = ok L (zb (tP T n i < n ∧ T (tP T n i) = c)) s := by
  obtain ⟨a, b, c', d, e, f, g, k⟩ := h
  obtain ⟨t1, t2, t3⟩ := d i g
  have hin : (0 : Int) ≤ s 24 5 ∧ s 24 5 < 601 := by omega
  have ei : (s 24 5).toNat = i := by omega
  have e6 : w32 (s 26 (s 24 5).toNat) = tK T n (tP T n i) := by rw [ei, t1]; exact tK_w
  rw [re_isSign_eq, if_pos hin]
  by_cases hk : tK T n (tP T n i) = 3
  · obtain ⟨k1, k2, k3⟩ := tK_3.mp hk
    have kb := k _ k1
    have e7 : w32 (s 27 (s 24 5).toNat) = T (tP T n i) := by
      rw [ei, t2]
      unfold tC
      rw [if_pos k1, k2, k3, if_neg (by decide), if_neg (by decide)]
      exact w32_id (by omega) (by omega)
    rw [if_pos (by rw [e6]; exact hk), if_pos hin]
    by_cases hx : T (tP T n i) = c
    · rw [if_pos (by rw [e7, hI.w]; exact hx), zb_1 ⟨k1, hx⟩]
    · rw [if_neg (by rw [e7, hI.w]; exact hx), re_isSign_b1_eq, zb_0 (fun z => hx z.2)]
  · rw [if_neg (by rw [e6]; exact hk), re_isSign_b1_eq, zb_0 (fun z => hk (tK_3.mpr ⟨z.1, by rw [z.2]; exact hc.1, by rw [z.2]; exact hc.2⟩))]
end
