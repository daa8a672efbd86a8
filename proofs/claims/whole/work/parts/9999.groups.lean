/-! groups -/
def aps (P : Nat → Int) (f n : Nat) : Int := sg (fun i => (((P (f + i) - P (f + (n - 1) / 2)).natAbs : Nat) : Int)) n
theorem aps_bd {P : Nat → Int} (hP : ∀ i, 0 ≤ P i ∧ P i ≤ 144000) {f n : Nat} : 0 ≤ aps P f n ∧ aps P f n ≤ 144000 * n := by
  have hb : ∀ i, 0 ≤ (((P (f + i) - P (f + (n - 1) / 2)).natAbs : Nat) : Int) ∧ (((P (f + i) - P (f + (n - 1) / 2)).natAbs : Nat) : Int) ≤ 144000 := fun i => by
    have h1 := hP (f + i)
    have h2 := hP (f + (n - 1) / 2)
    omega
  exact ⟨sg_nn (fun i _ => (hb i).1), sg_le (fun i _ => (hb i).2)⟩
abbrev Gst : Type := Int × Int × Int
/-- may the people be parted so -/
def gvl (n k a b : Nat) : Bool := (decide (0 < b) == decide (1 < k)) && (decide (0 < n - a - b) == decide (2 < k))
def gsm (P : Nat → Int) (n a b : Nat) : Int := aps P 0 a + aps P a b + aps P (a + b) (n - a - b)
def gstp (P : Nat → Int) (n k : Nat) (st : Gst) (a b : Nat) : Gst := if gvl n k a b = true then (if st.1 = -1 ∨ gsm P n a b < st.1 then (gsm P n a b, ((a : Int), (b : Int))) else st) else st
def gin (P : Nat → Int) (n k a : Nat) (st : Gst) : Nat → Gst
  | 0 => st
  | b + 1 => gstp P n k (gin P n k a st b) a b
def gou (P : Nat → Int) (n k : Nat) : Nat → Gst
  | 0 => (-1, (0, 0))
  | a + 1 => gin P n k (a + 1) (gou P n k a) (n - (a + 1) + 1)
def Gok (st : Gst) : Prop := (-1 ≤ st.1 ∧ st.1 ≤ 5184000) ∧ (0 ≤ st.2.1 ∧ st.2.1 ≤ 12) ∧ (0 ≤ st.2.2 ∧ st.2.2 ≤ 12)
theorem gsm_bd {P : Nat → Int} (hP : ∀ i, 0 ≤ P i ∧ P i ≤ 144000) {n a b : Nat} (hn : n ≤ 12) (ha : a ≤ 12) (hb : b ≤ 12) : 0 ≤ gsm P n a b ∧ gsm P n a b ≤ 5184000 := by
  have h1 := aps_bd hP (f := 0) (n := a)
  have h2 := aps_bd hP (f := a) (n := b)
  have h3 := aps_bd hP (f := a + b) (n := n - a - b)
  unfold gsm
  omega
theorem gstp_ok {P : Nat → Int} (hP : ∀ i, 0 ≤ P i ∧ P i ≤ 144000) {n k a b : Nat} {st : Gst} (hn : n ≤ 12) (ha : a ≤ 12) (hb : b ≤ 12) (h : Gok st) : Gok (gstp P n k st a b) ∧ (st.1 ≠ -1 → (gstp P n k st a b).1 ≠ -1) ∧ (gvl n k a b = true → (gstp P n k st a b).1 ≠ -1) := by
  have hs := gsm_bd hP (n := n) (a := a) (b := b) hn ha hb
  unfold gstp
  by_cases e : gvl n k a b = true
  · rw [if_pos e]
    by_cases e2 : st.1 = -1 ∨ gsm P n a b < st.1
    · rw [if_pos e2]
      exact ⟨⟨⟨by show -1 ≤ gsm P n a b; omega, hs.2⟩, ⟨by show (0 : Int) ≤ (a : Int); omega, by show (a : Int) ≤ 12; omega⟩, ⟨by show (0 : Int) ≤ (b : Int); omega, by show (b : Int) ≤ 12; omega⟩⟩, fun _ => by show gsm P n a b ≠ -1; omega, fun _ => by show gsm P n a b ≠ -1; omega⟩
    · rw [if_neg e2]
      exact ⟨h, fun q => q, fun _ q => e2 (Or.inl q)⟩
  · rw [if_neg e]
    exact ⟨h, fun q => q, fun q => absurd q e⟩
theorem gin_ok {P : Nat → Int} (hP : ∀ i, 0 ≤ P i ∧ P i ≤ 144000) {n k a : Nat} {st : Gst} (hn : n ≤ 12) (ha : a ≤ 12) (h : Gok st) : ∀ {m : Nat}, m ≤ 13 → Gok (gin P n k a st m) ∧ (st.1 ≠ -1 → (gin P n k a st m).1 ≠ -1) ∧ ((∃ b, b < m ∧ gvl n k a b = true) → (gin P n k a st m).1 ≠ -1)
  | 0, _ => ⟨h, fun q => q, fun ⟨b, hb, _⟩ => absurd hb (Nat.not_lt_zero b)⟩
  | m + 1, hm => by
    obtain ⟨i1, i2, i3⟩ := gin_ok hP (k := k) hn ha h (m := m) (by omega)
    obtain ⟨s1, s2, s3⟩ := gstp_ok hP (n := n) (k := k) (a := a) (b := m) hn ha (by omega) i1
    rw [gin]
    refine ⟨s1, fun q => s2 (i2 q), fun ⟨b, hb, hv⟩ => ?_⟩
    by_cases e : b = m
    · subst e
      exact s3 hv
    · exact s2 (i3 ⟨b, by omega, hv⟩)
theorem gou_ok {P : Nat → Int} (hP : ∀ i, 0 ≤ P i ∧ P i ≤ 144000) {n k : Nat} (hn : n ≤ 12) : ∀ {m : Nat}, m ≤ n → Gok (gou P n k m) ∧ ((∃ a b, 1 ≤ a ∧ a ≤ m ∧ a + b ≤ n ∧ gvl n k a b = true) → (gou P n k m).1 ≠ -1)
  | 0, _ => ⟨⟨by show (-1 : Int) ≤ -1 ∧ (-1 : Int) ≤ 5184000; decide, by show (0 : Int) ≤ 0 ∧ (0 : Int) ≤ 12; decide, by show (0 : Int) ≤ 0 ∧ (0 : Int) ≤ 12; decide⟩, fun ⟨a, b, h1, h2, _⟩ => by omega⟩
  | m + 1, hm => by
    obtain ⟨i1, i2⟩ := gou_ok hP (k := k) hn (m := m) (by omega)
    obtain ⟨s1, s2, s3⟩ := gin_ok hP (k := k) (a := m + 1) hn (by omega) i1 (m := n - (m + 1) + 1) (by omega)
    rw [gou]
    refine ⟨s1, fun ⟨a, b, h1, h2, h3, h4⟩ => ?_⟩
    by_cases e : a = m + 1
    · subst e
      exact s3 ⟨b, by omega, h4⟩
    · exact s2 (i2 ⟨a, b, h1, by omega, h3, h4⟩)
/-- some parting is there -/
theorem gvl_ex {n k : Nat} (hk : 1 ≤ k ∧ k ≤ 3) (hn : k ≤ n) : ∃ a b, 1 ≤ a ∧ a ≤ n ∧ a + b ≤ n ∧ gvl n k a b = true := by
  have h : k = 1 ∨ k = 2 ∨ k = 3 := by omega
  rcases h with rfl | rfl | rfl
  · refine ⟨n, 0, by omega, by omega, by omega, ?_⟩
    unfold gvl
    rw [decide_eq_false (show ¬ 0 < n - n - 0 by omega)]
    rfl
  · refine ⟨1, n - 1, by omega, by omega, by omega, ?_⟩
    unfold gvl
    rw [decide_eq_true (show 0 < n - 1 by omega), decide_eq_false (show ¬ 0 < n - 1 - (n - 1) by omega)]
    rfl
  · refine ⟨1, 1, by omega, by omega, by omega, ?_⟩
    unfold gvl
    rw [decide_eq_true (show 0 < n - 1 - 1 by omega)]
    rfl
section
variable {L : Nat} {s : hh_Sv}
theorem absI_ok {x : Int} (h : -144000 ≤ x ∧ x ≤ 144000) : jma_absI L x s = ok L ((x.natAbs : Nat) : Int) s := by
  rw [jma_absI_eq, w32_id (by omega) (by omega)]
  by_cases e : x < 0
  · rw [if_pos e, show -x = ((x.natAbs : Nat) : Int) by omega]
  · rw [if_neg e, show x = ((x.natAbs : Nat) : Int) by omega]
    rfl
theorem hx_apart_ok {P : Nat → Int} {n f m : Nat} (hP : ∀ i, 0 ≤ P i ∧ P i ≤ 144000) (hn : n ≤ 12) (hu : ∀ i, i < n → s 70 i = P i) (hf : f + m ≤ n) : hx_apart L (f : Int) (m : Int) s = ok L (aps P f m) s := by
  rw [hx_apart_eq]
  have key : ∀ (j i : Nat), i + j = m → hx_apart_b1 L (f : Int) (m : Int) (sg (fun i => (((P (f + i) - P (f + (m - 1) / 2)).natAbs : Nat) : Int)) i) ((f + i : Nat) : Int) s = ok L (aps P f m) s := by
    intro j
    induction j with
    | zero =>
      intro i e
      rw [Nat.add_zero] at e
      subst e
      rw [hx_apart_b1_eq, if_neg (by rw [w32_id (by omega) (by omega), w32_id (by omega) (by omega)]; omega)]
      rfl
    | succ j ih =>
      intro i e
      have h1 := hP (f + i)
      have h2 := hP (f + (m - 1) / 2)
      have em : (f : Int) + tDiv (w32 ((m : Int) - 1)) 2 = ((f + (m - 1) / 2 : Nat) : Int) := by
        rw [w32_id (by omega) (by omega), tDiv_nn (by omega) (by decide)]
        omega
      have := ih (i + 1) (by omega)
      rw [hx_apart_b1_eq, if_pos (by rw [w32_id (by omega) (by omega), w32_id (by omega) (by omega)]; omega), if_pos (by omega), em, if_pos (by omega), Int.toNat_natCast, Int.toNat_natCast, hu (f + i) (by omega), hu (f + (m - 1) / 2) (by omega), absI_ok (by omega), ok_bind]
      exact this
  exact key m 0 (by omega)
theorem md_apart_ok {P : Nat → Int} {n f m : Nat} (hP : ∀ i, 0 ≤ P i ∧ P i ≤ 144000) (hn : n ≤ 12) (hu : ∀ i, i < n → s 278 i = P i) (hf : f + m ≤ n) {e : Int} (he : e = ((f + m : Nat) : Int)) : md_apart L (f : Int) e s = ok L (aps P f m) s := by
  rw [md_apart_eq, he]
  have key : ∀ (j i : Nat), i + j = m → md_apart_b1 L (f : Int) ((f + m : Nat) : Int) (sg (fun i => (((P (f + i) - P (f + (m - 1) / 2)).natAbs : Nat) : Int)) i) ((f + i : Nat) : Int) s = ok L (aps P f m) s := by
    intro j
    induction j with
    | zero =>
      intro i e
      rw [Nat.add_zero] at e
      subst e
      rw [md_apart_b1_eq, if_neg (by omega)]
      rfl
    | succ j ih =>
      intro i e
      have h1 := hP (f + i)
      have h2 := hP (f + (m - 1) / 2)
      have em : tDiv (w32 ((f : Int) + ((f + m : Nat) : Int) - 1)) 2 = ((f + (m - 1) / 2 : Nat) : Int) := by
        rw [w32_id (by omega) (by omega), tDiv_nn (by omega) (by decide)]
        omega
      have := ih (i + 1) (by omega)
      rw [md_apart_b1_eq, if_pos (by rw [w32_id (by omega) (by omega), w32_id (by omega) (by omega)]; omega), if_pos (by omega), em, if_pos (by omega), Int.toNat_natCast, Int.toNat_natCast, hu (f + i) (by omega), hu (f + (m - 1) / 2) (by omega), absI_ok (by omega), ok_bind]
      exact this
  exact key m 0 (by omega)
theorem hx_groups_lp {P : Nat → Int} {n k : Nat} {a2 : Int} (hP : ∀ i, 0 ≤ P i ∧ P i ≤ 144000) (hn : n ≤ 12) (hk : 1 ≤ k ∧ k ≤ 3) (hu : ∀ i, i < n → s 70 i = P i) (h2 : I32 a2) : ∀ (j a : Nat), a + j = n → hx_groups_b4 L (k : Int) a2 (n : Int) (gou P n k a).1 (gou P n k a).2.1 (gou P n k a).2.2 ((a : Int) + 1) s = ok L (if a2 = 0 then (gou P n k n).1 else if a2 = 1 then (gou P n k n).2.1 else if a2 = 2 then (gou P n k n).2.2 else (n : Int) - (gou P n k n).2.1 - (gou P n k n).2.2) s := by
  intro j
  induction j with
  | zero =>
    intro a e
    rw [Nat.add_zero] at e
    subst e
    rw [hx_groups_b4_eq, if_pos (by rw [w32_id (by omega) (by omega), w32_id (by omega) (by omega)]; omega), h2.w]
    by_cases q0 : a2 = 0
    · rw [if_pos q0, if_pos q0]
    · rw [if_neg q0, if_neg q0]
      by_cases q1 : a2 = 1
      · rw [if_pos q1, if_pos q1]
      · rw [if_neg q1, if_neg q1]
        by_cases q2 : a2 = 2
        · rw [if_pos q2, if_pos q2]
        · rw [if_neg q2, if_neg q2]
  | succ j ih =>
    intro a e
    have inner : ∀ (j b : Nat), b + j = n - (a + 1) + 1 → hx_groups_b5 L (k : Int) a2 (n : Int) (gin P n k (a + 1) (gou P n k a) b).1 (gin P n k (a + 1) (gou P n k a) b).2.1 (gin P n k (a + 1) (gou P n k a) b).2.2 ((a + 1 : Nat) : Int) (b : Int) s = hx_groups_b4 L (k : Int) a2 (n : Int) (gou P n k (a + 1)).1 (gou P n k (a + 1)).2.1 (gou P n k (a + 1)).2.2 (((a + 1 : Nat) : Int) + 1) s := by
      intro j
      induction j with
      | zero =>
        intro b e2
        rw [Nat.add_zero] at e2
        subst e2
        rw [hx_groups_b5_eq, if_pos (by rw [w32_id (by omega) (by omega), w32_id (by omega) (by omega)]; omega)]
        rfl
      | succ j ih2 =>
        intro b e2
        have hg := (gou_ok hP (k := k) hn (m := a) (by omega)).1
        have hgi := (gin_ok hP (k := k) (a := a + 1) hn (by omega) hg (m := b) (by omega)).1
        have hs := gsm_bd hP (n := n) (a := a + 1) (b := b) hn (by omega) (by omega)
        have hnx := ih2 (b + 1) (by omega)
        have est : gin P n k (a + 1) (gou P n k a) (b + 1) = gstp P n k (gin P n k (a + 1) (gou P n k a) b) (a + 1) b := rfl
        rw [est] at hnx
        generalize gin P n k (a + 1) (gou P n k a) b = st at *
        have no : gvl n k (a + 1) b = false → hx_groups_b5 L (k : Int) a2 (n : Int) st.1 st.2.1 st.2.2 ((a + 1 : Nat) : Int) ((b : Int) + 1) s = hx_groups_b4 L (k : Int) a2 (n : Int) (gou P n k (a + 1)).1 (gou P n k (a + 1)).2.1 (gou P n k (a + 1)).2.2 (((a + 1 : Nat) : Int) + 1) s := fun q => by
          have e3 : gstp P n k st (a + 1) b = st := by unfold gstp; rw [if_neg (by rw [q]; decide)]
          rw [e3] at hnx
          exact hnx
        have b13 : ∀ c : Bool, (decide (0 < b) == decide (1 < k)) = true → c = decide (0 < n - (a + 1) - b) → hx_groups_b11 L (k : Int) a2 (n : Int) st.1 st.2.1 st.2.2 ((a + 1 : Nat) : Int) (b : Int) ((n - (a + 1) - b : Nat) : Int) ((c.toNat : Nat) : Int) s = hx_groups_b4 L (k : Int) a2 (n : Int) (gou P n k (a + 1)).1 (gou P n k (a + 1)).2.1 (gou P n k (a + 1)).2.2 (((a + 1 : Nat) : Int) + 1) s := fun c hc1 hc => by
          have hgv : gvl n k (a + 1) b = (c == decide (2 < k)) := by unfold gvl; rw [hc1, Bool.true_and, hc]
          have p13 : ∀ d : Bool, d = decide (2 < k) → hx_groups_b13 L (k : Int) a2 (n : Int) st.1 st.2.1 st.2.2 ((a + 1 : Nat) : Int) (b : Int) ((n - (a + 1) - b : Nat) : Int) ((c.toNat : Nat) : Int) ((d.toNat : Nat) : Int) s = hx_groups_b4 L (k : Int) a2 (n : Int) (gou P n k (a + 1)).1 (gou P n k (a + 1)).2.1 (gou P n k (a + 1)).2.2 (((a + 1 : Nat) : Int) + 1) s := fun d hd => by
            have tc := Bool.toNat_le c
            have td := Bool.toNat_le d
            rw [hx_groups_b13_eq, w32_id (i := ((c.toNat : Nat) : Int)) (by omega) (by omega), w32_id (i := ((d.toNat : Nat) : Int)) (by omega) (by omega)]
            rw [← hd] at hgv
            by_cases ecd : c = d
            · have hv : gvl n k (a + 1) b = true := by rw [hgv, ecd]; cases d <;> rfl
              have ap1 : hx_apart L 0 ((a + 1 : Nat) : Int) s = ok L (aps P 0 (a + 1)) s := hx_apart_ok (f := 0) hP hn hu (by omega)
              have ap2 := hx_apart_ok (L := L) (f := a + 1) (m := b) hP hn hu (by omega)
              have ap3 := hx_apart_ok (L := L) (f := a + 1 + b) (m := n - (a + 1) - b) hP hn hu (by omega)
              rw [if_pos (by rw [ecd]), ap1, ok_bind]
              dsimp only
              rw [ap2, ok_bind]
              dsimp only
              rw [show ((a + 1 : Nat) : Int) + (b : Int) = ((a + 1 + b : Nat) : Int) by omega, ap3, ok_bind]
              dsimp only
              have esum : aps P 0 (a + 1) + aps P (a + 1) b + aps P (a + 1 + b) (n - (a + 1) - b) = gsm P n (a + 1) b := rfl
              rw [esum, w32_id (i := st.1) (by have := hgi.1; omega) (by have := hgi.1; omega), w32_id (i := gsm P n (a + 1) b) (by omega) (by omega)]
              have yes : (st.1 = -1 ∨ gsm P n (a + 1) b < st.1) → hx_groups_b14 L (k : Int) a2 (n : Int) ((a + 1 : Nat) : Int) (b : Int) (gsm P n (a + 1) b) s = hx_groups_b4 L (k : Int) a2 (n : Int) (gou P n k (a + 1)).1 (gou P n k (a + 1)).2.1 (gou P n k (a + 1)).2.2 (((a + 1 : Nat) : Int) + 1) s := fun q => by
                have e3 : gstp P n k st (a + 1) b = (gsm P n (a + 1) b, (((a + 1 : Nat) : Int), (b : Int))) := by unfold gstp; rw [if_pos hv, if_pos q]
                rw [e3] at hnx
                rw [hx_groups_b14_eq]
                exact hnx
              by_cases q1 : st.1 = -1
              · rw [if_pos q1]
                exact yes (Or.inl q1)
              · rw [if_neg q1]
                by_cases q2 : gsm P n (a + 1) b < st.1
                · rw [if_pos q2]
                  exact yes (Or.inr q2)
                · have e3 : gstp P n k st (a + 1) b = st := by
                    unfold gstp
                    rw [if_pos hv, if_neg (fun q => by
                      rcases q with q | q
                      · exact q1 q
                      · exact q2 q)]
                  rw [e3] at hnx
                  rw [if_neg q2]
                  exact hnx
            · rw [if_neg (fun q => ecd (by cases c <;> cases d <;> first | rfl | (exact absurd q (by decide))))]
              exact no (by rw [hgv]; cases c <;> cases d <;> first | rfl | (exact absurd rfl ecd))
          rw [hx_groups_b11_eq, w32_id (by omega) (by omega)]
          by_cases q : 2 < k
          · rw [if_pos (by omega)]
            exact p13 true (by rw [decide_eq_true q])
          · rw [if_neg (by omega)]
            exact p13 false (by rw [decide_eq_false q])
        have b9 : ∀ c d : Bool, c = decide (0 < b) → d = decide (1 < k) → hx_groups_b9 L (k : Int) a2 (n : Int) st.1 st.2.1 st.2.2 ((a + 1 : Nat) : Int) (b : Int) ((n - (a + 1) - b : Nat) : Int) ((c.toNat : Nat) : Int) ((d.toNat : Nat) : Int) s = hx_groups_b4 L (k : Int) a2 (n : Int) (gou P n k (a + 1)).1 (gou P n k (a + 1)).2.1 (gou P n k (a + 1)).2.2 (((a + 1 : Nat) : Int) + 1) s := fun c d hc hd => by
          have tc := Bool.toNat_le c
          have td := Bool.toNat_le d
          rw [hx_groups_b9_eq, w32_id (i := ((c.toNat : Nat) : Int)) (by omega) (by omega), w32_id (i := ((d.toNat : Nat) : Int)) (by omega) (by omega)]
          by_cases ecd : c = d
          · have h1 : (decide (0 < b) == decide (1 < k)) = true := by rw [← hc, ← hd, ecd]; cases d <;> rfl
            rw [if_pos (by rw [ecd]), w32_id (i := ((n - (a + 1) - b : Nat) : Int)) (by omega) (by omega)]
            by_cases q : 0 < n - (a + 1) - b
            · rw [if_pos (by omega)]
              exact b13 true h1 (by rw [decide_eq_true q])
            · rw [if_neg (by omega)]
              exact b13 false h1 (by rw [decide_eq_false q])
          · rw [if_neg (fun q => ecd (by cases c <;> cases d <;> first | rfl | (exact absurd q (by decide))))]
            exact no (by unfold gvl; rw [← hc, ← hd]; cases c <;> cases d <;> first | rfl | (exact absurd rfl ecd))
        have b7 : ∀ c : Bool, c = decide (0 < b) → hx_groups_b7 L (k : Int) a2 (n : Int) st.1 st.2.1 st.2.2 ((a + 1 : Nat) : Int) (b : Int) ((n - (a + 1) - b : Nat) : Int) ((c.toNat : Nat) : Int) s = hx_groups_b4 L (k : Int) a2 (n : Int) (gou P n k (a + 1)).1 (gou P n k (a + 1)).2.1 (gou P n k (a + 1)).2.2 (((a + 1 : Nat) : Int) + 1) s := fun c hc => by
          rw [hx_groups_b7_eq, w32_id (by omega) (by omega)]
          by_cases q : 1 < k
          · rw [if_pos (by omega)]
            exact b9 c true hc (by rw [decide_eq_true q])
          · rw [if_neg (by omega)]
            exact b9 c false hc (by rw [decide_eq_false q])
        rw [hx_groups_b5_eq, if_neg (by rw [w32_id (by omega) (by omega), w32_id (by omega) (by omega)]; omega), w32_id (i := (b : Int)) (by omega) (by omega), show (n : Int) - ((a + 1 : Nat) : Int) - (b : Int) = ((n - (a + 1) - b : Nat) : Int) by omega]
        by_cases q : 0 < b
        · rw [if_pos (by omega)]
          exact b7 true (by rw [decide_eq_true q])
        · rw [if_neg (by omega)]
          exact b7 false (by rw [decide_eq_false q])
    have i0 := inner (n - (a + 1) + 1) 0 (by omega)
    have i0 : hx_groups_b5 L (k : Int) a2 (n : Int) (gou P n k a).1 (gou P n k a).2.1 (gou P n k a).2.2 ((a : Int) + 1) 0 s = hx_groups_b4 L (k : Int) a2 (n : Int) (gou P n k (a + 1)).1 (gou P n k (a + 1)).2.1 (gou P n k (a + 1)).2.2 (((a + 1 : Nat) : Int) + 1) s := i0
    rw [hx_groups_b4_eq, if_neg (by rw [w32_id (by omega) (by omega), w32_id (by omega) (by omega)]; omega), i0]
    exact ih (a + 1) (by omega)
end
