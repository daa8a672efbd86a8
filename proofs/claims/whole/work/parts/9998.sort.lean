/-! people in order, in both -/
def srtS (v : Int) : Nat → (Nat → Int) → Nat → Int
  | 0, Q => fun i => if i = 0 then v else Q i
  | p + 1, Q => if v < Q p then srtS v p (fun i => if i = p + 1 then Q p else Q i) else fun i => if i = p + 1 then v else Q i
theorem srtS_bd {v : Int} (hv : 0 ≤ v ∧ v ≤ 144000) : ∀ (p : Nat) (Q : Nat → Int), (∀ i, 0 ≤ Q i ∧ Q i ≤ 144000) → ∀ i, 0 ≤ srtS v p Q i ∧ srtS v p Q i ≤ 144000
  | 0, Q, h => fun i => by
    rw [srtS]
    show 0 ≤ (if i = 0 then v else Q i) ∧ (if i = 0 then v else Q i) ≤ 144000
    split
    · exact hv
    · exact h i
  | p + 1, Q, h => fun i => by
    rw [srtS]
    by_cases e : v < Q p
    · rw [if_pos e]
      refine srtS_bd hv p _ (fun i => ?_) i
      show 0 ≤ (if i = p + 1 then Q p else Q i) ∧ (if i = p + 1 then Q p else Q i) ≤ 144000
      split
      · exact h p
      · exact h i
    · rw [if_neg e]
      show 0 ≤ (if i = p + 1 then v else Q i) ∧ (if i = p + 1 then v else Q i) ≤ 144000
      split
      · exact hv
      · exact h i
noncomputable def srt (s : hh_Sv) : Nat → Nat × (Nat → Int)
  | 0 => (0, fun _ => 0)
  | t + 1 => if hun s t = -1 then srt s t else ((srt s t).1 + 1, srtS (hun s t) (srt s t).1 (srt s t).2)
section
variable {L : Nat} {s : hh_Sv}
theorem srt_bd (h : Inv s) : ∀ t, (srt s t).1 ≤ t ∧ ∀ i, 0 ≤ (srt s t).2 i ∧ (srt s t).2 i ≤ 144000
  | 0 => ⟨Nat.le_refl _, fun i => by show (0 : Int) ≤ 0 ∧ (0 : Int) ≤ 144000; decide⟩
  | t + 1 => by
    obtain ⟨h1, h2⟩ := srt_bd h t
    have hb := hun_bd h (t : Int)
    rw [srt]
    by_cases e : hun s t = -1
    · rw [if_pos e]
      exact ⟨by omega, h2⟩
    · rw [if_neg e]
      exact ⟨Nat.succ_le_succ h1, srtS_bd (by omega) _ _ h2⟩
theorem srt_cg {u : hh_Sv} (g : ∀ k j, 243 ≤ k ∧ k ≤ 245 → u k j = s k j) (g3 : u 242 3 = s 242 3) : ∀ t, srt u t = srt s t
  | 0 => rfl
  | t + 1 => by rw [srt, srt, srt_cg g g3 t, hun_cg g g3]
theorem hx_sort_in {m t : Nat} {v : Int} (hm : m ≤ 11) (hv : 0 ≤ v ∧ v ≤ 144000) : ∀ (p : Nat) (Q : Nat → Int) (u : hh_Sv), p ≤ m → (∀ i, 0 ≤ Q i ∧ Q i ≤ 144000) → FA 70 s u → (∀ i, i ≤ m → i ≠ p → u 70 i = Q i) → ∃ y, hx_sortPeople_b2 L (m : Int) (t : Int) v (p : Int) u = hx_sortPeople_b1 L ((m : Int) + 1) ((t : Int) + 1) y ∧ FA 70 s y ∧ ∀ i, i ≤ m → y 70 i = srtS v p Q i := by
  intro p
  induction p with
  | zero =>
    intro Q u hp hQ g pu
    rw [hx_sortPeople_b2_eq, if_neg (by rw [show w32 ((0 : Nat) : Int) = 0 from w32_0]; decide), hx_sortPeople_b3_eq, if_pos (by omega), Int.toNat_natCast]
    refine ⟨_, rfl, g.up, fun i hi => ?_⟩
    rw [srtS]
    show _ = if i = 0 then v else Q i
    by_cases e : i = 0
    · rw [e, up_s, if_pos rfl]
    · rw [up_j e, if_neg e]
      exact pu i hi e
  | succ p ih =>
    intro Q u hp hQ g pu
    have hq := hQ p
    have e1 : u 70 p = Q p := pu p (by omega) (by omega)
    rw [hx_sortPeople_b2_eq, if_pos (by rw [w32_id (by omega) (by omega)]; omega), if_pos (by omega), show (((p + 1 : Nat) : Int) - 1).toNat = p by omega, e1, w32_id (i := v) (by omega) (by omega), w32_id (i := Q p) (by omega) (by omega), srtS]
    by_cases e : v < Q p
    · rw [if_pos e, if_pos (by omega), if_pos (by omega), if_pos e, Int.toNat_natCast, show ((p + 1 : Nat) : Int) + (-1) = (p : Int) by omega]
      refine ih _ _ (by omega) (fun i => ?_) g.up (fun i hi hne => ?_)
      · show 0 ≤ (if i = p + 1 then Q p else Q i) ∧ (if i = p + 1 then Q p else Q i) ≤ 144000
        split
        · exact hq
        · exact hQ i
      · show _ = if i = p + 1 then Q p else Q i
        by_cases e2 : i = p + 1
        · rw [e2, up_s, if_pos rfl]
        · rw [up_j e2, if_neg e2]
          exact pu i hi e2
    · rw [if_neg e, if_neg e, hx_sortPeople_b3_eq, if_pos (by omega), Int.toNat_natCast]
      refine ⟨_, rfl, g.up, fun i hi => ?_⟩
      show _ = if i = p + 1 then v else Q i
      by_cases e2 : i = p + 1
      · rw [e2, up_s, if_pos rfl]
      · rw [up_j e2, if_neg e2]
        exact pu i hi e2
theorem hx_sortPeople_ok (h : Inv s) {T : Nat} (hT : s 242 2 = (T : Int)) : ∃ y, hx_sortPeople L s = ok L (((srt s T).1 : Nat) : Int) y ∧ FA 70 s y ∧ ∀ i, i < (srt s T).1 → y 70 i = (srt s T).2 i := by
  obtain ⟨T1, T2, T3⟩ := h.T
  rw [hx_sortPeople_eq]
  have main : ∀ (j t : Nat) (u : hh_Sv), t + j = T → FA 70 s u → (∀ i, i < (srt s t).1 → u 70 i = (srt s t).2 i) → ∃ y, hx_sortPeople_b1 L (((srt s t).1 : Nat) : Int) (t : Int) u = ok L (((srt s T).1 : Nat) : Int) y ∧ FA 70 s y ∧ ∀ i, i < (srt s T).1 → y 70 i = (srt s T).2 i := by
    intro j
    induction j with
    | zero =>
      intro t u e g p
      rw [Nat.add_zero] at e
      subst e
      rw [hx_sortPeople_b1_eq, if_neg (by rw [g _ _ (by decide), T1, hT]; omega)]
      exact ⟨u, rfl, g, p⟩
    | succ j ih =>
      intro t u e g p
      obtain ⟨b1, b2⟩ := srt_bd h t
      have hb := hun_bd h (t : Int)
      have gq := g.q (by decide)
      have eh : hun u t = hun s t := hun_cg (fun k j hk => g _ _ (by omega)) (g _ _ (by decide))
      have hnx := fun u' g' => ih (t + 1) u' (by omega) g'
      rw [srt] at hnx
      rw [hx_sortPeople_b1_eq, if_pos (by rw [g _ _ (by decide), T1, hT, w32_id (by omega) (by omega), w32_id (by omega) (by omega)]; omega), hx_hundredthsOf_ok (gq.I h) ⟨by omega, by omega⟩, ok_bind, eh]
      dsimp only
      rw [w32_id (i := hun s t) (by omega) (by omega)]
      by_cases e1 : hun s t = -1
      · rw [if_pos e1] at hnx ⊢
        exact hnx u g p
      · rw [if_neg e1] at hnx ⊢
        obtain ⟨y, y1, y2, y3⟩ := hx_sort_in (L := L) (s := s) (m := (srt s t).1) (t := t) (v := hun s t) (by omega) (by omega) (srt s t).1 (srt s t).2 u (Nat.le_refl _) b2 g (fun i hi hne => p i (by omega))
        rw [y1]
        exact hnx y y2 (fun i hi => y3 i (Nat.lt_succ_iff.mp hi))
  exact main T 0 s (by omega) FA.rf (fun i hi => absurd hi (Nat.not_lt_zero i))
/-! the reference -/
def F8 (s u : hh_Sv) : Prop := ∀ k j, k ≠ 278 → ¬ (k = 242 ∧ (j = 61 ∨ j = 62 ∨ j = 65)) → u k j = s k j
theorem F8.tr {u w : hh_Sv} (h1 : F8 s u) (h2 : F8 u w) : F8 s w := fun k j a b => (h2 k j a b).trans (h1 k j a b)
theorem F8.q {u : hh_Sv} (h : F8 s u) : Eqh s u := fun k j hn => h k j (fun e => hn (by subst e; exact ⟨by unfold scr; omega, by decide, by omega⟩)) (fun ⟨e1, e2⟩ => hn (by subst e1; exact scr_f (by omega)))
theorem F8.wr {u : hh_Sv} {j : Nat} {w : Int} (h : F8 s u) : F8 s (up u 278 j w) := fun a b h1 h2 => by
  rw [up_k h1]
  exact h a b h1 h2
theorem md_sort_in {m t : Nat} {v : Int} (hm : m ≤ 11) (hv : 0 ≤ v ∧ v ≤ 144000) : ∀ (p : Nat) (Q : Nat → Int) (u : hh_Sv), p ≤ m → (∀ i, 0 ≤ Q i ∧ Q i ≤ 144000) → F8 s u → u 242 65 = (m : Int) → (∀ i, i ≤ m → i ≠ p → u 278 i = Q i) → ∃ y, md_sorts_b3 L (t : Int) v (p : Int) u = md_sorts_b1 L ((t : Int) + 1) y ∧ F8 s y ∧ y 242 65 = (m : Int) + 1 ∧ ∀ i, i ≤ m → y 278 i = srtS v p Q i := by
  have fin : ∀ (p : Nat) (u : hh_Sv), F8 s u → u 242 65 = (m : Int) → F8 s (up (up u 278 p v) 242 65 (u 242 65 + 1)) ∧ up (up u 278 p v) 242 65 (u 242 65 + 1) 242 65 = (m : Int) + 1 := fun p u g g5 => by
    refine ⟨fun a b h1 h2 => ?_, by rw [up_s, g5]⟩
    by_cases e : a = 242
    · subst e
      rw [up_j (by omega), up_k h1]
      exact g _ _ h1 h2
    · rw [up_k e, up_k h1]
      exact g _ _ h1 h2
  intro p
  induction p with
  | zero =>
    intro Q u hp hQ g g5 pu
    rw [md_sorts_b3_eq, if_neg (by rw [show w32 ((0 : Nat) : Int) = 0 from w32_0]; decide), md_sorts_b4_eq, if_pos (by omega), Int.toNat_natCast]
    obtain ⟨f1, f2⟩ := fin 0 u g g5
    refine ⟨_, rfl, f1, f2, fun i hi => ?_⟩
    rw [up_k (by decide), srtS]
    show _ = if i = 0 then v else Q i
    by_cases e : i = 0
    · rw [e, up_s, if_pos rfl]
    · rw [up_j e, if_neg e]
      exact pu i hi e
  | succ p ih =>
    intro Q u hp hQ g g5 pu
    have hq := hQ p
    have e1 : u 278 p = Q p := pu p (by omega) (by omega)
    rw [md_sorts_b3_eq, if_pos (by rw [w32_id (by omega) (by omega)]; omega), if_pos (by omega), show (((p + 1 : Nat) : Int) - 1).toNat = p by omega, e1, w32_id (i := v) (by omega) (by omega), w32_id (i := Q p) (by omega) (by omega), srtS]
    by_cases e : v < Q p
    · rw [if_pos e, if_pos (by omega), if_pos (by omega), if_pos e, Int.toNat_natCast, show ((p + 1 : Nat) : Int) + (-1) = (p : Int) by omega]
      refine ih _ _ (by omega) (fun i => ?_) g.wr (by rw [up_k (by decide)]; exact g5) (fun i hi hne => ?_)
      · show 0 ≤ (if i = p + 1 then Q p else Q i) ∧ (if i = p + 1 then Q p else Q i) ≤ 144000
        split
        · exact hq
        · exact hQ i
      · show _ = if i = p + 1 then Q p else Q i
        by_cases e2 : i = p + 1
        · rw [e2, up_s, if_pos rfl]
        · rw [up_j e2, if_neg e2]
          exact pu i hi e2
    · rw [if_neg e, if_neg e, md_sorts_b4_eq, if_pos (by omega), Int.toNat_natCast]
      obtain ⟨f1, f2⟩ := fin (p + 1) u g g5
      refine ⟨_, rfl, f1, f2, fun i hi => ?_⟩
      rw [up_k (by decide)]
      show _ = if i = p + 1 then v else Q i
      by_cases e2 : i = p + 1
      · rw [e2, up_s, if_pos rfl]
      · rw [up_j e2, if_neg e2]
        exact pu i hi e2
theorem md_hun8 {t : Int} (h : Inv s) (ht : I32 t) (h0 : 0 ≤ t) : ∃ s2, md_hundredthsOf L t s = ok L (hun s t) s2 ∧ F8 s s2 ∧ s2 242 65 = s 242 65 ∧ ∀ j, s2 278 j = s 278 j := by
  obtain ⟨n, hn, hn2⟩ := row_n h
  rw [md_hundredthsOf_eq]
  have key : ∀ (j i : Nat) (u : hh_Sv), i + j = n → (∀ k j, ¬ (k = 242 ∧ (j = 61 ∨ j = 62)) → u k j = s k j) → u 242 61 = sg (fThrows s t) i → u 242 62 = sg (fHits s t) i → ∃ w, md_hundredthsOf_b1 L t (i : Int) u = ok L (hun s t) w ∧ ∀ k j, ¬ (k = 242 ∧ (j = 61 ∨ j = 62)) → w k j = s k j := by
    intro j
    induction j with
    | zero =>
      intro i u e g p1 p2
      rw [Nat.add_zero] at e
      subst e
      have en : (s 242 3).toNat = i := by omega
      obtain ⟨a1, a2, a3, a4⟩ := sums_bd h t (i := (s 242 3).toNat) (Nat.le_refl _)
      rw [en] at a1 a2 a3 a4
      have ew : w32 (u 242 61) = sg (fThrows s t) i := by rw [p1, w32_id (by omega) (by omega)]
      refine ⟨u, ?_, g⟩
      rw [md_hundredthsOf_b1_eq, if_neg (by rw [g _ _ (by decide), hn]; omega)]
      unfold hun
      rw [en]
      by_cases e0 : sg (fThrows s t) i = 0
      · rw [if_pos (by rw [ew]; exact e0), if_pos e0]
      · rw [if_neg (by rw [ew]; exact e0), if_neg e0, if_neg (by rw [ew]; exact e0), ew, p2, w32_id (by omega) (by omega), tDiv_nn (by omega) (by omega)]
    | succ j ih =>
      intro i u e g p1 p2
      obtain ⟨b1, b2, b3, b4, b5, -⟩ := h.row (r := i) (by omega)
      obtain ⟨x, x1, x2, x3⟩ := row_h h (r := i) (by omega)
      have hin : (0 : Int) ≤ (i : Int) ∧ (i : Int) < 60 := by omega
      have e243 : u 243 i = s 243 i := g _ _ (by omega)
      rw [md_hundredthsOf_b1_eq, if_pos (by rw [g _ _ (by decide), hn, w32_id (by omega) (by omega), w32_id (by omega) (by omega)]; omega), if_pos hin, Int.toNat_natCast]
      by_cases eo : s 243 i = t
      · rw [if_pos (show w32 (u 243 i) = w32 t by rw [e243, eo]), if_pos hin, if_pos hin, g 245 i (by omega), x1, md_bits_all L (by omega), ok_bind]
        dsimp only
        refine ih (i + 1) _ (by omega) (fun k j hk => ?_) ?_ ?_
        · by_cases e2 : k = 242
          · subst e2
            rw [up_j (by omega), up_j (by omega)]
            exact g _ _ hk
          · rw [up_k e2, up_k e2]
            exact g _ _ hk
        · rw [up_j (by decide), up_s, p1, g 244 i (by omega), sg]
          unfold fThrows
          rw [if_pos (Or.inr eo)]
        · rw [up_s, p2, sg]
          unfold fHits
          rw [if_pos (Or.inr eo), x1, Int.toNat_natCast]
      · rw [if_neg (show ¬ w32 (u 243 i) = w32 t by rw [e243, ht.w, w32_id (by omega) (by omega)]; exact eo)]
        refine ih (i + 1) u (by omega) g ?_ ?_
        · rw [p1, sg]
          unfold fThrows
          rw [if_neg (by omega), Int.add_zero]
        · rw [p2, sg]
          unfold fHits
          rw [if_neg (by omega), Int.add_zero]
  obtain ⟨w, w1, w2⟩ := key n 0 (up (up s 242 61 0) 242 62 0) (by omega) (fun k j hk => by
    by_cases e2 : k = 242
    · subst e2
      rw [up_j (by omega), up_j (by omega)]
    · rw [up_k e2, up_k e2]) (by rw [up_j (by decide), up_s]; rfl) (by rw [up_s]; rfl)
  exact ⟨w, w1, fun k j h1 h2 => w2 k j (by omega), w2 _ _ (by decide), fun j => w2 _ _ (by omega)⟩
theorem md_sorts_ok (h : Inv s) {T : Nat} (hT : s 242 2 = (T : Int)) : ∃ y, md_sorts L s = ok L 0 y ∧ F8 s y ∧ y 242 65 = (((srt s T).1 : Nat) : Int) ∧ ∀ i, i < (srt s T).1 → y 278 i = (srt s T).2 i := by
  obtain ⟨T1, T2, T3⟩ := h.T
  rw [md_sorts_eq]
  have main : ∀ (j t : Nat) (u : hh_Sv), t + j = T → F8 s u → u 242 65 = (((srt s t).1 : Nat) : Int) → (∀ i, i < (srt s t).1 → u 278 i = (srt s t).2 i) → ∃ y, md_sorts_b1 L (t : Int) u = ok L 0 y ∧ F8 s y ∧ y 242 65 = (((srt s T).1 : Nat) : Int) ∧ ∀ i, i < (srt s T).1 → y 278 i = (srt s T).2 i := by
    intro j
    induction j with
    | zero =>
      intro t u e g g5 p
      rw [Nat.add_zero] at e
      subst e
      rw [md_sorts_b1_eq, if_neg (by rw [g _ _ (by decide) (by decide), hT]; omega)]
      exact ⟨u, rfl, g, g5, p⟩
    | succ j ih =>
      intro t u e g g5 p
      obtain ⟨b1, b2⟩ := srt_bd h t
      have hb := hun_bd h (t : Int)
      have eh : hun u t = hun s t := hun_cg (fun k j hk => g _ _ (by omega) (by omega)) (g _ _ (by decide) (by decide))
      have hnx := fun u' g' => ih (t + 1) u' (by omega) g'
      rw [srt] at hnx
      obtain ⟨w, w1, w2, w3, w4⟩ := md_hun8 (L := L) (g.q.I h) (t := (t : Int)) ⟨by omega, by omega⟩ (by omega)
      rw [eh] at w1
      rw [md_sorts_b1_eq, if_pos (by rw [g _ _ (by decide) (by decide), hT, w32_id (by omega) (by omega), w32_id (by omega) (by omega)]; omega), w1, ok_bind]
      dsimp only
      rw [w32_id (i := hun s t) (by omega) (by omega)]
      by_cases e1 : hun s t = -1
      · rw [if_pos e1] at hnx ⊢
        exact hnx w (g.tr w2) (by rw [w3]; exact g5) (fun i hi => by rw [w4]; exact p i hi)
      · rw [if_neg e1] at hnx ⊢
        obtain ⟨y, y1, y2, y3, y4⟩ := md_sort_in (L := L) (s := s) (m := (srt s t).1) (t := t) (v := hun s t) (by omega) (by omega) (srt s t).1 (srt s t).2 w (Nat.le_refl _) b2 (g.tr w2) (by rw [w3]; exact g5) (fun i hi hne => by rw [w4]; exact p i (by omega))
        rw [w3, g5, y1]
        exact hnx y y2 (by rw [y3]; rfl) (fun i hi => y4 i (Nat.lt_succ_iff.mp hi))
  exact main T 0 _ (by omega) (fun a b h1 h2 => by
    by_cases e : a = 242
    · subst e
      rw [up_j (by omega)]
    · rw [up_k e]) (by rw [up_s]; rfl) (fun i hi => absurd hi (Nat.not_lt_zero i))
end
