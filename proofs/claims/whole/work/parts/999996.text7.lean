/-! texts: the class opens a text -/
section
variable {L : Nat} {s : hh_Sv}
def Tok (u : hh_Sv) (T : Nat → Int) (n j : Nat) : Prop := u 26 j = tK T n (tP T n j) ∧ u 27 j = tC T n (tP T n j) ∧ u 28 j = ((tP T n j : Nat) : Int)
def FO (s u : hh_Sv) : Prop := ∀ a b, a ≠ 26 → a ≠ 27 → a ≠ 28 → ¬ (a = 24 ∧ b = 5) → u a b = s a b
theorem Tc.o {T : Nat → Int} {n : Nat} {u : hh_Sv} (h : Tc s T n) (g : FO s u) : Tc u T n := by
  obtain ⟨a, b, c, d⟩ := h
  refine ⟨a, fun j hj => ?_, ?_, fun j hj => ?_⟩
  · rw [g _ _ (by decide) (by decide) (by decide) (by omega)]; exact b j hj
  · rw [g _ _ (by decide) (by decide) (by decide) (by omega)]; exact c
  · rw [g _ _ (by decide) (by decide) (by decide) (by omega)]; exact d j hj
def tkW (u : hh_Sv) (i : Nat) (K C P : Int) : hh_Sv := up (up (up u 26 i K) 27 i C) 28 i P
theorem tkW_o {i : Nat} {K C P : Int} : FO s (tkW s i K C P) := fun a b h1 h2 h3 _ => by
  unfold tkW
  rw [up_k h3, up_k h2, up_k h1]
theorem tkW_i {i : Nat} {K C P : Int} : tkW s i K C P 26 i = K ∧ tkW s i K C P 27 i = C ∧ tkW s i K C P 28 i = P := by
  unfold tkW
  refine ⟨?_, ?_, up_s⟩
  · rw [up_k (by decide), up_k (by decide), up_s]
  · rw [up_k (by decide), up_s]
theorem tkW_j {i j a : Nat} {K C P : Int} (h : j ≠ i) : tkW s i K C P a j = s a j := by
  unfold tkW
  rw [up_j h, up_j h, up_j h]
theorem re_open_1 {T : Nat → Int} {n : Nat} : ∀ (k p i : Nat) (u : hh_Sv), p + k = n → i ≤ p → Tc u T n → rn T n isB p = tP T n i → (∀ j, j < i → Tok u T n j ∧ tP T n j < n) → ∃ y m, re_open_b1 L (n : Int) (i : Int) (p : Int) u = ok L 0 y ∧ FO u y ∧ y 24 5 = 0 ∧ m ≤ n ∧ tP T n m = n ∧ (∀ j, j ≤ m → Tok y T n j) ∧ ∀ j, j < m → tP T n j < n := by
  intro k
  induction k using Nat.strongRecOn with
  | ind k ih =>
    intro p i u hp hi h hP hTok
    have n6 := h.1
    have hT := h.2.1
    have hin : (0 : Int) ≤ (i : Int) ∧ (i : Int) < 601 := by omega
    by_cases ep : p = n
    · have eP : tP T n i = n := by rw [← hP, ep, rn_end (Nat.le_refl _)]
      refine ⟨up (tkW u i 0 (-1) (n : Int)) 24 5 0, i, ?_, fun a b h1 h2 h3 h4 => ?_, up_s, by omega, eP, fun j hj => ?_, fun j hj => (hTok j hj).2⟩
      · rw [re_open_b1_eq, if_neg (by rw [ep]; omega), re_open_b8_eq, if_pos hin, if_pos hin, if_pos hin, Int.toNat_natCast]
        rfl
      · unfold up
        rw [if_neg h4]
        exact tkW_o a b h1 h2 h3 h4
      · unfold Tok
        rw [up_k (by decide), up_k (by decide), up_k (by decide)]
        by_cases ej : j = i
        · obtain ⟨w1, w2, w3⟩ := tkW_i (s := u) (i := i) (K := 0) (C := -1) (P := (n : Int))
          rw [ej, w1, w2, w3, eP]
          unfold tK tC
          rw [if_neg (Nat.lt_irrefl _), if_neg (Nat.lt_irrefl _)]
          exact ⟨rfl, rfl, rfl⟩
        · rw [tkW_j ej, tkW_j ej, tkW_j ej]
          exact (hTok j (by omega)).1
    obtain ⟨c1, c2, c3⟩ := hT p (by omega)
    have hip : (0 : Int) ≤ (p : Int) ∧ (p : Int) < 600 := by omega
    have cw : w32 (u 25 p) = T p := by rw [c1]; exact w32_id (by omega) (by omega)
    have start : re_open_b1 L (n : Int) (i : Int) (p : Int) u = if isB (T p) = true then re_open_b1 L (n : Int) (i : Int) ((p : Int) + 1) u else re_open_b2 L (n : Int) (i : Int) (p : Int) ((p : Int) + 1) (knd (T p)) u := by
      rw [re_open_b1_eq, if_pos (by rw [w32_id (by omega) (by omega), w32_id (by omega) (by omega)]; omega), if_pos (by rw [w32_id (by omega) (by omega)]; omega), if_pos hip, Int.toNat_natCast]
      by_cases e1 : T p = 32
      · rw [if_pos (by rw [cw]; exact e1), re_open_b7_eq, if_pos (show isB (T p) = true from decide_eq_true (Or.inl e1))]
      · rw [if_neg (by rw [cw]; exact e1), if_pos hip]
        by_cases e2 : T p = 10
        · rw [if_pos (by rw [cw]; exact e2), re_open_b7_eq, if_pos (show isB (T p) = true from decide_eq_true (Or.inr e2))]
        · rw [if_neg (by rw [cw]; exact e2), if_pos hip, c1, re_kindOf_ok ⟨c2, c3⟩, ok_bind, if_neg (fun z => by have := of_decide_eq_true z; omega)]
    rw [start]
    by_cases eb : isB (T p) = true
    · rw [if_pos eb]
      exact ih (k - 1) (by omega) (p + 1) i u (by omega) (by omega) h (by rw [← rn_go (by omega) eb]; exact hP) hTok
    rw [if_neg eb]
    have eP : tP T n i = p := by rw [← hP, rn_no (by omega) eb]
    have fin : ∀ (K C : Int), K = tK T n p → C = tC T n p → p < tE T n p → tE T n p ≤ n → ∃ y m, re_open_b1 L (n : Int) ((i : Int) + 1) ((tE T n p : Nat) : Int) (tkW u i K C (p : Int)) = ok L 0 y ∧ FO u y ∧ y 24 5 = 0 ∧ m ≤ n ∧ tP T n m = n ∧ (∀ j, j ≤ m → Tok y T n j) ∧ ∀ j, j < m → tP T n j < n := fun K C hK hC he1 he2 => by
      obtain ⟨y, m, y1, y2, y3⟩ := ih (n - tE T n p) (by omega) (tE T n p) (i + 1) (tkW u i K C (p : Int)) (by omega) (by omega) (h.o tkW_o) (by rw [tP, eP]) (fun j hj => by
        by_cases ej : j = i
        · obtain ⟨w1, w2, w3⟩ := tkW_i (s := u) (i := i) (K := K) (C := C) (P := (p : Int))
          unfold Tok
          rw [ej, w1, w2, w3, eP]
          exact ⟨⟨hK, hC, rfl⟩, by omega⟩
        · unfold Tok
          rw [tkW_j ej, tkW_j ej, tkW_j ej]
          exact hTok j (by omega))
      exact ⟨y, m, y1, fun a b h1 h2 h3 h4 => (y2 a b h1 h2 h3 h4).trans (tkW_o a b h1 h2 h3 h4), y3⟩
    have kK : tK T n p = knd (T p) := if_pos (by omega)
    have b6 : ∀ K C : Int, re_open_b6 L (n : Int) (i : Int) (p : Int) ((tE T n p : Nat) : Int) (i : Int) C (up u 26 i K) = re_open_b1 L (n : Int) ((i : Int) + 1) ((tE T n p : Nat) : Int) (tkW u i K C (p : Int)) := fun K C => by
      rw [re_open_b6_eq, if_pos hin, if_pos hin, re_open_b7_eq, Int.toNat_natCast]
      rfl
    have gU : ∀ K : Int, FO u (up u 26 i K) := fun K a b h1 _ _ _ => up_k h1
    by_cases eA : isA (T p) = true
    · have hk : knd (T p) = 1 := knd_1.mpr eA
      have eE : tE T n p = rn T n isA p := if_pos eA
      have eC : tC T n p = wx T n p := by unfold tC; rw [if_pos (by omega), if_pos eA]
      have r1 := rn_bd (T := T) (n := n) (f := isA) (n - (p + 1)) (p + 1) (by omega)
      rw [← rn_go (by omega) eA] at r1
      have r2 := re_open_2 (L := L) (s := u) (q := p) (i := i) (f := isA) (kk := 1) h (Or.inl rfl) (fun c => knd_1) (n - (p + 1)) (p + 1) (by omega)
      rw [← rn_go (by omega) eA, ← eE] at r2
      have r2 : re_open_b2 L (n : Int) (i : Int) (p : Int) ((p : Int) + 1) 1 u = _ := r2
      have wi := re_wordIn_ok (L := L) (q := p) (e := tE T n p) (h.o (gU 1)) (by rw [eE]; omega) (by rw [eE]; exact r1.1.2)
      rw [hk, r2, re_open_b3_eq, if_pos hin, if_pos w32_1, Int.toNat_natCast, wi, ok_bind]
      dsimp only
      rw [b6]
      exact fin 1 _ (by rw [kK, hk]) (by rw [eC, eE]; rfl) (by rw [eE]; omega) (by rw [eE]; exact r1.1.2)
    by_cases eD : isD (T p) = true
    · have hk : knd (T p) = 2 := knd_2.mpr eD
      have eE : tE T n p = rn T n isD p := by unfold tE; rw [if_neg eA, if_pos eD]
      have eC : tC T n p = nmx T n p := by unfold tC; rw [if_pos (by omega), if_neg eA, if_pos eD]
      have r1 := rn_bd (T := T) (n := n) (f := isD) (n - (p + 1)) (p + 1) (by omega)
      rw [← rn_go (by omega) eD] at r1
      have r2 := re_open_2 (L := L) (s := u) (q := p) (i := i) (f := isD) (kk := 2) h (Or.inr rfl) (fun c => knd_2) (n - (p + 1)) (p + 1) (by omega)
      rw [← rn_go (by omega) eD, ← eE] at r2
      have r2 : re_open_b2 L (n : Int) (i : Int) (p : Int) ((p : Int) + 1) 2 u = _ := r2
      have ni := re_numberIn_ok (L := L) (q := p) (h.o (gU 2)) (by omega)
      rw [← eE] at ni
      have w2 : w32 2 = 2 := w32_id (by decide) (by decide)
      rw [hk, r2, re_open_b3_eq, if_pos hin, if_neg (by rw [w2]; decide), if_pos w2, Int.toNat_natCast, ni, ok_bind]
      dsimp only
      rw [b6]
      exact fin 2 _ (by rw [kK, hk]) eC.symm (by rw [eE]; omega) (by rw [eE]; exact r1.1.2)
    · have hk : knd (T p) = 3 := by unfold knd; rw [if_neg eA, if_neg eD]
      have eE : tE T n p = p + 1 := by unfold tE; rw [if_neg eA, if_neg eD]
      have eC : tC T n p = T p := by unfold tC; rw [if_pos (by omega), if_neg eA, if_neg eD]
      have w3 : w32 3 = 3 := w32_id (by decide) (by decide)
      have e1 : (p : Int) + 1 = ((tE T n p : Nat) : Int) := by rw [eE]; rfl
      rw [hk, re_open_b2_eq, if_pos w3, re_open_b3_eq, if_pos hin, if_neg (by rw [w3]; decide), if_neg (by rw [w3]; decide), if_pos hip, Int.toNat_natCast, Int.toNat_natCast, c1, e1, b6]
      exact fin 3 _ (by rw [kK, hk]) eC.symm (by rw [eE]; omega) (by rw [eE]; omega)
theorem re_open_ok {T : Nat → Int} {n : Nat} (h : Tc s T n) : ∃ y m, re_open L (n : Int) s = ok L 0 y ∧ FO s y ∧ y 24 5 = 0 ∧ m ≤ n ∧ tP T n m = n ∧ (∀ j, j ≤ m → Tok y T n j) ∧ ∀ j, j < m → tP T n j < n := by
  rw [re_open_eq]
  exact re_open_1 n 0 0 s (by omega) (by omega) h rfl (fun j hj => by omega)
end
