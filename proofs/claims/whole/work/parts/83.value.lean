/-! values in both; value -/
/-- of the reference's fields these alone have changed -/
def Fr (a b : Nat) (s u : hh_Sv) : Prop := ∀ k j, ¬ (k = 242 ∧ a ≤ j ∧ j ≤ b) → u k j = s k j
section
variable {L : Nat} {s : hh_Sv}
theorem Fr.rf {a b : Nat} : Fr a b s s := fun _ _ _ => rfl
theorem Fr.tr {a b : Nat} {u v : hh_Sv} (h1 : Fr a b s u) (h2 : Fr a b u v) : Fr a b s v := fun k j h => (h2 k j h).trans (h1 k j h)
theorem Fr.mono {a b c d : Nat} {u : hh_Sv} (h : Fr a b s u) (h1 : c ≤ a) (h2 : b ≤ d) : Fr c d s u := fun k j hn => h k j (by omega)
theorem Fr.up {a b j : Nat} {v : Int} {u : hh_Sv} (h : Fr a b s u) (h1 : a ≤ j) (h2 : j ≤ b) : Fr a b s (up u 242 j v) := fun k i hn => by
  by_cases e : k = 242
  · subst e
    rw [up_j (fun q => hn ⟨rfl, by omega, by omega⟩)]
    exact h _ _ hn
  · rw [up_k e]
    exact h _ _ hn
theorem Fr.q {a b : Nat} {u : hh_Sv} (h : Fr a b s u) (h1 : 18 ≤ a) (h2 : b < 50 ∨ (50 < a ∧ b < 70)) : Eqh s u := fun k j hn => h k j (fun ⟨e1, e2, e3⟩ => hn (by subst e1; exact scr_f (by omega)))
theorem Fr.mf {a b : Nat} {u : hh_Sv} (h : Fr a b s u) : mf u = mf s := by
  funext k j
  exact h _ _ (by omega)
theorem me_reckon_ok {i x n : Nat} {S : Int} (h : Inv s) (hi : (i : Int) < s 242 16) (hx : x < 2 ^ n) (hn : n ≤ 24) (hS : 0 ≤ S ∧ S < 9000000000) : me_reckon L (170 + 6 * i) (x : Int) (n : Int) S s = ok L (if mhas (mf s) i x n = true then msum (mf s) S i x n else -9000000000000000000) s := by
  obtain ⟨m1, m2, m3⟩ := h.M
  obtain ⟨k1, k2, ⟨p1, -, -, -, -⟩, ⟨q1, -, -, -, -⟩, ⟨l1, -, -, -, -⟩⟩ := me_shL (L := L) (i := i) (by omega)
  obtain ⟨c1, c2, c3⟩ := h.me hi
  rw [me_reckon_eq, w32_id (by omega) (by omega)]
  unfold mhas msum
  have e0 : mf s 0 i = s 263 i := rfl
  by_cases h0 : 0 < n
  case neg => rw [if_neg (by omega), decide_eq_false h0, Bool.false_and, if_neg (by decide)]
  rw [if_pos (by omega), decide_eq_true h0, Bool.true_and]
  obtain ⟨m, hm⟩ := Int.eq_ofNat_of_zero_le (show 0 ≤ s 263 i by omega)
  rw [e0, hm, Int.toNat_natCast]
  have key : ∀ (r j : Nat), j + r = m → vh (mf s) i x n j = true → me_reckon_b2 L (170 + 6 * i) (x : Int) (n : Int) S (vs (mf s) S i x n j) (j : Int) s = ok L (if vh (mf s) i x n m = true then vs (mf s) S i x n m else -9000000000000000000) s := by
    intro r
    induction r with
    | zero =>
      intro j e hv
      rw [Nat.add_zero] at e
      subst e
      rw [me_reckon_b2_eq, if_pos k1, c1, hm, if_neg (by omega), if_pos hv]
    | succ r ih =>
      intro j e hv
      have hin : (0 : Int) ≤ (j : Int) ∧ (j : Int) < ((4 : Nat) : Int) := by omega
      rw [me_reckon_b2_eq, if_pos k1, c1, hm, if_pos (by rw [w32_id (by omega) (by omega), w32_id (by omega) (by omega)]; omega), if_pos k1, me_termOf_ok h hi (by omega) hx ⟨h0, hn⟩ hS, ok_bind]
      dsimp only
      by_cases ed : tD (mf s) i x n j = 0
      · rw [if_pos ed, if_pos (lCmp_eq.mpr rfl), if_neg]
        intro q
        have := vh_le (m := j + 1) (k := r) (by rw [show j + 1 + r = m by omega]; exact q)
        rw [vh, Bool.and_eq_true, decide_eq_true_eq] at this
        exact this.2 ed
      · have hb1 := th_le (k := (mf s 2 (4 * i + j)).toNat) (o := (mf s 3 (4 * i + j)).toNat) (p := (mf s 4 (4 * i + j)).toNat) hx hn
        have hb1 : tH (mf s) i x n j ≤ n := hb1
        have hb2 : 0 ≤ S / ((tD (mf s) i x n j : Nat) : Int) := Int.ediv_nonneg hS.1 (by omega)
        have hb3 : S / ((tD (mf s) i x n j : Nat) : Int) ≤ S := Int.ediv_le_self _ hS.1
        have hb4 : 0 ≤ tV (mf s) S i x n j := Int.mul_nonneg hb2 (by omega)
        have hb5 : tV (mf s) S i x n j ≤ S * 24 := Int.mul_le_mul hb3 (by omega) (by omega) hS.1
        rw [if_neg ed, if_neg (fun q => by
          have := lCmp_eq.mp q
          rw [w64_id (by omega) (by omega), w64_id (by omega) (by omega)] at this
          omega), if_pos k1, p1, if_pos q1, l1, if_pos hin, Int.toNat_natCast]
        have hn2 := ih (j + 1) (by omega) (by rw [vh, hv, decide_eq_true ed]; rfl)
        obtain ⟨k, t, o, p, -, -, -, a4, a5, a6, -⟩ := c3 j (by omega)
        have et : w32 (s (171 + 6 * i) j) = mf s 1 (4 * i + j) := by
          show _ = s 264 (4 * i + j)
          rw [a5, a4, w32_id (by omega) (by omega)]
        rw [et]
        exact hn2
  exact key m 0 (by omega) rfl
/-- a term of the reference -/
theorem md_termValue_ok {t x n k o p : Nat} (ht : t < 52) (hk : k ≤ 6) (h5 : s 265 t = (k : Int)) (h6 : s 266 t = (o : Int)) (ho : o = 0 ∨ o = 1) (h7 : k = 1 ∨ k = 5 → s 267 t = (p : Int)) (hp1 : k = 1 → p ≤ 5) (hp5 : k = 5 → p = 0 ∨ p = 1) (h42 : s 242 42 = 1) (hx : x < 2 ^ n) (hn : 1 ≤ n ∧ n ≤ 24) : ∃ u, md_termValue L (t : Int) (x : Int) (n : Int) s = ok L (if td k o p x n = 0 then 0 else 5354228880 / ((td k o p x n : Nat) : Int) * ((th k o p x n : Nat) : Int)) u ∧ Fr 40 42 s u ∧ u 242 42 = if td k o p x n = 0 then 0 else 1 := by
  have hin : (0 : Int) ≤ (t : Int) ∧ (t : Int) < 52 := by omega
  have h2 := p2_24 hn.2
  have hx2 : x < 16777216 := by omega
  have hpc : pcf 32 x ≤ 32 := pcf_le 32 x
  have e1 : w32 (n : Int) = (n : Int) := w32_id (by omega) (by omega)
  have e2 : w32 ((pcf 32 x : Nat) : Int) = ((pcf 32 x : Nat) : Int) := w32_id (by omega) (by omega)
  have one : ∀ c : Nat, (5354228880 : Int) / ((1 : Nat) : Int) * (c : Int) = 5354228880 * (c : Int) := fun c => by
    show (5354228880 : Int) / 1 * (c : Int) = _
    rw [Int.ediv_one]
  rw [md_termValue_eq, if_pos hin, Int.toNat_natCast, h5, h6, w32_id (i := (k : Int)) (by omega) (by omega)]
  have hk : k = 0 ∨ k = 1 ∨ k = 2 ∨ k = 3 ∨ k = 4 ∨ k = 5 ∨ k = 6 := by omega
  rcases hk with rfl | rfl | rfl | rfl | rfl | rfl | rfl
  · refine ⟨s, ?_, Fr.rf, ?_⟩
    · rw [if_pos (by omega), e1, w64_id (i := (n : Int)) (by omega) (by omega), if_neg (by omega), md_bits_all L (by omega), ok_bind]
      dsimp only
      rw [e2, tDiv_nn (by decide) (by omega)]
      rw [td_0, th_0, if_neg (by omega)]
    · rw [td_0, if_neg (by omega)]
      exact h42
  · obtain ⟨u, u1, u2, u3, u4⟩ := md_behind_ok (L := L) (s := s) (h := x) (n := n) (o := o) (m := p) hx2 hn.2 ho (hp1 rfl)
    have hbm : bhm x o p n ≤ n := cnt_le (f := fun k => decide (p ≤ rl (ob x o) k)) n
    have hbh : bhh x o p n ≤ n := cnt_le (f := fun k => decide (p ≤ rl (ob x o) k) && x.testBit k) n
    have g : Fr 40 42 s u := fun k j hk => u2 k j (by omega)
    have e42 : u 242 42 = 1 := by rw [u2 _ _ (by omega)]; exact h42
    rw [if_neg (by omega), if_pos (by omega), if_pos hin, if_pos hin, h7 (Or.inl rfl), u1, ok_bind]
    dsimp only
    have ew : w32 (u 242 40) = ((bhm x o p n : Nat) : Int) := by rw [u3]; exact w32_id (by omega) (by omega)
    rw [if_neg (by rw [e42, w32_1]; decide)]
    rw [td_1, th_1]
    by_cases q : bhm x o p n = 0
    · refine ⟨up u 242 42 0, ?_, g.up (by decide) (by decide), ?_⟩
      · rw [if_neg (by rw [ew]; omega), md_termValue_b3_eq, md_termValue_b4_eq, if_pos (Or.inl rfl), u3, w32_id (i := ((bhm x o p n : Nat) : Int)) (by omega) (by omega), if_pos (by omega), if_pos q]
      · rw [up_s, if_pos q]
    · refine ⟨up u 242 42 1, ?_, g.up (by decide) (by decide), ?_⟩
      · rw [if_pos (by rw [ew]; omega), md_termValue_b4_eq, if_pos (Or.inr rfl), u3, u4, w32_id (i := ((bhm x o p n : Nat) : Int)) (by omega) (by omega), if_neg (by omega), w64_id (i := ((bhm x o p n : Nat) : Int)) (by omega) (by omega), if_neg (by omega), w32_id (i := ((bhh x o p n : Nat) : Int)) (by omega) (by omega), tDiv_nn (by decide) (by omega), if_neg q]
      · rw [up_s, if_neg q]
  all_goals refine ⟨s, ?_, Fr.rf, ?_⟩
  · have hr := cnt_le (f := gRun x) n
    rw [if_neg (by omega), if_neg (by omega), if_pos (by omega), md_runsIn_ok hx2 hn, ok_bind]
    dsimp only
    rw [w32_id (by omega) (by omega)]
    rw [td_2, th_2, if_neg (by decide), one]
  · rw [td_2, if_neg (by decide)]
    exact h42
  · have hr := mx_le (f := ob x o) n
    rw [if_neg (by omega), if_neg (by omega), if_neg (by omega), if_pos (by omega), if_pos hin, md_longestIn_ok hx2 hn.2 ho, ok_bind]
    dsimp only
    rw [w32_id (by omega) (by omega)]
    rw [td_3, th_3, if_neg (by decide), one]
  · rw [td_3, if_neg (by decide)]
    exact h42
  · rw [if_neg (by omega), if_neg (by omega), if_neg (by omega), if_neg (by omega), if_pos (by omega), md_bits_all L (by omega), ok_bind]
    dsimp only
    rw [e2]
    rw [td_4, th_4, if_neg (by decide), one]
  · rw [td_4, if_neg (by decide)]
    exact h42
  · have hr := cnt_le (f := gPair x o p) n
    rw [if_neg (by omega), if_neg (by omega), if_neg (by omega), if_neg (by omega), if_neg (by omega), if_pos (by omega), if_pos hin, if_pos hin, h7 (Or.inr rfl), md_pairsIn_ok hx2 hn ho (hp5 rfl), ok_bind]
    dsimp only
    rw [w32_id (by omega) (by omega)]
    rw [td_5, th_5, if_neg (by decide), one]
  · rw [td_5, if_neg (by decide)]
    exact h42
  · have hr := fz_le (f := ob x o) n
    rw [if_neg (by omega), if_neg (by omega), if_neg (by omega), if_neg (by omega), if_neg (by omega), if_neg (by omega), if_pos hin, md_firstIn_ok hx2 hn.2 ho, ok_bind]
    dsimp only
    rw [w32_id (by omega) (by omega)]
    rw [td_6, th_6, if_neg (by decide), one]
  · rw [td_6, if_neg (by decide)]
    exact h42
theorem md_valueOf_M {i x n : Nat} (h : iv_M s) (hi : (i : Int) < s 242 16) (hx : x < 2 ^ n) (hn : n ≤ 24) : ∃ v u, md_valueOf L (i : Int) (x : Int) (n : Int) s = ok L v u ∧ Fr 40 42 s u ∧ u 242 42 = (if mhas (mf s) i x n = true then 1 else 0) ∧ (mhas (mf s) i x n = true → v = msum (mf s) 5354228880 i x n) := by
  obtain ⟨m1, ⟨m2, m3⟩, mm⟩ := h
  obtain ⟨c1, c2, c3⟩ := mm i hi
  rw [md_valueOf_eq, w32_id (i := (n : Int)) (by omega) (by omega)]
  unfold mhas msum
  have e0 : mf s 0 i = s 263 i := rfl
  obtain ⟨m, hm⟩ := Int.eq_ofNat_of_zero_le (show 0 ≤ s 263 i by omega)
  rw [e0, hm, Int.toNat_natCast]
  have hin : (0 : Int) ≤ (i : Int) ∧ (i : Int) < 13 := by omega
  by_cases h0 : 0 < n
  case neg =>
    refine ⟨0, up s 242 42 0, ?_, Fr.rf.up (by decide) (by decide), ?_, fun q => ?_⟩
    · rw [if_neg (by omega), md_valueOf_b2_eq, if_pos (Or.inl rfl), md_valueOf_b3_eq, if_pos hin, Int.toNat_natCast, up_k (by decide), hm, if_pos (by rw [w32_id (by omega) (by omega), w32_id (by omega) (by omega)]; omega), up_s, if_pos w32_0]
    · rw [up_s, decide_eq_false h0, Bool.false_and, if_neg (by decide)]
    · rw [decide_eq_false h0, Bool.false_and] at q
      cases q
  rw [if_pos (by omega), decide_eq_true h0, Bool.true_and, md_valueOf_b2_eq, if_pos (Or.inr rfl)]
  have key : ∀ (r j : Nat) (z : Int) (u : hh_Sv), j + r = m → Fr 40 42 s u → u 242 42 = (if vh (mf s) i x n j = true then 1 else 0) → (vh (mf s) i x n j = true → z = vs (mf s) 5354228880 i x n j) → ∃ v w, md_valueOf_b3 L (i : Int) (x : Int) (n : Int) z ((4 * i + j : Nat) : Int) u = ok L v w ∧ Fr 40 42 s w ∧ w 242 42 = (if vh (mf s) i x n m = true then 1 else 0) ∧ (vh (mf s) i x n m = true → v = vs (mf s) 5354228880 i x n m) := by
    intro r
    induction r with
    | zero =>
      intro j z u e g p1 p2
      rw [Nat.add_zero] at e
      subst e
      refine ⟨z, u, ?_, g, p1, p2⟩
      rw [md_valueOf_b3_eq, if_pos hin, Int.toNat_natCast, g _ _ (by omega), hm, if_neg (by rw [w32_id (by omega) (by omega), w32_id (by omega) (by omega)]; omega)]
    | succ r ih =>
      intro j z u e g p1 p2
      have hin2 : (0 : Int) ≤ ((4 * i + j : Nat) : Int) ∧ ((4 * i + j : Nat) : Int) < 52 := by omega
      rw [md_valueOf_b3_eq, if_pos hin, Int.toNat_natCast, g _ _ (by omega), hm, if_pos (by rw [w32_id (by omega) (by omega), w32_id (by omega) (by omega)]; omega)]
      by_cases hv : vh (mf s) i x n j = true
      · rw [if_pos hv] at p1
        obtain ⟨k, t, o, p, a1, a2, a3, a4, a5, a6, a7, a8, a9, a10, a11, a12, a13, a14⟩ := c3 j (by omega)
        have d2 : (mf s 2 (4 * i + j)).toNat = k := by show (s 265 _).toNat = k; rw [a2]; rfl
        obtain ⟨o', rfl⟩ : ∃ o' : Nat, o = (o' : Int) := ⟨o.toNat, by omega⟩
        have d3 : (mf s 3 (4 * i + j)).toNat = o' := by show (s 266 _).toNat = _; rw [a7]; rfl
        have d4 : (mf s 4 (4 * i + j)).toNat = p.toNat := by show (s 267 _).toNat = _; rw [a11]
        have htm : ∃ w, md_termValue L ((4 * i + j : Nat) : Int) (x : Int) (n : Int) u = ok L (if tD (mf s) i x n j = 0 then 0 else tV (mf s) 5354228880 i x n j) w ∧ Fr 40 42 u w ∧ w 242 42 = if tD (mf s) i x n j = 0 then 0 else 1 := by
          unfold tV tD tH
          rw [d2, d3, d4]
          refine md_termValue_ok (by omega) a1 (by rw [g _ _ (by omega)]; exact a2) (by rw [g _ _ (by omega)]; exact a7) (by omega) (fun q => ?_) (fun q => by have := a14 q; omega) (fun q => by have := a13 q; omega) p1 hx ⟨h0, hn⟩
          rw [g _ _ (by omega), a11]
          rcases q with q | q
          · have := a14 q
            omega
          · have := a13 q
            omega
        obtain ⟨w, w1, w2, w3⟩ := htm
        rw [p1, if_neg (by rw [w32_1]; decide), if_pos hin2, w1, ok_bind]
        dsimp only
        have et : w32 (u 264 (((4 * i + j : Nat) : Int)).toNat) = mf s 1 (4 * i + j) := by
          rw [Int.toNat_natCast, g _ _ (by omega), a4, w32_id (by omega) (by omega)]
          exact a4.symm
        rw [et]
        have ev : vh (mf s) i x n (j + 1) = decide (tD (mf s) i x n j ≠ 0) := by rw [vh, hv, Bool.true_and]
        refine ih (j + 1) _ w (by omega) (g.tr w2) ?_ ?_
        · rw [w3, ev]
          by_cases ed : tD (mf s) i x n j = 0
          · rw [if_pos ed, decide_eq_false (fun q => q ed), if_neg (by decide)]
          · rw [if_neg ed, decide_eq_true ed, if_pos rfl]
        · intro q
          rw [ev, decide_eq_true_eq] at q
          rw [if_neg q, p2 hv]
          rfl
      · rw [if_neg hv] at p1
        have hf : ¬ vh (mf s) i x n m = true := fun q => hv (vh_le (k := r + 1) (by rw [e]; exact q))
        refine ⟨z, u, ?_, g, ?_, fun q => absurd q hf⟩
        · rw [p1, if_pos w32_0]
        · rw [p1, if_neg hf]
  exact key m 0 0 _ (by omega) (Fr.rf.up (by decide) (by decide)) (by rw [up_s]; rfl) (fun _ => rfl)
theorem md_valueOf_ok {i x n : Nat} (h : Inv s) (hi : (i : Int) < s 242 16) (hx : x < 2 ^ n) (hn : n ≤ 24) : ∃ v u, md_valueOf L (i : Int) (x : Int) (n : Int) s = ok L v u ∧ Fr 40 42 s u ∧ u 242 42 = (if mhas (mf s) i x n = true then 1 else 0) ∧ (mhas (mf s) i x n = true → v = msum (mf s) 5354228880 i x n) := md_valueOf_M h.1.2.2.2.2.1 hi hx hn
end
