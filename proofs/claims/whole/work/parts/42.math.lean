/-! Math's four: what they answer; the length of the locals -/
theorem mt_two {as : List hh_Av} (h : as.length = 2) : ∃ a b, as = [a, b] := by
  match as, h with
  | [a, b], _ => exact ⟨a, b, rfl⟩
theorem mt_one {as : List hh_Av} (h : as.length = 1) : ∃ a, as = [a] := by
  match as, h with
  | [a], _ => exact ⟨a, rfl⟩
set_option maxRecDepth 20000 in
theorem mt_max {d : Nat} {as : List hh_Av} {M : hh_Mm} {r : hh_Rs} (hn : as.length = 2) (hl : (hh_lay as).length ≤ 2) (h : hh_Ev PG d 274 0 (hh_ent 2 as) [] M = some r) : ∃ x y, as = [.inl x, .inl y] ∧ r.2 = M ∧ (if Int32.ofInt x < Int32.ofInt y then Int32.ofInt y else Int32.ofInt x) = Int32.ofInt r.1 := by
  obtain ⟨a, b, rfl⟩ := mt_two hn
  rw [hh_Ev_eq pb_jma_max] at h
  rcases a with x | x | x
  · rcases b with y | y | y
    · have h2 : (if w32 x < w32 y then some (y, M) else some (x, M)) = some r := h
      refine ⟨x, y, rfl, ?_⟩
      by_cases hc : w32 x < w32 y
      · rw [if_pos hc] at h2
        rw [if_pos ((n_lt x y).mpr hc)]
        cases h2
        exact ⟨rfl, rfl⟩
      · rw [if_neg hc] at h2
        rw [if_neg (fun z => hc ((n_lt x y).mp z))]
        cases h2
        exact ⟨rfl, rfl⟩
    · simp [hh_lay] at hl
    · have h2 : (none : Option hh_Rs) = some r := h
      cases h2
  · simp [hh_lay] at hl
    rcases b with y | y | y <;> simp [hh_lay] at hl
  · have h2 : (none : Option hh_Rs) = some r := h
    cases h2
set_option maxRecDepth 20000 in
theorem mt_min {d : Nat} {as : List hh_Av} {M : hh_Mm} {r : hh_Rs} (hn : as.length = 2) (hl : (hh_lay as).length ≤ 2) (h : hh_Ev PG d 275 0 (hh_ent 2 as) [] M = some r) : ∃ x y, as = [.inl x, .inl y] ∧ r.2 = M ∧ (if Int32.ofInt y < Int32.ofInt x then Int32.ofInt y else Int32.ofInt x) = Int32.ofInt r.1 := by
  obtain ⟨a, b, rfl⟩ := mt_two hn
  rw [hh_Ev_eq pb_jma_min] at h
  rcases a with x | x | x
  · rcases b with y | y | y
    · have h2 : (if w32 y < w32 x then some (y, M) else some (x, M)) = some r := h
      refine ⟨x, y, rfl, ?_⟩
      by_cases hc : w32 y < w32 x
      · rw [if_pos hc] at h2
        rw [if_pos ((n_lt y x).mpr hc)]
        cases h2
        exact ⟨rfl, rfl⟩
      · rw [if_neg hc] at h2
        rw [if_neg (fun z => hc ((n_lt y x).mp z))]
        cases h2
        exact ⟨rfl, rfl⟩
    · simp [hh_lay] at hl
    · have h2 : (none : Option hh_Rs) = some r := h
      cases h2
  · simp [hh_lay] at hl
    rcases b with y | y | y <;> simp [hh_lay] at hl
  · have h2 : (none : Option hh_Rs) = some r := h
    cases h2
set_option maxRecDepth 20000 in
theorem mt_absI {d : Nat} {as : List hh_Av} {M : hh_Mm} {r : hh_Rs} (hn : as.length = 1) (hl : (hh_lay as).length ≤ 1) (h : hh_Ev PG d 272 0 (hh_ent 1 as) [] M = some r) : ∃ x, as = [.inl x] ∧ r.2 = M ∧ (if 0 ≤ Int32.ofInt x then Int32.ofInt x else 0 - Int32.ofInt x) = Int32.ofInt r.1 := by
  obtain ⟨a, rfl⟩ := mt_one hn
  rw [hh_Ev_eq pb_jma_absI] at h
  rcases a with x | x | x
  · have h2 : (if w32 x < 0 then some (-x, M) else some (x, M)) = some r := h
    have e0 : (0 ≤ Int32.ofInt x) ↔ ¬ w32 x < 0 := by
      have := n_le 0 x
      rw [n_0, w32_0] at this
      exact this
    refine ⟨x, rfl, ?_⟩
    by_cases hc : w32 x < 0
    · rw [if_pos hc] at h2
      rw [if_neg (fun z => (e0.mp z) hc)]
      cases h2
      exact ⟨rfl, by rw [← n_neg]; simp⟩
    · rw [if_neg hc] at h2
      rw [if_pos (e0.mpr hc)]
      cases h2
      exact ⟨rfl, rfl⟩
  · simp [hh_lay] at hl
  · have h2 : (none : Option hh_Rs) = some r := h
    cases h2
set_option maxRecDepth 20000 in
theorem mt_absL {d : Nat} {as : List hh_Av} {M : hh_Mm} {r : hh_Rs} (hn : as.length = 1) (h : hh_Ev PG d 273 0 (hh_ent 2 as) [] M = some r) : ∃ x, as = [.inr (.inl x)] ∧ r.2 = M ∧ (if 0 < Int64.ofInt x then Int64.ofInt x else -Int64.ofInt x) = Int64.ofInt r.1 := by
  obtain ⟨a, rfl⟩ := mt_one hn
  rw [hh_Ev_eq pb_jma_absL] at h
  rcases a with x | x | x
  · have h2 : (none : Option hh_Rs) = some r := h
    cases h2
  · have h2 : (if w32 (lCmp x 0) < 0 then some (-x, M) else some (x, M)) = some r := h
    refine ⟨x, rfl, ?_⟩
    have e1 : (0 < Int64.ofInt x) ↔ 0 < w64 x := by
      have := n_lt64 0 x
      rw [w64_0] at this
      exact this
    have e2 : lCmp x 0 = if w64 x < 0 then -1 else if w64 x = 0 then 0 else 1 := by unfold lCmp; rw [opq_eq, w64_0]
    by_cases h1 : w64 x < 0
    · rw [if_pos h1] at e2
      rw [e2, if_pos (by rw [w32_def]; decide)] at h2
      rw [if_neg (fun z => by have := e1.mp z; omega)]
      cases h2
      exact ⟨rfl, n_lneg x⟩
    · rw [if_neg h1] at e2
      by_cases h3 : w64 x = 0
      · rw [if_pos h3] at e2
        rw [e2, if_neg (by rw [w32_def]; decide)] at h2
        rw [if_neg (fun z => by have := e1.mp z; omega)]
        cases h2
        have e3 : Int64.ofInt x = Int64.ofInt 0 := (n_eq64 x 0).mpr (by rw [h3, w64_0])
        refine ⟨rfl, ?_⟩
        show -Int64.ofInt x = Int64.ofInt x
        rw [e3]
        rfl
      · rw [if_neg h3] at e2
        rw [e2, if_neg (by rw [w32_def]; decide)] at h2
        rw [if_pos (e1.mpr (by omega))]
        cases h2
        exact ⟨rfl, rfl⟩
  · have h2 : (none : Option hh_Rs) = some r := h
    cases h2
/-! the locals keep their length -/
theorem hh_st1_len (ls : hh_Lo) (i : Nat) (v : hh_Av) : (hh_st1 ls i v).length = ls.length := by rw [hh_st1, List.length_set, hh_clr_len]
theorem hh_st2_len (ls : hh_Lo) (i : Nat) (v : hh_Av) : (hh_st2 ls i v).length = ls.length := by rw [hh_st2, List.length_set, List.length_set, hh_clr_len]
theorem hh_msk_len : ∀ (bs : List Bool) (ls : hh_Lo), (hh_msk bs ls).length = ls.length
  | [], [] => rfl
  | [], _ :: _ => rfl
  | true :: _, [] => rfl
  | false :: _, [] => rfl
  | true :: bs, x :: ls => congrArg (· + 1) (hh_msk_len bs ls)
  | false :: bs, x :: ls => congrArg (· + 1) (hh_msk_len bs ls)
def hh_gd (n : Nat) (kk : hh_Lo → hh_Sk → hh_Mm → Option hh_Rs) : hh_Lo → hh_Sk → hh_Mm → Option hh_Rs := fun ls st M => if ls.length = n then kk ls st M else none
theorem hh_gd_eq {n : Nat} {kk : hh_Lo → hh_Sk → hh_Mm → Option hh_Rs} {ls : hh_Lo} {st : hh_Sk} {M : hh_Mm} (h : ls.length = n) : hh_gd n kk ls st M = kk ls st M := by unfold hh_gd; rw [if_pos h]
theorem hh_gd_of {n : Nat} {kk : hh_Lo → hh_Sk → hh_Mm → Option hh_Rs} {ls : hh_Lo} {st : hh_Sk} {M : hh_Mm} {r : hh_Rs} (h : hh_gd n kk ls st M = some r) : ls.length = n ∧ kk ls st M = some r := by
  unfold hh_gd at h
  split at h
  next e => exact ⟨e, h⟩
  · cases h
theorem hh_gd1 {n i : Nat} {v : hh_Av} {kk : hh_Lo → hh_Sk → hh_Mm → Option hh_Rs} {ls : hh_Lo} {st : hh_Sk} {M : hh_Mm} (h : ls.length = n) : hh_gd n kk (hh_st1 ls i v) st M = kk (hh_st1 ls i v) st M := hh_gd_eq ((hh_st1_len ls i v).trans h)
theorem hh_gd2 {n i : Nat} {v : hh_Av} {kk : hh_Lo → hh_Sk → hh_Mm → Option hh_Rs} {ls : hh_Lo} {st : hh_Sk} {M : hh_Mm} (h : ls.length = n) : hh_gd n kk (hh_st2 ls i v) st M = kk (hh_st2 ls i v) st M := hh_gd_eq ((hh_st2_len ls i v).trans h)
section
variable {KI : List Int} {KS : List (Nat × List (Int × Nat))} {F : Nat → hh_Lo → hh_Sk → hh_Mm → Option hh_Rs} {C : Nat → List hh_Av → hh_Mm → Option hh_Rs} {kk : hh_Lo → hh_Sk → hh_Mm → Option hh_Rs}
set_option maxHeartbeats 8000000 in
theorem hh_gd_stp {n : Nat} {e : hh_En} {ls : hh_Lo} {st : hh_Sk} {M : hh_Mm} (hl : ls.length = n) : hh_stp KI KS F C e ls st M (hh_gd n kk) = hh_stp KI KS F C e ls st M kk := by
  obtain ⟨pc, i, ex⟩ := e
  have e0 : ∀ st M, hh_gd n kk ls st M = kk ls st M := fun st M => hh_gd_eq hl
  have ec : ∀ x : hh_Ex, s_call C x ls st M (hh_gd n kk) = s_call C x ls st M kk := fun x => by simp only [s_call, e0]
  have ek : hh_gd n kk ls = kk ls := funext fun st => funext fun M => e0 st M
  cases i
  all_goals first
    | rfl
    | exact e0 _ _
    | (simp only [hh_stp, ec, e0]; done)
    | (simp only [hh_stp, hh_frc_eq, s_ld, s_sto, s_iinc, s_ii, s_ll, s_li, s_i, s_il, s_l, s_l2i, s_lcmp, s_dup, s_dup2, s_pop, s_alen, s_new, s_newa, s_get, s_put, s_ald, s_aald, s_ast, s_aast, s_idiv, s_ldiv, s_cpy, s_oi, s_ifc, s_icmp, ec, ek, hh_gd1 hl, hh_gd2 hl]; done)
    | (simp only [hh_stp, hh_frc_eq, s_ld, s_sto, s_iinc, s_ii, s_ll, s_li, s_i, s_il, s_l, s_l2i, s_lcmp, s_dup, s_dup2, s_pop, s_alen, s_new, s_newa, s_get, s_put, s_ald, s_aald, s_ast, s_aast, s_idiv, s_ldiv, s_cpy, s_oi, s_ifc, s_icmp, ec, ek, hh_gd1 hl, hh_gd2 hl]; rfl)
end
