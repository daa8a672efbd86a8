/-! one instruction of the plain machine is one of the machine: those that leave the heap alone -/
theorem hh_rv_c {ba : Nat} {oa : Nat → Nat} {v5 : Value} (h5 : v5 = .null ∨ ∃ t, v5 = .ref t) (k : Nat) : hh_rv ba oa v5 k = .null ∨ ∃ t, hh_rv ba oa v5 k = .ref t := by
  unfold hh_rv
  split
  · exact Or.inl rfl
  · split
    · exact h5
    · exact Or.inr ⟨_, rfl⟩
theorem hh_rv_8 {ba : Nat} {oa : Nat → Nat} {v5 : Value} {k : Nat} (h : k ≠ 0) (h5 : k ≠ 5) : hh_rv ba oa v5 k = .ref (hh_ad ba oa k) := by
  unfold hh_rv
  rw [if_neg h, if_neg h5]
theorem hh_tv_cat {ba : Nat} {oa : Nat → Nat} {v5 : Value} (h5 : v5 = .null ∨ ∃ t, v5 = .ref t) (v : hh_Av) : (hh_tv ba oa v5 v).category = hh_cat [v] := by
  rcases v with z | z | k
  · rfl
  · rfl
  · show (hh_rv ba oa v5 k).category = 1
    rcases hh_rv_c (ba := ba) (oa := oa) h5 k with h | ⟨t, h⟩ <;> rw [h] <;> rfl
theorem hh_cat_cons (v : hh_Av) (st : hh_Sk) : hh_cat (v :: st) = hh_cat [v] + hh_cat st := by
  rcases v with z | z | k <;> simp only [hh_cat] <;> omega
theorem hh_cat_sum {ba : Nat} {oa : Nat → Nat} {v5 : Value} (h5 : v5 = .null ∨ ∃ t, v5 = .ref t) : ∀ st : hh_Sk, ((st.map (hh_tv ba oa v5)).map fun v => v.category).sum = hh_cat st
  | [] => rfl
  | v :: st => by
    rw [hh_cat_cons, ← hh_tv_cat (ba := ba) (oa := oa) h5 v, ← hh_cat_sum h5 st]
    rfl
/-- the locals of the machine hold what the plain machine's do -/
def hh_L (ba : Nat) (oa : Nat → Nat) (v5 : Value) (la : Array Slot) (ls : hh_Lo) : Prop := la.size = ls.length ∧ lv_wf la ∧ ∀ (i : Nat) (v : hh_Av), ls[i]? = some (some v) → la[i]? = some (.val (hh_tv ba oa v5 v))
def hh_pr (ba : Nat) (oa : Nat → Nat) (v5 : Value) (ls : hh_Lo) : List (Nat × Value) := (List.range ls.length).filterMap (fun i => match ls[i]? with
  | some (some v) => some (i, hh_tv ba oa v5 v)
  | _ => none)
section
variable {ba : Nat} {oa : Nat → Nat} {v5 : Value}
theorem hh_pr_mem {ls : hh_Lo} {q : Nat × Value} : q ∈ hh_pr ba oa v5 ls ↔ ∃ v, ls[q.1]? = some (some v) ∧ q.2 = hh_tv ba oa v5 v := by
  unfold hh_pr
  rw [List.mem_filterMap]
  constructor
  · rintro ⟨i, hi, h⟩
    split at h
    next v hv =>
      cases h
      exact ⟨v, hv, rfl⟩
    next => cases h
  · rintro ⟨v, hv, h⟩
    refine ⟨q.1, List.mem_range.mpr (List.getElem?_eq_some_iff.mp hv).1, ?_⟩
    rw [hv]
    exact congrArg some (Prod.ext rfl h.symm)
theorem hh_L.has {la : Array Slot} {ls : hh_Lo} (h : hh_L ba oa v5 la ls) : lv_has la ls.length (hh_pr ba oa v5 ls) := by
  refine ⟨h.1, h.2.1, fun q hq => ?_⟩
  obtain ⟨v, h1, h2⟩ := hh_pr_mem.mp hq
  rw [h2]
  exact h.2.2 _ _ h1
theorem hh_getD {ls : hh_Lo} {i : Nat} {v : hh_Av} (h : ls.getD i none = some v) : ls[i]? = some (some v) := by
  rw [List.getD_eq_getElem?_getD] at h
  cases h1 : ls[i]? with
  | none => rw [h1] at h; cases h
  | some x => rw [h1] at h; exact congrArg some h
theorem hh_clr_len (ls : hh_Lo) (i : Nat) : (hh_clr ls i).length = ls.length := by
  unfold hh_clr
  split
  · rfl
  · split
    · rw [List.length_set]
    · rfl
theorem hh_clr_at {ls : hh_Lo} {i j : Nat} {v : hh_Av} (h : (hh_clr ls i)[j]? = some (some v)) : ls[j]? = some (some v) ∧ ¬ (j + 1 = i ∧ ∃ z, v = .inr (.inl z)) := by
  unfold hh_clr at h
  split at h
  · exact ⟨h, fun q => by omega⟩
  next i =>
    split at h
    next z hz =>
      by_cases hj : i = j
      · subst hj
        rw [List.getElem?_set] at h
        rw [if_pos rfl] at h
        split at h <;> cases h
      · rw [List.getElem?_set_ne hj] at h
        exact ⟨h, fun q => by omega⟩
    next hz =>
      refine ⟨h, fun q => ?_⟩
      obtain ⟨q1, z, rfl⟩ := q
      have : j = i := by omega
      subst this
      exact hz z (by rw [List.getD_eq_getElem?_getD, h]; rfl)
theorem hh_L.st1 {la la' : Array Slot} {ls : hh_Lo} {i : Nat} {v : hh_Av} (h5 : v5 = .null ∨ ∃ t, v5 = .ref t) (h : hh_L ba oa v5 la ls) (hi : i < ls.length)
    (h' : lv_has la' ls.length ((i, hh_tv ba oa v5 v) :: (hh_pr ba oa v5 ls).filter (fun q => !(q.1 == i) && !(q.1 + 1 == i && q.2.category == 2)))) : hh_L ba oa v5 la' (hh_st1 ls i v) := by
  refine ⟨?_, h'.2.1, fun j w hj => ?_⟩
  · rw [hh_st1, List.length_set, hh_clr_len]; exact h'.1
  · rw [hh_st1, List.getElem?_set] at hj
    by_cases e : i = j
    · rw [if_pos e, if_pos (by rw [hh_clr_len]; omega)] at hj
      subst e
      cases hj
      exact h'.2.2 _ List.mem_cons_self
    · rw [if_neg e] at hj
      obtain ⟨h1, h2⟩ := hh_clr_at hj
      refine h'.2.2 (j, hh_tv ba oa v5 w) (List.mem_cons_of_mem _ (List.mem_filter.mpr ⟨hh_pr_mem.mpr ⟨w, h1, rfl⟩, ?_⟩))
      simp only [Bool.and_eq_true, Bool.not_eq_true', beq_eq_false_iff_ne, ne_eq, Bool.and_eq_false_iff]
      refine ⟨fun q => e q.symm, ?_⟩
      by_cases hji : j + 1 = i
      · right
        rw [hh_tv_cat h5]
        rcases w with z | z | k
        · simp [hh_cat]
        · exact absurd ⟨hji, z, rfl⟩ h2
        · simp [hh_cat]
      · exact Or.inl hji
theorem hh_L.st2 {la la' : Array Slot} {ls : hh_Lo} {i : Nat} {v : hh_Av} (h5 : v5 = .null ∨ ∃ t, v5 = .ref t) (h : hh_L ba oa v5 la ls) (hi : i + 1 < ls.length)
    (h' : lv_has la' ls.length ((i, hh_tv ba oa v5 v) :: (hh_pr ba oa v5 ls).filter (fun q => !(q.1 == i) && (!(q.1 == i + 1) && !(q.1 + 1 == i && q.2.category == 2))))) : hh_L ba oa v5 la' (hh_st2 ls i v) := by
  refine ⟨?_, h'.2.1, fun j w hj => ?_⟩
  · rw [hh_st2, List.length_set, List.length_set, hh_clr_len]; exact h'.1
  · rw [hh_st2, List.getElem?_set] at hj
    by_cases e1 : i + 1 = j
    · rw [if_pos e1] at hj
      split at hj <;> cases hj
    rw [if_neg e1, List.getElem?_set] at hj
    by_cases e : i = j
    · rw [if_pos e, if_pos (by rw [hh_clr_len]; omega)] at hj
      subst e
      cases hj
      exact h'.2.2 _ List.mem_cons_self
    · rw [if_neg e] at hj
      obtain ⟨h1, h2⟩ := hh_clr_at hj
      refine h'.2.2 (j, hh_tv ba oa v5 w) (List.mem_cons_of_mem _ (List.mem_filter.mpr ⟨hh_pr_mem.mpr ⟨w, h1, rfl⟩, ?_⟩))
      simp only [Bool.and_eq_true, Bool.not_eq_true', beq_eq_false_iff_ne, ne_eq, Bool.and_eq_false_iff]
      refine ⟨fun q => e q.symm, fun q => e1 q.symm, ?_⟩
      by_cases hji : j + 1 = i
      · right
        rw [hh_tv_cat h5]
        rcases w with z | z | k
        · simp [hh_cat]
        · exact absurd ⟨hji, z, rfl⟩ h2
        · simp [hh_cat]
      · exact Or.inl hji
theorem hh_L.msk {la : Array Slot} : ∀ {ls : hh_Lo} (bs : List Bool), hh_L ba oa v5 la ls → hh_L ba oa v5 la (hh_msk bs ls) := by
  have key : ∀ (bs : List Bool) (ls : hh_Lo), (hh_msk bs ls).length = ls.length ∧ ∀ (i : Nat) (v : hh_Av), (hh_msk bs ls)[i]? = some (some v) → ls[i]? = some (some v) := by
    intro bs
    induction bs with
    | nil => intro ls; cases ls <;> exact ⟨rfl, fun _ _ h => h⟩
    | cons b bs ih =>
      intro ls
      cases ls with
      | nil => cases b <;> exact ⟨rfl, fun _ _ h => h⟩
      | cons x ls =>
        cases b
        · refine ⟨congrArg (· + 1) (ih ls).1, fun i v h => ?_⟩
          cases i with
          | zero => cases h
          | succ i => exact (ih ls).2 i v h
        · refine ⟨congrArg (· + 1) (ih ls).1, fun i v h => ?_⟩
          cases i with
          | zero => exact h
          | succ i => exact (ih ls).2 i v h
  intro ls bs h
  exact ⟨by rw [(key bs ls).1]; exact h.1, h.2.1, fun i v hi => h.2.2 i v ((key bs ls).2 i v hi)⟩
end
section
variable {p : Program} {l : Launch} {e : Env} {R : Room} {s : State} {m : MethodId} {args : Array Value} {below : List Frame} {meth : Method} {c : Code} {H : Heap} {locs : List Loc} {cells slots : Nat} {Q : State → Prop}
variable {cc : ByteArray} {pc : Nat} {la : Array Slot} {ba : Nat} {oa : Nat → Nat} {v5 : Value} {ls : hh_Lo} {st : hh_Sk} {M : hh_Mm} {r : hh_Rs} {kk : hh_Lo → hh_Sk → hh_Mm → Option hh_Rs}
/-- the goal at a place, and what the rest gives behind it -/
abbrev hh_G (p : Program) (l : Launch) (e : Env) (R : Room) (s : State) (m : MethodId) (args : Array Value) (below : List Frame) (meth : Method) (c : Code) (Q : State → Prop) (ba : Nat) (oa : Nat → Nat) (v5 : Value) (H : Heap) (locs : List Loc) (cells slots : Nat) (pc : Nat) (la : Array Slot) (st : hh_Sk) : Prop :=
  W p l e R s m args below meth c H locs cells slots Q (F0 m pc la (st.map (hh_tv ba oa v5)))
theorem sd_ld {i t n : Nat} (hL : hh_L ba oa v5 la ls) (h : s_ld i t ls st M kk = some r)
    (row : ∀ v : Value, la[i]? = some (.val v) → (t = 0 → ∃ z, v = .int z) → (t = 1 → ∃ z, v = .long z) → (t = 2 → v = .null ∨ ∃ q, v = .ref q) → W p l e R s m args below meth c H locs cells slots Q (F0 m (pc + n) la (v :: st.map (hh_tv ba oa v5))) → W p l e R s m args below meth c H locs cells slots Q (F0 m pc la (st.map (hh_tv ba oa v5))))
    (h5 : v5 = .null ∨ ∃ t, v5 = .ref t)
    (hk : ∀ ls2 st2 la2, kk ls2 st2 M = some r → hh_L ba oa v5 la2 ls2 → hh_G p l e R s m args below meth c Q ba oa v5 H locs cells slots (pc + n) la2 st2) : hh_G p l e R s m args below meth c Q ba oa v5 H locs cells slots pc la st := by
  unfold s_ld at h
  split at h
  next z hz => exact row _ (hL.2.2 _ _ (hh_getD hz)) (fun _ => ⟨_, rfl⟩) (fun q => by cases q) (fun q => by cases q) (hk _ _ _ h hL)
  next z hz => exact row _ (hL.2.2 _ _ (hh_getD hz)) (fun q => by cases q) (fun _ => ⟨_, rfl⟩) (fun q => by cases q) (hk _ _ _ h hL)
  next z hz => exact row _ (hL.2.2 _ _ (hh_getD hz)) (fun q => by cases q) (fun q => by cases q) (fun _ => hh_rv_c h5 z) (hk _ _ _ h hL)
  next => cases h
theorem sd_sto0 {i n : Nat} (h5 : v5 = .null ∨ ∃ t, v5 = .ref t) (hL : hh_L ba oa v5 la ls) (h : s_sto i 0 ls st M kk = some r)
    (row : ∀ (x : Int32) (rest : List Value) (lv' : List (Nat × Value)), i < ls.length → (i, Value.int x) :: (hh_pr ba oa v5 ls).filter (fun q => !(q.1 == i) && !(q.1 + 1 == i && q.2.category == 2)) = lv' → (∀ ls' : Array Slot, lv_has ls' ls.length lv' → W p l e R s m args below meth c H locs cells slots Q (F0 m (pc + n) ls' rest)) → W p l e R s m args below meth c H locs cells slots Q (F0 m pc la (.int x :: rest)))
    (hk : ∀ ls2 st2 la2, kk ls2 st2 M = some r → hh_L ba oa v5 la2 ls2 → hh_G p l e R s m args below meth c Q ba oa v5 H locs cells slots (pc + n) la2 st2) : hh_G p l e R s m args below meth c Q ba oa v5 H locs cells slots pc la st := by
  rcases st with _ | ⟨z | z | k, st⟩ <;> simp only [s_sto] at h
  any_goals cases h
  split at h
  next hi =>
    rw [hh_frc_eq] at h
    exact row _ _ _ hi rfl (fun ls' h' => hk _ _ _ h (hL.st1 h5 hi h'))
  next => cases h
theorem sd_sto1 {i n : Nat} (h5 : v5 = .null ∨ ∃ t, v5 = .ref t) (hL : hh_L ba oa v5 la ls) (h : s_sto i 1 ls st M kk = some r)
    (row : ∀ (x : Int64) (rest : List Value) (lv' : List (Nat × Value)), i + 1 < ls.length → (i, Value.long x) :: (hh_pr ba oa v5 ls).filter (fun q => !(q.1 == i) && (!(q.1 == i + 1) && !(q.1 + 1 == i && q.2.category == 2))) = lv' → (∀ ls' : Array Slot, lv_has ls' ls.length lv' → W p l e R s m args below meth c H locs cells slots Q (F0 m (pc + n) ls' rest)) → W p l e R s m args below meth c H locs cells slots Q (F0 m pc la (.long x :: rest)))
    (hk : ∀ ls2 st2 la2, kk ls2 st2 M = some r → hh_L ba oa v5 la2 ls2 → hh_G p l e R s m args below meth c Q ba oa v5 H locs cells slots (pc + n) la2 st2) : hh_G p l e R s m args below meth c Q ba oa v5 H locs cells slots pc la st := by
  rcases st with _ | ⟨z | z | k, st⟩ <;> simp only [s_sto] at h
  any_goals cases h
  split at h
  next hi =>
    rw [hh_frc_eq] at h
    exact row _ _ _ hi rfl (fun ls' h' => hk _ _ _ h (hL.st2 h5 hi h'))
  next => cases h
theorem sd_sto2 {i n : Nat} (h5 : v5 = .null ∨ ∃ t, v5 = .ref t) (hL : hh_L ba oa v5 la ls) (h : s_sto i 2 ls st M kk = some r)
    (row : ∀ (v : Value) (rest : List Value) (lv' : List (Nat × Value)), (v = .null ∨ ∃ q, v = .ref q) → i < ls.length → (i, v) :: (hh_pr ba oa v5 ls).filter (fun q => !(q.1 == i) && !(q.1 + 1 == i && q.2.category == 2)) = lv' → (∀ ls' : Array Slot, lv_has ls' ls.length lv' → W p l e R s m args below meth c H locs cells slots Q (F0 m (pc + n) ls' rest)) → W p l e R s m args below meth c H locs cells slots Q (F0 m pc la (v :: rest)))
    (hk : ∀ ls2 st2 la2, kk ls2 st2 M = some r → hh_L ba oa v5 la2 ls2 → hh_G p l e R s m args below meth c Q ba oa v5 H locs cells slots (pc + n) la2 st2) : hh_G p l e R s m args below meth c Q ba oa v5 H locs cells slots pc la st := by
  rcases st with _ | ⟨z | z | k, st⟩ <;> simp only [s_sto] at h
  any_goals cases h
  split at h
  next hi =>
    rw [hh_frc_eq] at h
    exact row _ _ _ (hh_rv_c h5 _) hi rfl (fun ls' h' => hk _ _ _ h (hL.st1 h5 hi h'))
  next => cases h
end
