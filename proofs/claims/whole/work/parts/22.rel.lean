/-! what a heap of the machine has to do with a memory of the plain machine -/
def hh_FY : List (List Nat) := [[0, 0, 0, 0, 0, 0, 0], [0, 0, 1, 3, 3, 3, 3, 3], [0, 2, 2, 0, 0, 3, 3, 3], [1, 1, 3], [0, 3, 3, 3, 3, 3], [0, 3, 3, 3, 3, 0], [0, 0, 0, 0, 3, 3, 3, 3], [1, 0, 3, 3, 0], [3, 3], [3, 3, 0, 3, 3, 2, 3, 0, 3, 0, 3, 3, 3, 3, 3, 3, 3], [1, 1, 0, 0, 1, 3, 3, 3, 3, 3, 0, 0, 0, 0, 0, 0, 0, 0, 3, 3, 3, 3, 3, 3, 3, 3, 3, 3, 3, 3, 3, 3, 0, 0, 3, 3, 3, 3, 3, 3, 0, 0, 4, 0, 0, 1, 1, 3, 3, 3, 4, 0, 0, 1, 3, 3, 3, 3, 3, 3, 3, 0, 0, 3, 3, 0, 3, 3, 3, 1, 0, 3, 3]]
section
variable (ba : Nat) (oa : Nat → Nat) (v5 : Value) (cA : Nat → ClassId) (L : Nat) (o1 o2 o4 : Nat → Int) (D : va_G)
def hh_ad (k : Nat) : Nat := if k < 8 then oa k else ba + (k - 8)
def hh_rv (k : Nat) : Value := if k = 0 then .null else if k = 5 then v5 else .ref (hh_ad ba oa k)
def hh_tv (v : hh_Av) : Value := match v with
  | .inl z => .int (Int32.ofInt z)
  | .inr (.inl z) => .long (Int64.ofInt z)
  | .inr (.inr k) => hh_rv ba oa v5 k
def hh_ft (ci j : Nat) : Nat := (hh_FY.getD ci []).getD j 0
def hh_fv (M : hh_Mm) (k ci j : Nat) : Value := match hh_ft ci j with
  | 1 => .long (Int64.ofInt (M.2 k j))
  | 2 => hh_rv ba oa v5 (M.2 k j).toNat
  | 3 => hh_rv ba oa v5 ((M.1.2 k).2.2.getD j 0)
  | _ => .int (Int32.ofInt (M.2 k j))
def hh_oq (q : Nat) : Option Nat := if q = 0 then none else if q = 5 then (match v5 with
  | .ref t => some t
  | _ => none) else some (hh_ad ba oa q)
def hh_rq (M : hh_Mm) (k j : Nat) : Nat := if (M.1.2 k).1 = 10 then (M.2 k j).toNat else (M.1.2 k).2.2.getD j 0
def hh_en (M : hh_Mm) (k : Nat) : va_E :=
  if (M.1.2 k).1 < 3 then .inl (cA (M.1.2 k).1, (M.1.2 k).2.1, .inl (fun j => Int32.ofInt (M.2 k j)))
  else if (M.1.2 k).1 = 3 then .inl (cA 3, (M.1.2 k).2.1, .inr (.inl (fun j => Int64.ofInt (M.2 k j))))
  else if (M.1.2 k).1 < 20 then .inl (cA (M.1.2 k).1, (M.1.2 k).2.1, .inr (.inr (.inr (.inr (fun j => hh_oq ba oa v5 (hh_rq M k j))))))
  else .inr ((M.1.2 k).1 - 20, (List.range (M.1.2 k).2.1).map (hh_fv ba oa v5 M k ((M.1.2 k).1 - 20)))
def hh_ws (M : hh_Mm) : va_W := (List.range (M.1.1 - 8)).map (fun i => (ba + i, hh_en ba oa v5 cA M (i + 8)))
/-- of a new cell: its kind, and how much it holds -/
def hh_kn (q : Nat × Nat × List Nat) : Prop := (q.1 < 4 ∨ q.1 = 4 ∨ q.1 = 5 ∨ q.1 = 8 ∨ q.1 = 10 ∨ (20 ≤ q.1 ∧ q.1 < 31)) ∧ (20 ≤ q.1 → q.2.1 = (hh_FY.getD (q.1 - 20) []).length) ∧ (4 ≤ q.1 → q.2.2.length = q.2.1) ∧ q.2.1 < 10000
def hh_wf (M : hh_Mm) : Prop := 8 ≤ M.1.1 ∧ (∀ k, M.1.1 ≤ k → M.1.2 k = (99, 0, [])) ∧ (M.1.2 1 = (0, L, []) ∧ M.1.2 2 = (3, 17, []) ∧ M.1.2 3 = (90, 2, [4, 0]) ∧ M.1.2 4 = (1, 112, []) ∧ (M.1.2 0).1 = 99 ∧ (M.1.2 5).1 = 99 ∧ (M.1.2 6).1 = 99 ∧ (M.1.2 7).1 = 99) ∧ (∀ k, 8 ≤ k → k < M.1.1 → hh_kn (M.1.2 k)) ∧ M.2 1 = o1 ∧ M.2 2 = o2 ∧ M.2 4 = o4 ∧ M.2 3 1 = 0
def hh_tys : List (ClassId × FieldType) := [(cA 0, .int), (cA 1, .byte), (cA 2, .boolean), (cA 3, .long), (cA 4, .object "HotHand$Asked"), (cA 5, .object "HotHand$Court"), (cA 8, .object "HotHand$Measure"), (cA 10, .object "HotHand$Rules")]
def hh_R (M : hh_Mm) (H : Heap) : Prop := hh_wf L o1 o2 o4 M ∧ va_P D vwCl (hh_ws ba oa v5 cA M) H
def hh_A : Nat → Prop := fun q => ba ≤ q
/-- the old cells: the script, the tens, the words' text and its bytes -/
def hh_O (U : State) (H : Heap) : Prop := va_T .int (oa 1) L (fun j => .int (Int32.ofInt (o1 j))) (hh_A ba) U H ∧ va_Z "HotHand" "TENS" "[J" (.ref (oa 2)) (hh_A ba) U H ∧ va_T .long (oa 2) 17 (fun j => .long (Int64.ofInt (o2 j))) (hh_A ba) U H ∧ va_Z "java/lang/String" "COMPACT_STRINGS" "Z" (.int 1) (hh_A ba) U H ∧ va_Z "jdk/internal/util/Preconditions" "SIOOBE_FORMATTER" "Ljava/util/function/BiFunction;" v5 (hh_A ba) U H ∧ (v5 = .null ∨ ∃ t, v5 = .ref t) ∧ va_O "java/lang/String" (oa 3) (hh_A ba) U H ∧ va_OF "java/lang/String" "coder" "B" (.int 0) (oa 3) (hh_A ba) U H ∧ va_OF "java/lang/String" "value" "[B" (.ref (oa 4)) (oa 3) (hh_A ba) U H ∧ va_T .byte (oa 4) 112 (fun j => .int (Int32.ofInt (o4 j))) (hh_A ba) U H ∧ vk_R "HotHand$Reader" 72 "hit harder guarded hard guard state run miss place hits share runs after longest pairs first pass if and or not " (oa 3) U
end
section
variable {ba : Nat} {oa : Nat → Nat} {v5 : Value} {cA : Nat → ClassId} {L : Nat} {o1 o2 o4 : Nat → Int} {D : va_G} {M : hh_Mm} {H : Heap}
theorem hh_ws_at {k : Nat} (h8 : 8 ≤ k) (hk : k < M.1.1) : (hh_ws ba oa v5 cA M)[k - 8]? = some (hh_ad ba oa k, hh_en ba oa v5 cA M k) := by
  unfold hh_ws
  rw [List.getElem?_map, List.getElem?_range (by omega)]
  simp only [Option.map_some, hh_ad]
  rw [if_neg (by omega), show k - 8 + 8 = k by omega]
theorem hh_ws_in {i : Nat} {q : Nat × va_E} (h : (hh_ws ba oa v5 cA M)[i]? = some q) : i < M.1.1 - 8 ∧ q = (ba + i, hh_en ba oa v5 cA M (i + 8)) := by
  unfold hh_ws at h
  rw [List.getElem?_map] at h
  by_cases hi : i < M.1.1 - 8
  · rw [List.getElem?_range hi] at h
    simp only [Option.map_some, Option.some.injEq] at h
    exact ⟨hi, h.symm⟩
  · rw [List.getElem?_eq_none (by simpa using hi)] at h
    cases h
theorem hh_D : va_D (hh_A ba) (hh_ws ba oa v5 cA M) := by
  refine ⟨fun i j x y hi hj hxy => ?_, fun k q hk => ?_⟩
  · obtain ⟨-, rfl⟩ := hh_ws_in hi
    obtain ⟨-, rfl⟩ := hh_ws_in hj
    dsimp only at hxy
    omega
  · obtain ⟨-, rfl⟩ := hh_ws_in hk
    exact Nat.le_add_right _ _
/-- one cell's entry changed, the others' not -/
theorem hh_ws_set {M' : hh_Mm} {k : Nat} {e : va_E} (h8 : 8 ≤ k) (hk : k < M.1.1) (hn : M'.1.1 = M.1.1) (he : hh_en ba oa v5 cA M' k = e) (ho : ∀ a, a ≠ k → hh_en ba oa v5 cA M' a = hh_en ba oa v5 cA M a) :
    (hh_ws ba oa v5 cA M).set (k - 8) (hh_ad ba oa k, e) = hh_ws ba oa v5 cA M' := by
  apply List.ext_getElem?
  intro i
  rw [List.getElem?_set]
  unfold hh_ws
  rw [hn, List.getElem?_map, List.getElem?_map, List.length_map, List.length_range]
  by_cases hi : i < M.1.1 - 8
  · rw [List.getElem?_range hi]
    by_cases e1 : k - 8 = i
    · rw [if_pos e1, if_pos (by omega)]
      subst e1
      simp only [Option.map_some, hh_ad, if_neg (show ¬ k < 8 by omega), show k - 8 + 8 = k by omega, he]
    · rw [if_neg e1, Option.map_some, Option.map_some, ho (i + 8) (by omega)]
  · rw [List.getElem?_eq_none (by simpa using hi)]
    by_cases e1 : k - 8 = i
    · omega
    · rw [if_neg e1]; rfl
theorem hh_ws_push {M' : hh_Mm} {e : va_E} (h8 : 8 ≤ M.1.1) (hn : M'.1.1 = M.1.1 + 1) (he : hh_en ba oa v5 cA M' M.1.1 = e) (ho : ∀ a, a < M.1.1 → hh_en ba oa v5 cA M' a = hh_en ba oa v5 cA M a) :
    hh_ws ba oa v5 cA M ++ [(hh_ad ba oa M.1.1, e)] = hh_ws ba oa v5 cA M' := by
  unfold hh_ws
  rw [hn, show M.1.1 + 1 - 8 = (M.1.1 - 8) + 1 by omega, List.range_succ, List.map_append]
  congr 1
  · apply List.map_congr_left
    intro i hi
    have := List.mem_range.mp hi
    rw [ho (i + 8) (by omega)]
  · simp only [List.map_cons, List.map_nil, hh_ad, if_neg (show ¬ M.1.1 < 8 by omega), show M.1.1 - 8 + 8 = M.1.1 by omega, he]
theorem hh_en_up {k j a : Nat} {z : Int} (h : a ≠ k) : hh_en ba oa v5 cA (M.1, up M.2 k j z) a = hh_en ba oa v5 cA M a := by
  have e : ∀ b, up M.2 k j z a b = M.2 a b := fun b => by unfold up; rw [if_neg (fun q => h q.1)]
  have e2 : hh_fv ba oa v5 (M.1, up M.2 k j z) a ((M.1.2 a).1 - 20) = hh_fv ba oa v5 M a ((M.1.2 a).1 - 20) := funext fun b => by simp only [hh_fv, e]
  simp only [hh_en, hh_rq, e, e2]
theorem hh_wf_up {k j : Nat} {z : Int} (h8 : 8 ≤ k) (h : hh_wf L o1 o2 o4 M) : hh_wf L o1 o2 o4 (M.1, up M.2 k j z) := by
  have e : ∀ a, a < 8 → (up M.2 k j z) a = M.2 a := fun a ha => funext fun b => by unfold up; rw [if_neg (fun q => by omega)]
  obtain ⟨h1, h2, h3, h4, h5, h6, h7, h9⟩ := h
  exact ⟨h1, h2, h3, h4, (e 1 (by decide)).trans h5, (e 2 (by decide)).trans h6, (e 4 (by decide)).trans h7, (congrFun (e 3 (by decide)) 1).trans h9⟩
end
