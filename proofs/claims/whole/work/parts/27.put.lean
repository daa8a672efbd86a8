theorem cl_ty0 {t : String × String × String × Bool} (h : cl_ty 0 t = true) : parseFieldDescriptor t.2.2.1 = some .int ∧ t.2.2.2 = false := by
  unfold cl_ty at h
  simp only [Bool.and_eq_true, decide_eq_true_eq, Bool.not_eq_true'] at h
  exact h
theorem cl_ty1 {t : String × String × String × Bool} (h : cl_ty 1 t = true) : parseFieldDescriptor t.2.2.1 = some .long ∧ t.2.2.2 = false := by
  unfold cl_ty at h
  simp only [Bool.and_eq_true, decide_eq_true_eq, Bool.not_eq_true'] at h
  exact h
theorem cl_ty4 {t : String × String × String × Bool} (h : cl_ty 4 t = true) : parseFieldDescriptor t.2.2.1 = some .boolean ∧ t.2.2.2 = false := by
  unfold cl_ty at h
  simp only [Bool.and_eq_true, decide_eq_true_eq, Bool.not_eq_true'] at h
  exact h
theorem cl_ty2 {t : String × String × String × Bool} (h : cl_ty 2 t = true) : (∃ ty, parseFieldDescriptor t.2.2.1 = some ty ∧ ∀ v : Value, (v = .null ∨ ∃ a, v = .ref a) → narrow ty v = v ∧ fits ty v = true) ∧ t.2.2.2 = false := by
  unfold cl_ty at h
  simp only [Bool.and_eq_true, Bool.not_eq_true'] at h
  refine ⟨?_, h.2⟩
  have h1 := h.1
  split at h1
  next n hn => exact ⟨_, hn, fun v hv => by rcases hv with rfl | ⟨a, rfl⟩ <;> exact ⟨rfl, rfl⟩⟩
  next => cases h1
theorem cl_ty3 {t : String × String × String × Bool} (h : cl_ty 3 t = true) : (∃ ty, parseFieldDescriptor t.2.2.1 = some ty ∧ ∀ v : Value, (v = .null ∨ ∃ a, v = .ref a) → narrow ty v = v ∧ fits ty v = true) ∧ t.2.2.2 = true := by
  unfold cl_ty at h
  simp only [Bool.and_eq_true] at h
  refine ⟨?_, h.2⟩
  have h1 := h.1
  split at h1
  next n hn => exact ⟨_, hn, fun v hv => by rcases hv with rfl | ⟨a, rfl⟩ <;> exact ⟨rfl, rfl⟩⟩
  next n hn => exact ⟨_, hn, fun v hv => by rcases hv with rfl | ⟨a, rfl⟩ <;> exact ⟨rfl, rfl⟩⟩
  next => cases h1
theorem hh_map_set {f g : Nat → Value} {N j : Nat} {v : Value} (h : g j = v) (ho : ∀ i, i ≠ j → g i = f i) : ((List.range N).map f).set j v = (List.range N).map g := by
  apply List.ext_getElem?
  intro i
  rw [List.getElem?_set, List.getElem?_map, List.getElem?_map, List.length_map, List.length_range]
  by_cases hi : i < N
  · rw [List.getElem?_range hi]
    by_cases e : j = i
    · subst e; rw [if_pos rfl, if_pos hi, Option.map_some, h]
    · rw [if_neg e, Option.map_some, Option.map_some, ho i (fun q => e q.symm)]
  · rw [List.getElem?_eq_none (by simpa using hi)]
    by_cases e : j = i
    · subst e; rw [if_pos rfl, if_neg hi]; rfl
    · rw [if_neg e]; rfl
section
variable {p : Program} {l : Launch} {e : Env} {R : Room} {s : State} {m : MethodId} {args : Array Value} {below : List Frame} {meth : Method} {c : Code} {H : Heap} {locs : List Loc} {cells slots : Nat} {Q : State → Prop}
variable {cc : ByteArray} {pc : Nat} {la : Array Slot} {ba : Nat} {oa : Nat → Nat} {v5 : Value} {ls : hh_Lo} {st : hh_Sk} {M : hh_Mm} {r : hh_Rs} {kk : hh_Lo → hh_Sk → hh_Mm → Option hh_Rs}
variable {cA : Nat → ClassId} {L : Nat} {o1 o2 o4 : Nat → Int} {D : va_G} {own : String}
/-- a field of a new object is written: what holds behind it -/
theorem sd_putv {ci j k idx : Nat} {q : vw_C} {v : Value} {ty : FieldType} {M' : hh_Mm} (hx : p.tables.exec = Jvm.exec) (hb : c.code = cc) (hd : decode cc pc = .ok (.putfield idx, 3)) (hts : ∀ w ∈ lw_tbl, w.before args s = true) (hown : s.vm.findClass own = some m.cls) (hK : va_K D vwCl (hh_tys cA) s)
    (hq : vwCl[ci]? = some q) (hj : j < q.2.2) (hl : Cond.fieldLink own idx (q.2.1 j).1 (q.2.1 j).2.1 (q.2.1 j).2.2.1 ∈ lw_tbl) (hfin : (q.2.1 j).2.2.2 = false ∨ ((q.2.1 j).2.2.2 = true ∧ meth.name = "<init>" ∧ (q.2.1 j).1 = own))
    (hp : parseFieldDescriptor (q.2.1 j).2.2.1 = some ty) (hn : narrow ty v = v) (hfit : fits ty v = true)
    (hR : hh_R ba oa v5 cA L o1 o2 o4 D M H) (hS : va_S (hh_A ba) s.heap H locs) (hkd : (M.1.2 k).1 = 20 + ci)
    (hw' : hh_wf L o1 o2 o4 M') (hn' : M'.1.1 = M.1.1) (hsh : (M'.1.2 k).1 = 20 + ci) (hln : (M'.1.2 k).2.1 = (M.1.2 k).2.1) (ho : ∀ a, a ≠ k → hh_en ba oa v5 cA M' a = hh_en ba oa v5 cA M a) (hv : hh_fv ba oa v5 M' k ci j = v) (hvo : ∀ i, i ≠ j → hh_fv ba oa v5 M' k ci i = hh_fv ba oa v5 M k ci i)
    (hk : ∀ H2 locs2, hh_R ba oa v5 cA L o1 o2 o4 D M' H2 → va_S (hh_A ba) s.heap H2 locs2 → hh_G p l e R s m args below meth c Q ba oa v5 H2 locs2 cells slots (pc + 3) la st) :
    W p l e R s m args below meth c H locs cells slots Q (F0 m pc la (v :: hh_tv ba oa v5 (.inr (.inr k)) :: st.map (hh_tv ba oa v5))) := by
  have hci : ci < 11 := (List.getElem?_eq_some_iff.mp hq).1
  obtain ⟨h8, hnk⟩ := hR.1.new (k := k) (by omega) (by omega)
  obtain ⟨c1, ⟨ty0, c2⟩, c3, c4, c5, c6⟩ := cl_ok _ _ hq
  have hlen : (M.1.2 k).2.1 = q.2.2 := by
    rw [c6, (hR.1.2.2.2.1 k h8 hnk).2.1 (by omega), hkd, show 20 + ci - 20 = ci by omega]
  have hw := hh_ws_at (ba := ba) (oa := oa) (v5 := v5) (cA := cA) h8 hnk
  rw [hh_en_obj hkd] at hw
  have hen : hh_en ba oa v5 cA M' k = .inr (ci, ((List.range (M.1.2 k).2.1).map (hh_fv ba oa v5 M k ci)).set j v) := by
    rw [hh_en_obj hsh, hln, hh_map_set hv hvo]
  rw [hh_tv_8 h8]
  have fin : ∀ (H1 : Heap) (locs1 : List Loc), va_P D vwCl ((hh_ws ba oa v5 cA M).set (k - 8) (hh_ad ba oa k, .inr (ci, ((List.range (M.1.2 k).2.1).map (hh_fv ba oa v5 M k ci)).set j v))) H1 → va_D (hh_A ba) ((hh_ws ba oa v5 cA M).set (k - 8) (hh_ad ba oa k, .inr (ci, ((List.range (M.1.2 k).2.1).map (hh_fv ba oa v5 M k ci)).set j v))) → va_S (hh_A ba) s.heap H1 locs1 → H1.size = H.size → W p l e R s m args below meth c H1 locs1 cells slots Q (F0 m (pc + 3) la (st.map (hh_tv ba oa v5))) := by
    intro H1 locs1 hP1 _ hS1 hz
    rw [hh_ws_set h8 hnk hn' hen ho] at hP1
    exact hk H1 locs1 ⟨hw', by rw [hz, hn']; exact hR.2.1, hP1⟩ hS1
  rcases hfin with hf | ⟨hf, hin, hdecl⟩
  · sorry
  · sorry
end
