theorem cl_ty0 {t : String × String × String × Bool} (h : cl_ty 0 t = true) : parseFieldDescriptor t.2.2.1 = some .int ∧ t.2.2.2 = false := by
  unfold cl_ty at h
  simp only [Bool.and_eq_true, decide_eq_true_eq, Bool.not_eq_true'] at h
  exact h
theorem cl_ty1 {t : String × String × String × Bool} (h : cl_ty 1 t = true) : parseFieldDescriptor t.2.2.1 = some .long ∧ t.2.2.2 = false := by
  unfold cl_ty at h
  simp only [Bool.and_eq_true, decide_eq_true_eq, Bool.not_eq_true'] at h
  exact h
theorem cl_ty4 {t : String × String × String × Bool} (h : cl_ty 4 t = true) : parseFieldDescriptor t.2.2.1 = some .boolean ∧ t.2.2.2 = false := by
  unfold cl_ty at h
  simp only [Bool.and_eq_true, decide_eq_true_eq, Bool.not_eq_true'] at h
  exact h
theorem cl_ty2 {t : String × String × String × Bool} (h : cl_ty 2 t = true) : (∃ ty, parseFieldDescriptor t.2.2.1 = some ty ∧ ∀ v : Value, (v = .null ∨ ∃ a, v = .ref a) → narrow ty v = v ∧ fits ty v = true) ∧ t.2.2.2 = false := by
  unfold cl_ty at h
  simp only [Bool.and_eq_true, Bool.not_eq_true'] at h
  refine ⟨?_, h.2⟩
  have h1 := h.1
  split at h1
  next n hn => exact ⟨_, hn, fun v hv => by rcases hv with rfl | ⟨a, rfl⟩ <;> exact ⟨rfl, rfl⟩⟩
  next => cases h1
theorem cl_ty3 {t : String × String × String × Bool} (h : cl_ty 3 t = true) : (∃ ty, parseFieldDescriptor t.2.2.1 = some ty ∧ ∀ v : Value, (v = .null ∨ ∃ a, v = .ref a) → narrow ty v = v ∧ fits ty v = true) ∧ t.2.2.2 = true := by
  unfold cl_ty at h
  simp only [Bool.and_eq_true] at h
  refine ⟨?_, h.2⟩
  have h1 := h.1
  split at h1
  next n hn => exact ⟨_, hn, fun v hv => by rcases hv with rfl | ⟨a, rfl⟩ <;> exact ⟨rfl, rfl⟩⟩
  next n hn => exact ⟨_, hn, fun v hv => by rcases hv with rfl | ⟨a, rfl⟩ <;> exact ⟨rfl, rfl⟩⟩
  next => cases h1
theorem hh_map_set {f g : Nat → Value} {N j : Nat} {v : Value} (h : g j = v) (ho : ∀ i, i ≠ j → g i = f i) : ((List.range N).map f).set j v = (List.range N).map g := by
  apply List.ext_getElem?
  intro i
  rw [List.getElem?_set, List.getElem?_map, List.getElem?_map, List.length_map, List.length_range]
  by_cases hi : i < N
  · rw [List.getElem?_range hi]
    by_cases e : j = i
    · subst e; rw [if_pos rfl, if_pos hi, Option.map_some, h]
    · rw [if_neg e, Option.map_some, Option.map_some, ho i (fun q => e q.symm)]
  · rw [List.getElem?_eq_none (by simpa using hi)]
    by_cases e : j = i
    · subst e; rw [if_pos rfl, if_neg hi]; rfl
    · rw [if_neg e]; rfl
section
variable {p : Program} {l : Launch} {e : Env} {R : Room} {s : State} {m : MethodId} {args : Array Value} {below : List Frame} {meth : Method} {c : Code} {H : Heap} {locs : List Loc} {cells slots : Nat} {Q : State → Prop}
variable {cc : ByteArray} {pc : Nat} {la : Array Slot} {ba : Nat} {oa : Nat → Nat} {v5 : Value} {ls : hh_Lo} {st : hh_Sk} {M : hh_Mm} {r : hh_Rs} {kk : hh_Lo → hh_Sk → hh_Mm → Option hh_Rs}
variable {cA : Nat → ClassId} {L : Nat} {o1 o2 o4 : Nat → Int} {D : va_G} {own : String}
/-- a field of a new object is written: what holds behind it -/
theorem sd_putv {ci j k idx : Nat} {q : vw_C} {v : Value} {ty : FieldType} {M' : hh_Mm} (hx : p.tables.exec = Jvm.exec) (hb : c.code = cc) (hd : decode cc pc = .ok (.putfield idx, 3)) (hts : ∀ w ∈ lw_g, w.before args s = true) (hown : s.vm.findClass own = some m.cls) (hK : va_K D vwCl (hh_tys cA) s)
    (hq : vwCl[ci]? = some q) (hj : j < q.2.2) (hl : Cond.fieldLink own idx (q.2.1 j).1 (q.2.1 j).2.1 (q.2.1 j).2.2.1 ∈ lw_g) (hfin : (q.2.1 j).2.2.2 = false ∨ ((q.2.1 j).2.2.2 = true ∧ meth.name = "<init>" ∧ (q.2.1 j).1 = own))
    (hp : parseFieldDescriptor (q.2.1 j).2.2.1 = some ty) (hn : narrow ty v = v) (hfit : fits ty v = true)
    (hR : hh_R ba oa v5 cA L o1 o2 o4 D M H) (hS : va_S (hh_A ba) s.heap H locs) (hkd : (M.1.2 k).1 = 20 + ci)
    (hw' : hh_wf L o1 o2 o4 M') (hn' : M'.1.1 = M.1.1) (hsh : (M'.1.2 k).1 = 20 + ci) (hln : (M'.1.2 k).2.1 = (M.1.2 k).2.1) (ho : ∀ a, a ≠ k → hh_en ba oa v5 cA M' a = hh_en ba oa v5 cA M a) (hv : hh_fv ba oa v5 M' k ci j = v) (hvo : ∀ i, i ≠ j → hh_fv ba oa v5 M' k ci i = hh_fv ba oa v5 M k ci i)
    (hk : ∀ H2 locs2, hh_R ba oa v5 cA L o1 o2 o4 D M' H2 → va_S (hh_A ba) s.heap H2 locs2 → hh_G p l e R s m args below meth c Q ba oa v5 H2 locs2 cells slots (pc + 3) la st) :
    W p l e R s m args below meth c H locs cells slots Q (F0 m pc la (v :: hh_tv ba oa v5 (.inr (.inr k)) :: st.map (hh_tv ba oa v5))) := by
  have hci : ci < 11 := (List.getElem?_eq_some_iff.mp hq).1
  obtain ⟨h8, hnk⟩ := hR.1.new (k := k) (by omega) (by omega)
  obtain ⟨c1, ⟨ty0, c2⟩, c3, c4, c5, c6⟩ := cl_ok _ _ hq
  have hlen : (M.1.2 k).2.1 = q.2.2 := by
    rw [c6, (hR.1.2.2.2.1 k h8 hnk).2.1 (by omega), hkd, show 20 + ci - 20 = ci by omega]
  have hw := hh_ws_at (ba := ba) (oa := oa) (v5 := v5) (cA := cA) h8 hnk
  rw [hh_en_obj hkd] at hw
  have hen : hh_en ba oa v5 cA M' k = .inr (ci, ((List.range (M.1.2 k).2.1).map (hh_fv ba oa v5 M k ci)).set j v) := by
    rw [hh_en_obj hsh, hln, hh_map_set hv hvo]
  rw [hh_tv_8 h8]
  have fin : ∀ (H1 : Heap) (locs1 : List Loc), va_P D vwCl ((hh_ws ba oa v5 cA M).set (k - 8) (hh_ad ba oa k, .inr (ci, ((List.range (M.1.2 k).2.1).map (hh_fv ba oa v5 M k ci)).set j v))) H1 → va_D (hh_A ba) ((hh_ws ba oa v5 cA M).set (k - 8) (hh_ad ba oa k, .inr (ci, ((List.range (M.1.2 k).2.1).map (hh_fv ba oa v5 M k ci)).set j v))) → va_S (hh_A ba) s.heap H1 locs1 → W p l e R s m args below meth c H1 locs1 cells slots Q (F0 m (pc + 3) la (st.map (hh_tv ba oa v5))) := by
    intro H1 locs1 hP1 _ hS1
    rw [hh_ws_set h8 hnk hn' hen ho] at hP1
    exact hk H1 locs1 ⟨hw', hP1⟩ hS1
  have hjl : j < ((List.range (M.1.2 k).2.1).map (hh_fv ba oa v5 M k ci)).length := by rw [List.length_map, List.length_range, hlen]; exact hj
  rcases hfin with hf | ⟨hf, hin, hdecl⟩
  · exact va_put (D := D) (cl := vwCl) (C := q.1) (T := q.2.1) (N := q.2.2) (ci := ci) (A := hh_A ba) (H0 := s.heap) hx hb hts c1 ty0 c2 c3 hown hK hR.2 hh_D hS (k - 8) hw hq j hj (hts _ hl) (fun _ h => h) hf hp hn hfit hjl hd fin
  · exact va_putF (D := D) (cl := vwCl) (C := q.1) (T := q.2.1) (N := q.2.2) (ci := ci) (A := hh_A ba) (H0 := s.heap) hx hb hts c1 ty0 c2 c3 hown hK hR.2 hh_D hS (k - 8) hw hq j hj (hts _ hl) (fun _ h => h) hf hin hdecl hp hn hfit hjl hd fin
theorem hh_up_s {f : hh_Sv} {k j : Nat} {z : Int} : up f k j z k j = z := by unfold up; rw [if_pos ⟨rfl, rfl⟩]
theorem hh_up_o {f : hh_Sv} {k j i : Nat} {z : Int} (h : i ≠ j) : up f k j z k i = f k i := by unfold up; rw [if_neg (fun q => h q.2)]
theorem hh_fv_o {k j ci i : Nat} {z : Int} (h : i ≠ j) : hh_fv ba oa v5 (M.1, up M.2 k j z) k ci i = hh_fv ba oa v5 M k ci i := by
  simp only [hh_fv, hh_up_o h]
theorem hh_us_s {f : Nat → Nat × Nat × List Nat} {k : Nat} {v : Nat × Nat × List Nat} : hh_us f k v k = v := by unfold hh_us; rw [if_pos rfl]
theorem hh_us_o {f : Nat → Nat × Nat × List Nat} {k a : Nat} {v : Nat × Nat × List Nat} (h : a ≠ k) : hh_us f k v a = f a := by unfold hh_us; rw [if_neg h]
theorem hh_en_us {k a : Nat} {w : Nat × Nat × List Nat} (h : a ≠ k) : hh_en ba oa v5 cA ((M.1.1, hh_us M.1.2 k w), M.2) a = hh_en ba oa v5 cA M a := by
  have h1 : hh_us M.1.2 k w a = M.1.2 a := hh_us_o h
  have h2 : hh_fv ba oa v5 ((M.1.1, hh_us M.1.2 k w), M.2) a ((M.1.2 a).1 - 20) = hh_fv ba oa v5 M a ((M.1.2 a).1 - 20) := funext fun b => by simp only [hh_fv, h1]
  simp only [hh_en, hh_rq, h1, h2]
theorem hh_wf_us {k : Nat} {w : List Nat} (h8 : 8 ≤ k) (hk : k < M.1.1) (hl : w.length = (M.1.2 k).2.2.length) (h : hh_wf L o1 o2 o4 M) : hh_wf L o1 o2 o4 ((M.1.1, hh_us M.1.2 k ((M.1.2 k).1, (M.1.2 k).2.1, w)), M.2) := by
  obtain ⟨h1, h2, ⟨a1, a2, a3, a4, a0, a5, a6, a7⟩, h4, h5⟩ := h
  have o : ∀ a, a < 8 → hh_us M.1.2 k ((M.1.2 k).1, (M.1.2 k).2.1, w) a = M.1.2 a := fun a ha => hh_us_o (by omega)
  refine ⟨h1, fun a ha => (hh_us_o (by dsimp only at ha; omega)).trans (h2 a ha), ⟨(o 1 (by decide)).trans a1, (o 2 (by decide)).trans a2, (o 3 (by decide)).trans a3, (o 4 (by decide)).trans a4, (congrArg Prod.fst (o 0 (by decide))).trans a0, (congrArg Prod.fst (o 5 (by decide))).trans a5, (congrArg Prod.fst (o 6 (by decide))).trans a6, (congrArg Prod.fst (o 7 (by decide))).trans a7⟩, fun a ha hb => ?_, h5⟩
  show hh_kn (hh_us M.1.2 k ((M.1.2 k).1, (M.1.2 k).2.1, w) a)
  by_cases e1 : a = k
  · subst e1
    rw [hh_us_s]
    obtain ⟨q1, q2, q3, q4⟩ := h4 a ha hb
    exact ⟨q1, q2, fun z => hl.trans (q3 z), q4⟩
  · rw [hh_us_o e1]
    exact h4 a ha hb
theorem sd_put {x : hh_Ex} {idx : Nat} (h5 : v5 = .null ∨ ∃ t, v5 = .ref t) (hx : p.tables.exec = Jvm.exec) (hb : c.code = cc) (hd : decode cc pc = .ok (.putfield idx, 3)) (hts : ∀ w ∈ lw_g, w.before args s = true) (hown : s.vm.findClass own = some m.cls) (hK : va_K D vwCl (hh_tys cA) s)
    (hf : pg_F[x.2.2.2]? = some (own, idx, x.1, x.2.1)) (hci : x.1 < 11) (hty : x.2.2.1 = hh_ft x.1 x.2.1) (hfin : x.2.2.1 = 3 → meth.name = "<init>" ∧ ∀ q, vwCl[x.1]? = some q → (q.2.1 x.2.1).1 = own)
    (hL : hh_L ba oa v5 la ls) (hR : hh_R ba oa v5 cA L o1 o2 o4 D M H) (hS : va_S (hh_A ba) s.heap H locs) (h : s_put x ls st M kk = some r)
    (hk : ∀ st2 M2 H2 locs2, kk ls st2 M2 = some r → hh_R ba oa v5 cA L o1 o2 o4 D M2 H2 → va_S (hh_A ba) s.heap H2 locs2 → M2.1.1 = M.1.1 → hh_G p l e R s m args below meth c Q ba oa v5 H2 locs2 cells slots (pc + 3) la st2) : hh_G p l e R s m args below meth c Q ba oa v5 H locs cells slots pc la st := by
  rcases fr_ok _ _ hf with ⟨q, hq, hj, hl⟩ | ⟨h70, -⟩ | ⟨h70, -⟩
  · dsimp only at hq hj hl
    have ht := cl_tok _ _ hq _ hj
    rw [← hty] at ht
    unfold s_put at h
    split at h
    next v k st e0 =>
      rw [e0] at ht
      split at h
      next hkd =>
        split at h
        next h8 =>
          refine sd_putv (M' := (M.1, up M.2 k x.2.1 v)) hx hb hd hts hown hK hq hj hl (Or.inl (cl_ty0 ht).2) (cl_ty0 ht).1 rfl rfl hR hS hkd (hh_wf_up h8 hR.1) rfl hkd rfl (fun a ha => hh_en_up ha) ?_ (fun i hi => hh_fv_o hi) (fun H2 locs2 h1 h2 => hk _ _ _ _ h h1 h2 rfl)
          unfold hh_fv; rw [← hty, e0]; exact congrArg (fun z : Int => Value.int (Int32.ofInt z)) hh_up_s
        next => cases h
      next => cases h
    next v k st e0 =>
      rw [e0] at ht
      split at h
      next hkd =>
        split at h
        next h8 =>
          split at h
          next hv =>
            refine sd_putv (M' := (M.1, up M.2 k x.2.1 v)) hx hb hd hts hown hK hq hj hl (Or.inl (cl_ty4 ht).2) (cl_ty4 ht).1 ?_ ?_ hR hS hkd (hh_wf_up h8 hR.1) rfl hkd rfl (fun a ha => hh_en_up ha) ?_ (fun i hi => hh_fv_o hi) (fun H2 locs2 h1 h2 => hk _ _ _ _ h h1 h2 rfl)
            · rcases hv with rfl | rfl <;> rfl
            · rcases hv with rfl | rfl <;> rfl
            · unfold hh_fv; rw [← hty, e0]; exact congrArg (fun z : Int => Value.int (Int32.ofInt z)) hh_up_s
          next => cases h
        next => cases h
      next => cases h
    next v k st e0 =>
      rw [e0] at ht
      split at h
      next hkd =>
        split at h
        next h8 =>
          refine sd_putv (M' := (M.1, up M.2 k x.2.1 v)) hx hb hd hts hown hK hq hj hl (Or.inl (cl_ty1 ht).2) (cl_ty1 ht).1 rfl rfl hR hS hkd (hh_wf_up h8 hR.1) rfl hkd rfl (fun a ha => hh_en_up ha) ?_ (fun i hi => hh_fv_o hi) (fun H2 locs2 h1 h2 => hk _ _ _ _ h h1 h2 rfl)
          unfold hh_fv; rw [← hty, e0]; exact congrArg (fun z : Int => Value.long (Int64.ofInt z)) hh_up_s
        next => cases h
      next => cases h
    next v k st e0 =>
      rw [e0] at ht
      split at h
      next hkd =>
        split at h
        next h8 =>
          split at h
          next hv =>
            obtain ⟨⟨ty, t1, t2⟩, t3⟩ := cl_ty2 ht
            refine sd_putv (M' := (M.1, up M.2 k x.2.1 v)) hx hb hd hts hown hK hq hj hl (Or.inl t3) t1 (t2 _ (hh_rv_c h5 v)).1 (t2 _ (hh_rv_c h5 v)).2 hR hS hkd (hh_wf_up h8 hR.1) rfl hkd rfl (fun a ha => hh_en_up ha) ?_ (fun i hi => hh_fv_o hi) (fun H2 locs2 h1 h2 => hk _ _ _ _ h h1 h2 rfl)
            unfold hh_fv; rw [← hty, e0]; exact congrArg (fun z : Int => hh_rv ba oa v5 z.toNat) hh_up_s
          next => cases h
        next => cases h
      next => cases h
    next v k st e0 =>
      rw [e0] at ht
      split at h
      next hkd =>
        split at h
        next h8 =>
          split at h
          next hv =>
            obtain ⟨⟨ty, t1, t2⟩, t3⟩ := cl_ty3 ht
            obtain ⟨f1, f2⟩ := hfin e0
            have hkd' : (M.1.2 k).1 = 20 + x.1 := hkd
            obtain ⟨-, hnk⟩ := hR.1.new (k := k) (by omega) (by omega)
            have hlen : (M.1.2 k).2.2.length = q.2.2 := by
              rw [(hR.1.2.2.2.1 k h8 hnk).2.2.1 (by omega), (hR.1.2.2.2.1 k h8 hnk).2.1 (by omega), (cl_ok _ _ hq).2.2.2.2.2, hkd', show 20 + x.1 - 20 = x.1 by omega]
            refine sd_putv (M' := ((M.1.1, hh_us M.1.2 k ((M.1.2 k).1, (M.1.2 k).2.1, (M.1.2 k).2.2.set x.2.1 v)), M.2)) hx hb hd hts hown hK hq hj hl (Or.inr ⟨t3, f1, f2 _ hq⟩) t1 (t2 _ (hh_rv_c h5 v)).1 (t2 _ (hh_rv_c h5 v)).2 hR hS hkd (hh_wf_us h8 hnk (List.length_set ..) hR.1) rfl ?_ ?_ (fun a ha => hh_en_us ha) ?_ (fun i hi => ?_) (fun H2 locs2 h1 h2 => hk _ _ _ _ h h1 h2 rfl)
            · show (hh_us M.1.2 k _ k).1 = _; rw [hh_us_s]; exact hkd'
            · show (hh_us M.1.2 k _ k).2.1 = _; rw [hh_us_s]
            · unfold hh_fv
              rw [← hty, e0]
              show hh_rv ba oa v5 ((hh_us M.1.2 k _ k).2.2.getD x.2.1 0) = _
              rw [hh_us_s, List.getD_eq_getElem?_getD, List.getElem?_set, if_pos rfl, if_pos (by omega)]
              rfl
            · unfold hh_fv
              have : ((hh_us M.1.2 k ((M.1.2 k).1, (M.1.2 k).2.1, (M.1.2 k).2.2.set x.2.1 v) k).2.2.getD i 0) = (M.1.2 k).2.2.getD i 0 := by
                rw [hh_us_s, List.getD_eq_getElem?_getD, List.getElem?_set_ne (fun q => hi q.symm), ← List.getD_eq_getElem?_getD]
              dsimp only at this ⊢
              rw [this]
          next => cases h
        next => cases h
      next => cases h
    next => cases h
  · dsimp only at h70; omega
  · dsimp only at h70; omega
end
