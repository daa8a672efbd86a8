/-! new cells; copies of arrays -/
theorem W.sizeg {p : Program} {l : Launch} {e : Env} {R : Room} {s : State} {m : MethodId} {args : Array Value} {below : List Frame} {meth : Method} {c : Code} {H : Heap} {locs : List Loc} {cells slots : Nat} {Q : State → Prop} {g : JFrame} (h : H.size ≤ s.heap.size + cells → W p l e R s m args below meth c H locs cells slots Q g) : W p l e R s m args below meth c H locs cells slots Q g := by
  intro T hT X
  exact h (by rw [← hT]; exact X.heapSize) T hT X
section
variable {ba : Nat} {oa : Nat → Nat} {v5 : Value} {cA : Nat → ClassId} {L : Nat} {o1 o2 o4 : Nat → Int} {D : va_G} {M : hh_Mm} {H : Heap}
theorem hh_new_ad {q : Nat} {en : va_E} (h8 : 8 ≤ M.1.1) (hP : va_P D vwCl (hh_ws ba oa v5 cA M ++ [(q, en)]) H) (hD : va_D (hh_A ba) (hh_ws ba oa v5 cA M ++ [(q, en)])) (hz : H.size ≤ ba + (M.1.1 - 8) + 1) : q = hh_ad ba oa M.1.1 := by
  have hl : (hh_ws ba oa v5 cA M).length = M.1.1 - 8 := by unfold hh_ws; rw [List.length_map, List.length_range]
  have h1 : (hh_ws ba oa v5 cA M ++ [(q, en)])[M.1.1 - 8]? = some (q, en) := by
    rw [List.getElem?_append_right (by omega), hl, Nat.sub_self]; rfl
  have h2 := (hP _ _ h1).lt
  have h3 : ba ≤ q := hD.2 _ _ h1
  dsimp only at h2
  unfold hh_ad
  rw [if_neg (by omega)]
  by_cases h4 : q < ba + (M.1.1 - 8)
  · exfalso
    have h5 := hh_ws_at (ba := ba) (oa := oa) (v5 := v5) (cA := cA) (M := M) (k := q - ba + 8) (by omega) (by omega)
    rw [show q - ba + 8 - 8 = q - ba by omega] at h5
    have h6 : (hh_ws ba oa v5 cA M ++ [(q, en)])[q - ba]? = some (hh_ad ba oa (q - ba + 8), hh_en ba oa v5 cA M (q - ba + 8)) := by
      rw [List.getElem?_append_left (by omega)]; exact h5
    have h7 := hD.1 _ _ _ _ h6 h1 (by dsimp only [hh_ad]; rw [if_neg (by omega)]; omega)
    omega
  · omega
/-- a memory with one more cell, all of it 0 -/
def hh_gr (M : hh_Mm) (q : Nat × Nat × List Nat) : hh_Mm := ((M.1.1 + 1, hh_us M.1.2 M.1.1 q), hh_z M.2 M.1.1)
theorem hh_gr_old {q : Nat × Nat × List Nat} {a : Nat} (h : a < M.1.1) : hh_en ba oa v5 cA (hh_gr M q) a = hh_en ba oa v5 cA M a := by
  have h1 : (hh_gr M q).1.2 a = M.1.2 a := hh_us_o (by omega)
  have h2 : ∀ b, (hh_gr M q).2 a b = M.2 a b := fun b => by show hh_z M.2 M.1.1 a b = _; unfold hh_z; rw [if_neg (by omega)]
  have h3 : hh_fv ba oa v5 (hh_gr M q) a ((M.1.2 a).1 - 20) = hh_fv ba oa v5 M a ((M.1.2 a).1 - 20) := funext fun b => by simp only [hh_fv, h1, h2]
  simp only [hh_en, hh_rq, h1, h2, h3]
theorem hh_gr_wf {q : Nat × Nat × List Nat} (hq : hh_kn q) (h : hh_wf L o1 o2 o4 M) : hh_wf L o1 o2 o4 (hh_gr M q) := by
  obtain ⟨h1, h2, ⟨a1, a2, a3, a4, a0, a5, a6, a7⟩, h4, h5, h6, h7, h9⟩ := h
  have o : ∀ a, a < 8 → hh_us M.1.2 M.1.1 q a = M.1.2 a := fun a ha => hh_us_o (by omega)
  have z : ∀ a, a < 8 → hh_z M.2 M.1.1 a = M.2 a := fun a ha => funext fun b => by unfold hh_z; rw [if_neg (by omega)]
  refine ⟨by show 8 ≤ M.1.1 + 1; omega, fun a ha => (hh_us_o (by have : M.1.1 + 1 ≤ a := ha; omega)).trans (h2 a (by have : M.1.1 + 1 ≤ a := ha; omega)), ⟨(o 1 (by decide)).trans a1, (o 2 (by decide)).trans a2, (o 3 (by decide)).trans a3, (o 4 (by decide)).trans a4, (congrArg Prod.fst (o 0 (by decide))).trans a0, (congrArg Prod.fst (o 5 (by decide))).trans a5, (congrArg Prod.fst (o 6 (by decide))).trans a6, (congrArg Prod.fst (o 7 (by decide))).trans a7⟩, fun a ha hb => ?_, (z 1 (by decide)).trans h5, (z 2 (by decide)).trans h6, (z 4 (by decide)).trans h7, (congrFun (z 3 (by decide)) 1).trans h9⟩
  show hh_kn (hh_us M.1.2 M.1.1 q a)
  by_cases e1 : a = M.1.1
  · rw [e1, hh_us_s]; exact hq
  · rw [hh_us_o e1]
    exact h4 a ha (by have : a < M.1.1 + 1 := hb; omega)
theorem hh_gr_v {q : Nat × Nat × List Nat} (j : Nat) : (hh_gr M q).2 M.1.1 j = 0 := by show hh_z M.2 M.1.1 M.1.1 j = 0; unfold hh_z; rw [if_pos rfl]
theorem hh_gr_s {q : Nat × Nat × List Nat} : (hh_gr M q).1.2 M.1.1 = q := hh_us_s
theorem hh_rep0 (n j : Nat) : (List.replicate n 0).getD j 0 = 0 := by
  rw [List.getD_eq_getElem?_getD, List.getElem?_replicate]
  split <;> rfl
end
section
variable {p : Program} {l : Launch} {e : Env} {R : Room} {s : State} {m : MethodId} {args : Array Value} {below : List Frame} {meth : Method} {c : Code} {H : Heap} {locs : List Loc} {cells slots : Nat} {Q : State → Prop}
variable {cc : ByteArray} {pc : Nat} {la : Array Slot} {ba : Nat} {oa : Nat → Nat} {v5 : Value} {ls : hh_Lo} {st : hh_Sk} {M : hh_Mm} {r : hh_Rs} {kk : hh_Lo → hh_Sk → hh_Mm → Option hh_Rs}
variable {cA : Nat → ClassId} {L : Nat} {o1 o2 o4 : Nat → Int} {D : va_G} {own : String} {n0 : Nat}
/-- behind a making: the grown memory stands -/
theorem sd_grow {n N q : Nat} {w : Nat × Nat × List Nat} {H1 : Heap} (hwf : hh_wf L o1 o2 o4 M) (h0 : s.heap.size = ba + (n0 - 8)) (h8 : 8 ≤ n0) (hn : n0 ≤ M.1.1) (hkn : hh_kn w) (hN : N ≤ 10000)
    (hP : va_P D vwCl (hh_ws ba oa v5 cA M ++ [(q, hh_en ba oa v5 cA (hh_gr M w) M.1.1)]) H1) (hD : va_D (hh_A ba) (hh_ws ba oa v5 cA M ++ [(q, hh_en ba oa v5 cA (hh_gr M w) M.1.1)])) (hS : va_S (hh_A ba) s.heap H1 locs)
    (hk : hh_R ba oa v5 cA L o1 o2 o4 D (hh_gr M w) H1 → hh_G p l e R s m args below meth c Q ba oa v5 H1 locs (M.1.1 - n0 + 1) (10000 * (M.1.1 - n0) + 10000) (pc + n) la (.inr (.inr M.1.1) :: st)) :
    W p l e R s m args below meth c H1 locs (M.1.1 - n0 + 1) (10000 * (M.1.1 - n0) + N) Q (F0 m (pc + n) la (.ref q :: st.map (hh_tv ba oa v5))) := by
  refine W.sizeg fun hz => ?_
  have hq := hh_new_ad (by omega) hP hD (by omega)
  subst hq
  rw [hh_ws_push (M' := hh_gr M w) (by omega) rfl rfl (fun a ha => hh_gr_old ha)] at hP
  have g := hk ⟨hh_gr_wf hkn hwf, hP⟩
  refine W.widen (Nat.le_refl _) (show 10000 * (M.1.1 - n0) + N ≤ 10000 * (M.1.1 - n0) + 10000 by omega) ?_
  have e1 : hh_tv ba oa v5 (.inr (.inr M.1.1)) = .ref (hh_ad ba oa M.1.1) := hh_tv_8 (by omega)
  rw [← e1]
  exact g
theorem cl_def {c : Nat} {t : String × String × String × Bool} {ty : FieldType} (h : cl_ty c t = true) (hp : parseFieldDescriptor t.2.2.1 = some ty) : (c = 0 ∧ ty = .int) ∨ (c = 1 ∧ ty = .long) ∨ (c = 4 ∧ ty = .boolean) ∨ ((c = 2 ∨ c = 3) ∧ defaultValue ty = .null) := by
  unfold cl_ty at h
  split at h
  · simp only [Bool.and_eq_true, decide_eq_true_eq] at h
    exact Or.inl ⟨rfl, Option.some.inj (hp.symm.trans h.1)⟩
  · simp only [Bool.and_eq_true, decide_eq_true_eq] at h
    exact Or.inr (Or.inl ⟨rfl, Option.some.inj (hp.symm.trans h.1)⟩)
  · simp only [Bool.and_eq_true, decide_eq_true_eq] at h
    exact Or.inr (Or.inr (Or.inl ⟨rfl, Option.some.inj (hp.symm.trans h.1)⟩))
  · simp only [Bool.and_eq_true] at h
    have h1 := h.1
    split at h1
    next hn => cases hp.symm.trans hn; exact Or.inr (Or.inr (Or.inr ⟨Or.inl rfl, rfl⟩))
    next => cases h1
  · simp only [Bool.and_eq_true] at h
    have h1 := h.1
    split at h1
    next hn => cases hp.symm.trans hn; exact Or.inr (Or.inr (Or.inr ⟨Or.inr rfl, rfl⟩))
    next hn => cases hp.symm.trans hn; exact Or.inr (Or.inr (Or.inr ⟨Or.inr rfl, rfl⟩))
    next => cases h1
  · cases h
theorem sd_new {ci N idx : Nat} {q : vw_C} (hx : p.tables.exec = Jvm.exec) (hb : c.code = cc) (hd : decode cc pc = .ok (.new idx, 3)) (hts : ∀ w ∈ lw_g, w.before args s = true) (hown : s.vm.findClass own = some m.cls) (hK : va_K D vwCl (hh_tys cA) s)
    (hci : ci < 11) (hq : vwCl[ci]? = some q) (hN : N = q.2.2) (hcl : Cond.classLink own idx q.1 ∈ lw_g)
    (h0 : s.heap.size = ba + (n0 - 8)) (h8 : 8 ≤ n0) (hn : n0 ≤ M.1.1) (hc1 : M.1.1 - n0 + 1 ≤ R.cells) (hc2 : 10000 * (M.1.1 - n0) + 10000 ≤ R.slots)
    (hL : hh_L ba oa v5 la ls) (hR : hh_R ba oa v5 cA L o1 o2 o4 D M H) (hS : va_S (hh_A ba) s.heap H locs) (h : s_new ci N ls st M kk = some r)
    (hk : ∀ st2 M2 H2 locs2, kk ls st2 M2 = some r → hh_R ba oa v5 cA L o1 o2 o4 D M2 H2 → va_S (hh_A ba) s.heap H2 locs2 → M2.1.1 = M.1.1 + 1 → hh_G p l e R s m args below meth c Q ba oa v5 H2 locs2 (M.1.1 - n0 + 1) (10000 * (M.1.1 - n0) + 10000) (pc + 3) la st2) :
    hh_G p l e R s m args below meth c Q ba oa v5 H locs (M.1.1 - n0) (10000 * (M.1.1 - n0)) pc la st := by
  unfold s_new at h
  obtain ⟨c1, ⟨ty0, c2⟩, c3, c4, c5, c6⟩ := cl_ok _ _ hq
  have hN2 : N < 10000 := by
    rw [hN, c6]
    have : ∀ i, i < 11 → (hh_FY.getD i []).length < 10000 := by decide
    exact this ci hci
  have hkn : hh_kn (20 + ci, N, List.replicate N 0) := ⟨by omega, fun _ => by show N = _; rw [show 20 + ci - 20 = ci by omega, hN, c6], fun _ => List.length_replicate, hN2⟩
  have hen : hh_en ba oa v5 cA (hh_gr M (20 + ci, N, List.replicate N 0)) M.1.1 = .inr (ci, (List.range N).map (hh_fv ba oa v5 (hh_gr M (20 + ci, N, List.replicate N 0)) M.1.1 ci)) := by
    rw [hh_en_obj (ci := ci) (by rw [hh_gr_s]), hh_gr_s]
  have hfs : ∀ j, j < q.2.2 → defaultValue (ty0 j) = vp_V ((List.range N).map (hh_fv ba oa v5 (hh_gr M (20 + ci, N, List.replicate N 0)) M.1.1 ci)) j := by
    intro j hj
    unfold vp_V
    rw [List.getD_eq_getElem?_getD, List.getElem?_map, List.getElem?_range (by omega)]
    show _ = hh_fv ba oa v5 (hh_gr M (20 + ci, N, List.replicate N 0)) M.1.1 ci j
    unfold hh_fv
    rw [hh_gr_v, hh_gr_s, hh_rep0]
    rcases cl_def (cl_tok _ _ hq j hj) (c2 j hj) with ⟨q1, q2⟩ | ⟨q1, q2⟩ | ⟨q1, q2⟩ | ⟨q1 | q1, q2⟩
    · rw [q1, q2]; rfl
    · rw [q1, q2]; rfl
    · rw [q1, q2]; rfl
    · rw [q1, q2]; rfl
    · rw [q1, q2]; rfl
  refine va_new (D := D) (cl := vwCl) (A := hh_A ba) (H0 := s.heap) (C := q.1) (T := q.2.1) (N := q.2.2) (ci := ci) hx hb hts c1 ty0 c2 hown (hts _ hcl) (hts _ c4) (hts _ c5) hK hR.2 hh_D hS (fun z hz => by show ba ≤ z; omega) hq hfs hc1 (by omega) hd (fun a H1 hP hD hS1 => ?_)
  rw [← hen] at hP hD
  exact sd_grow hR.1 h0 h8 hn hkn (by omega) hP hD hS1 (fun hR1 => hk _ _ _ _ h hR1 hS1 rfl)
theorem sd_newa {t N : Nat} {n : Int} {at0 : ArrayType} {ty : FieldType} (hx : p.tables.exec = Jvm.exec) (hb : c.code = cc) (hd : decode cc pc = .ok (.newarray at0, 2)) (hts : ∀ w ∈ lw_g, w.before args s = true) (hK : va_K D vwCl (hh_tys cA) s)
    (ht : t < 4) (hty : newarray.typeOf at0 = ty) (har : Cond.arrayClass (newarray.typeOf at0) ∈ lw_g) (hti : (hh_tys cA)[t]? = some (cA t, ty)) (hra : ∀ cl1, va_RA s cl1 ty → va_RA s (cA t) ty → cl1 = cA t)
    (hcell : ∀ (k : ClassId) (f : Nat → Int), (∀ j, f j = 0) → (t < 3 → vp_cell k (N, .inl (fun j => Int32.ofInt (f j))) = arrV k N (fun _ => defaultValue ty)) ∧ (t = 3 → vp_cell k (N, .inr (.inl (fun j => Int64.ofInt (f j)))) = arrV k N (fun _ => defaultValue ty)))
    (hbytes : N * componentBytes ty ≤ 536870912) (hNn : n.toNat = N)
    (h0 : s.heap.size = ba + (n0 - 8)) (h8 : 8 ≤ n0) (hn : n0 ≤ M.1.1) (hc1 : M.1.1 - n0 + 1 ≤ R.cells) (hc2 : 10000 * (M.1.1 - n0) + 10000 ≤ R.slots) (hst : 0 ≤ n ∧ n < 10000)
    (hR : hh_R ba oa v5 cA L o1 o2 o4 D M H) (hS : va_S (hh_A ba) s.heap H locs)
    (hk : ∀ H2 locs2, hh_R ba oa v5 cA L o1 o2 o4 D (hh_gr M (t, N, [])) H2 → va_S (hh_A ba) s.heap H2 locs2 → hh_G p l e R s m args below meth c Q ba oa v5 H2 locs2 (M.1.1 - n0 + 1) (10000 * (M.1.1 - n0) + 10000) (pc + 2) la (.inr (.inr M.1.1) :: st)) :
    hh_G p l e R s m args below meth c Q ba oa v5 H locs (M.1.1 - n0) (10000 * (M.1.1 - n0)) pc la (.inl n :: st) := by
  have hcl : (Int32.ofInt n).toNatClampNeg = N := by rw [n_clamp hst.1 (by omega), hNn]
  have hneg : ¬ Int32.ofInt n < 0 := by
    intro z
    have := (n_lt n 0).mp z
    rw [w32_0, w32_id (by omega) (by omega)] at this
    omega
  have hkn : hh_kn (t, N, []) := ⟨by omega, fun z => by dsimp only at z; omega, fun z => by dsimp only at z; omega, by dsimp only; omega⟩
  obtain ⟨a0, ha, hen⟩ : ∃ a0 : vp_A, (∀ k : ClassId, vp_cell k a0 = arrV k N (fun _ => defaultValue ty)) ∧ hh_en ba oa v5 cA (hh_gr M (t, N, [])) M.1.1 = .inl (cA t, a0) := by
    by_cases h3 : t = 3
    · subst h3
      refine ⟨(N, .inr (.inl (fun j => Int64.ofInt ((hh_gr M (3, N, [])).2 M.1.1 j)))), fun k => (hcell k _ hh_gr_v).2 rfl, ?_⟩
      rw [hh_en_long (by rw [hh_gr_s]), hh_gr_s]
    · refine ⟨(N, .inl (fun j => Int32.ofInt ((hh_gr M (t, N, [])).2 M.1.1 j))), fun k => (hcell k _ hh_gr_v).1 (by omega), ?_⟩
      rw [hh_en_int (t := t) (by rw [hh_gr_s]) (by omega), hh_gr_s]
  refine va_newa (D := D) (cl := vwCl) (A := hh_A ba) (H0 := s.heap) (ty := ty) hx hb (hts _ har) hty hK hR.2 hh_D hS (fun z hz => by show ba ≤ z; omega) ha hneg hcl hbytes hc1 (by omega) hd (fun a cl1 H1 hK1 hP hD hS1 => ?_)
  have e1 : cl1 = cA t := by
    refine hra _ ?_ (hK.2 _ _ hti).2
    exact (hK1.2 8 (cl1, ty) rfl).2
  subst e1
  rw [← hen] at hP hD
  exact sd_grow hR.1 h0 h8 hn hkn (by omega) hP hD hS1 (fun hR1 => hk _ _ hR1 hS1)
theorem sd_newq {ci t0 idx : Nat} {n : Int} {C : String} (hx : p.tables.exec = Jvm.exec) (hb : c.code = cc) (hd : decode cc pc = .ok (.anewarray idx, 3)) (hts : ∀ w ∈ lw_g, w.before args s = true) (hown : s.vm.findClass own = some m.cls) (hK : va_K D vwCl (hh_tys cA) s)
    (hci : ci = 0 ∨ ci = 1 ∨ ci = 4 ∨ ci = 6) (hti : (hh_tys cA)[t0]? = some (cA (4 + ci), .object C)) (hcl0 : Cond.classLink own idx C ∈ lw_g) (hao : Cond.arrayOver (.object C) ∈ lw_g)
    (h0 : s.heap.size = ba + (n0 - 8)) (h8 : 8 ≤ n0) (hn : n0 ≤ M.1.1) (hc1 : M.1.1 - n0 + 1 ≤ R.cells) (hc2 : 10000 * (M.1.1 - n0) + 10000 ≤ R.slots) (hst : 0 ≤ n ∧ n < 10000)
    (hR : hh_R ba oa v5 cA L o1 o2 o4 D M H) (hS : va_S (hh_A ba) s.heap H locs)
    (hk : ∀ H2 locs2, hh_R ba oa v5 cA L o1 o2 o4 D (hh_gr M (4 + ci, n.toNat, List.replicate n.toNat 0)) H2 → va_S (hh_A ba) s.heap H2 locs2 → hh_G p l e R s m args below meth c Q ba oa v5 H2 locs2 (M.1.1 - n0 + 1) (10000 * (M.1.1 - n0) + 10000) (pc + 3) la (.inr (.inr M.1.1) :: st)) :
    hh_G p l e R s m args below meth c Q ba oa v5 H locs (M.1.1 - n0) (10000 * (M.1.1 - n0)) pc la (.inl n :: st) := by
  have hcl : (Int32.ofInt n).toNatClampNeg = n.toNat := n_clamp hst.1 (by omega)
  have hneg : ¬ Int32.ofInt n < 0 := by
    intro z
    have := (n_lt n 0).mp z
    rw [w32_0, w32_id (by omega) (by omega)] at this
    omega
  have hkn : hh_kn (4 + ci, n.toNat, List.replicate n.toNat 0) := ⟨by dsimp only; omega, fun z => by dsimp only at z; omega, fun _ => List.length_replicate, by dsimp only; omega⟩
  have hen : hh_en ba oa v5 cA (hh_gr M (4 + ci, n.toNat, List.replicate n.toNat 0)) M.1.1 = .inl (cA (4 + ci), n.toNat, .inr (.inr (.inr (.inr (fun _ => none))))) := by
    rw [hh_en_ref (ci := ci) (by rw [hh_gr_s]) (by omega), hh_gr_s]
    have : (fun j => hh_oq ba oa v5 (hh_rq (hh_gr M (4 + ci, n.toNat, List.replicate n.toNat 0)) M.1.1 j)) = fun _ => none := by
      funext j
      unfold hh_rq
      rw [hh_gr_s, hh_gr_v, hh_rep0]
      have : (if 4 + ci = 10 then (0 : Int).toNat else 0) = 0 := by split <;> rfl
      dsimp only
      rw [this]
      rfl
    rw [this]
  refine va_newq (D := D) (cl := vwCl) (A := hh_A ba) (H0 := s.heap) (C := C) hx hb hown (hts _ hcl0) (va_AO.of (hts _ hao)) hK hR.2 hh_D hS (fun z hz => by show ba ≤ z; omega) hneg hcl (by omega) hc1 (by omega) hd (fun a cl1 H1 hK1 hP hD hS1 => ?_)
  have e1 : cl1 = cA (4 + ci) := by
    obtain ⟨_, _, _, _, _, a4⟩ := (hK.2 _ _ hti).2
    obtain ⟨_, _, _, _, _, b4⟩ := (hK1.2 8 (cl1, .object C) rfl).2
    exact Option.some.inj (b4.symm.trans a4)
  subst e1
  rw [← hen] at hP hD
  exact sd_grow hR.1 h0 h8 hn hkn (by omega) hP hD hS1 (fun hR1 => hk _ _ hR1 hS1)
end
