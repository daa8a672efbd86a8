/-! arrays: writing -/
theorem hh_upd_i {f : hh_Sv} {k i : Nat} {z : Int} : (fun j => Int32.ofInt (up f k i z k j)) = upd (fun j => Int32.ofInt (f k j)) i (Int32.ofInt z) := by
  funext j
  unfold up upd
  by_cases h : j = i
  · rw [if_pos ⟨rfl, h⟩, if_pos h]
  · rw [if_neg (fun q => h q.2), if_neg h]
theorem hh_upd_l {f : hh_Sv} {k i : Nat} {z : Int} : (fun j => Int64.ofInt (up f k i z k j)) = vp_updL (fun j => Int64.ofInt (f k j)) i (Int64.ofInt z) := by
  funext j
  unfold up vp_updL
  by_cases h : j = i
  · rw [if_pos ⟨rfl, h⟩, if_pos h]
  · rw [if_neg (fun q => h q.2), if_neg h]
theorem n_z01 {v : Int} (h : v = 0 ∨ v = 1) : vp_nar .boolean (Int32.ofInt v) = Int32.ofInt v := by
  rcases h with rfl | rfl <;> decide
section
variable {p : Program} {l : Launch} {e : Env} {R : Room} {s : State} {m : MethodId} {args : Array Value} {below : List Frame} {meth : Method} {c : Code} {H : Heap} {locs : List Loc} {cells slots : Nat} {Q : State → Prop}
variable {cc : ByteArray} {pc : Nat} {la : Array Slot} {ba : Nat} {oa : Nat → Nat} {v5 : Value} {ls : hh_Lo} {st : hh_Sk} {M : hh_Mm} {r : hh_Rs} {kk : hh_Lo → hh_Sk → hh_Mm → Option hh_Rs}
variable {cA : Nat → ClassId} {L : Nat} {o1 o2 o4 : Nat → Int} {D : va_G} {own : String}
/-- behind a write: the new memory stands -/
theorem sd_fin {k : Nat} {en : va_E} {M' : hh_Mm} {n : Nat} (h8 : 8 ≤ k) (hn : k < M.1.1) (hw : hh_wf L o1 o2 o4 M') (hn' : M'.1.1 = M.1.1) (he : hh_en ba oa v5 cA M' k = en) (ho : ∀ a, a ≠ k → hh_en ba oa v5 cA M' a = hh_en ba oa v5 cA M a)
    (hk : ∀ H2 locs2, hh_R ba oa v5 cA L o1 o2 o4 D M' H2 → va_S (hh_A ba) s.heap H2 locs2 → hh_G p l e R s m args below meth c Q ba oa v5 H2 locs2 cells slots (pc + n) la st) :
    ∀ (H1 : Heap) (locs1 : List Loc), va_P D vwCl ((hh_ws ba oa v5 cA M).set (k - 8) (hh_ad ba oa k, en)) H1 → va_D (hh_A ba) ((hh_ws ba oa v5 cA M).set (k - 8) (hh_ad ba oa k, en)) → va_S (hh_A ba) s.heap H1 locs1 → W p l e R s m args below meth c H1 locs1 cells slots Q (F0 m (pc + n) la (st.map (hh_tv ba oa v5))) := by
  intro H1 locs1 hP1 _ hS1
  rw [hh_ws_set h8 hn hn' he ho] at hP1
  exact hk H1 locs1 ⟨hw, hP1⟩ hS1
theorem sd_iast (hx : p.tables.exec = Jvm.exec) (hb : c.code = cc) (hd : decode cc pc = .ok (.iastore, 1)) (hK : va_K D vwCl (hh_tys cA) s) (hLb : L < 2147483648)
    (hR : hh_R ba oa v5 cA L o1 o2 o4 D M H) (hS : va_S (hh_A ba) s.heap H locs) (h : s_ast 0 ls st M kk = some r)
    (hk : ∀ st2 M2 H2 locs2, kk ls st2 M2 = some r → hh_R ba oa v5 cA L o1 o2 o4 D M2 H2 → va_S (hh_A ba) s.heap H2 locs2 → M2.1.1 = M.1.1 → hh_G p l e R s m args below meth c Q ba oa v5 H2 locs2 cells slots (pc + 1) la st2) : hh_G p l e R s m args below meth c Q ba oa v5 H locs cells slots pc la st := by
  rcases st with _ | ⟨v | v | v, _ | ⟨i | i | i, _ | ⟨k | k | k, st⟩⟩⟩ <;> simp only [s_ast] at h
  any_goals cases h
  split at h
  next hkd =>
    split at h
    next h8 =>
      split at h
      next hi =>
        have hkd' : (M.1.2 k).1 = 0 := hkd
        have hi' : 0 ≤ i ∧ i < ((M.1.2 k).2.1 : Int) := hi
        have hlb := hR.1.len hLb (k := k) (by omega)
        have hin := n_in hi'.1 hi'.2 hlb
        have hcl : (Int32.ofInt i).toNatClampNeg = i.toNat := n_clamp hi'.1 (by omega)
        have hn : k < M.1.1 := by rcases hR.1.arr (k := k) (by omega) with q | q | q | q <;> omega
        have hw := hh_ws_at (ba := ba) (oa := oa) (v5 := v5) (cA := cA) h8 hn
        rw [hh_en_int hkd' (by decide)] at hw
        show W p l e R s m args below meth c H locs cells slots Q (F0 m pc la (.int (Int32.ofInt v) :: .int (Int32.ofInt i) :: hh_tv ba oa v5 (.inr (.inr k)) :: st.map (hh_tv ba oa v5)))
        rw [hh_tv_8 h8]
        refine va_iast (D := D) (cl := vwCl) (A := hh_A ba) (H0 := s.heap) hx hb hK hR.2 hh_D hS (k - 8) 0 hw rfl hin hd ?_
        rw [hcl]
        refine sd_fin (M' := (M.1, up M.2 k i.toNat v)) h8 hn (hh_wf_up h8 hR.1) rfl ?_ (fun a ha => hh_en_up ha) (fun H2 locs2 h1 h2 => hk _ _ _ _ h h1 h2 rfl)
        rw [hh_en_int (M := (M.1, up M.2 k i.toNat v)) hkd' (by decide), hh_upd_i]
      next => cases h
    next => cases h
  next => cases h
theorem sd_bast (hx : p.tables.exec = Jvm.exec) (hb : c.code = cc) (hd : decode cc pc = .ok (.bastore, 1)) (hK : va_K D vwCl (hh_tys cA) s) (hLb : L < 2147483648)
    (hR : hh_R ba oa v5 cA L o1 o2 o4 D M H) (hS : va_S (hh_A ba) s.heap H locs) (h : s_ast 1 ls st M kk = some r)
    (hk : ∀ st2 M2 H2 locs2, kk ls st2 M2 = some r → hh_R ba oa v5 cA L o1 o2 o4 D M2 H2 → va_S (hh_A ba) s.heap H2 locs2 → M2.1.1 = M.1.1 → hh_G p l e R s m args below meth c Q ba oa v5 H2 locs2 cells slots (pc + 1) la st2) : hh_G p l e R s m args below meth c Q ba oa v5 H locs cells slots pc la st := by
  rcases st with _ | ⟨v | v | v, _ | ⟨i | i | i, _ | ⟨k | k | k, st⟩⟩⟩ <;> simp only [s_ast] at h
  any_goals cases h
  split at h
  next hkd =>
    split at h
    next h8 =>
      split at h
      next hi =>
        have hkd' : (M.1.2 k).1 = 1 := hkd
        have hi' : 0 ≤ i ∧ i < ((M.1.2 k).2.1 : Int) := hi
        have hlb := hR.1.len hLb (k := k) (by omega)
        have hin := n_in hi'.1 hi'.2 hlb
        have hcl : (Int32.ofInt i).toNatClampNeg = i.toNat := n_clamp hi'.1 (by omega)
        have hn : k < M.1.1 := by rcases hR.1.arr (k := k) (by omega) with q | q | q | q <;> omega
        have hw := hh_ws_at (ba := ba) (oa := oa) (v5 := v5) (cA := cA) h8 hn
        rw [hh_en_int hkd' (by decide)] at hw
        show W p l e R s m args below meth c H locs cells slots Q (F0 m pc la (.int (Int32.ofInt v) :: .int (Int32.ofInt i) :: hh_tv ba oa v5 (.inr (.inr k)) :: st.map (hh_tv ba oa v5)))
        rw [hh_tv_8 h8]
        refine va_bast (D := D) (cl := vwCl) (A := hh_A ba) (H0 := s.heap) hx hb hK hR.2 hh_D hS (k - 8) 1 hw rfl hin hd ?_
        rw [hcl, vp_nar_byte, n_i2b]
        refine sd_fin (M' := (M.1, up M.2 k i.toNat (b8 v))) h8 hn (hh_wf_up h8 hR.1) rfl ?_ (fun a ha => hh_en_up ha) (fun H2 locs2 h1 h2 => hk _ _ _ _ h h1 h2 rfl)
        rw [hh_en_int (M := (M.1, up M.2 k i.toNat (b8 v))) hkd' (by decide), hh_upd_i]
      next => cases h
    next => cases h
  next => cases h
theorem sd_zast (hx : p.tables.exec = Jvm.exec) (hb : c.code = cc) (hd : decode cc pc = .ok (.bastore, 1)) (hK : va_K D vwCl (hh_tys cA) s) (hLb : L < 2147483648)
    (hR : hh_R ba oa v5 cA L o1 o2 o4 D M H) (hS : va_S (hh_A ba) s.heap H locs) (h : s_ast 2 ls st M kk = some r)
    (hk : ∀ st2 M2 H2 locs2, kk ls st2 M2 = some r → hh_R ba oa v5 cA L o1 o2 o4 D M2 H2 → va_S (hh_A ba) s.heap H2 locs2 → M2.1.1 = M.1.1 → hh_G p l e R s m args below meth c Q ba oa v5 H2 locs2 cells slots (pc + 1) la st2) : hh_G p l e R s m args below meth c Q ba oa v5 H locs cells slots pc la st := by
  rcases st with _ | ⟨v | v | v, _ | ⟨i | i | i, _ | ⟨k | k | k, st⟩⟩⟩ <;> simp only [s_ast] at h
  any_goals cases h
  split at h
  next hkd =>
    split at h
    next h8 =>
      split at h
      next hi =>
        split at h
        next hv =>
          have hkd' : (M.1.2 k).1 = 2 := hkd
          have hi' : 0 ≤ i ∧ i < ((M.1.2 k).2.1 : Int) := hi
          have hlb := hR.1.len hLb (k := k) (by omega)
          have hin := n_in hi'.1 hi'.2 hlb
          have hcl : (Int32.ofInt i).toNatClampNeg = i.toNat := n_clamp hi'.1 (by omega)
          have hn : k < M.1.1 := by rcases hR.1.arr (k := k) (by omega) with q | q | q | q <;> omega
          have hw := hh_ws_at (ba := ba) (oa := oa) (v5 := v5) (cA := cA) h8 hn
          rw [hh_en_int hkd' (by decide)] at hw
          show W p l e R s m args below meth c H locs cells slots Q (F0 m pc la (.int (Int32.ofInt v) :: .int (Int32.ofInt i) :: hh_tv ba oa v5 (.inr (.inr k)) :: st.map (hh_tv ba oa v5)))
          rw [hh_tv_8 h8]
          refine va_zast (D := D) (cl := vwCl) (A := hh_A ba) (H0 := s.heap) hx hb hK hR.2 hh_D hS (k - 8) 2 hw rfl hin hd ?_
          rw [hcl, n_z01 hv]
          refine sd_fin (M' := (M.1, up M.2 k i.toNat v)) h8 hn (hh_wf_up h8 hR.1) rfl ?_ (fun a ha => hh_en_up ha) (fun H2 locs2 h1 h2 => hk _ _ _ _ h h1 h2 rfl)
          rw [hh_en_int (M := (M.1, up M.2 k i.toNat v)) hkd' (by decide), hh_upd_i]
        next => cases h
      next => cases h
    next => cases h
  next => cases h
theorem sd_last (hx : p.tables.exec = Jvm.exec) (hb : c.code = cc) (hd : decode cc pc = .ok (.lastore, 1)) (hK : va_K D vwCl (hh_tys cA) s) (hLb : L < 2147483648)
    (hR : hh_R ba oa v5 cA L o1 o2 o4 D M H) (hS : va_S (hh_A ba) s.heap H locs) (h : s_ast 3 ls st M kk = some r)
    (hk : ∀ st2 M2 H2 locs2, kk ls st2 M2 = some r → hh_R ba oa v5 cA L o1 o2 o4 D M2 H2 → va_S (hh_A ba) s.heap H2 locs2 → M2.1.1 = M.1.1 → hh_G p l e R s m args below meth c Q ba oa v5 H2 locs2 cells slots (pc + 1) la st2) : hh_G p l e R s m args below meth c Q ba oa v5 H locs cells slots pc la st := by
  rcases st with _ | ⟨v | v | v, _ | ⟨i | i | i, _ | ⟨k | k | k, st⟩⟩⟩ <;> simp only [s_ast] at h
  any_goals cases h
  split at h
  next hkd =>
    split at h
    next h8 =>
      split at h
      next hi =>
        have hkd' : (M.1.2 k).1 = 3 := hkd
        have hi' : 0 ≤ i ∧ i < ((M.1.2 k).2.1 : Int) := hi
        have hlb := hR.1.len hLb (k := k) (by omega)
        have hin := n_in hi'.1 hi'.2 hlb
        have hcl : (Int32.ofInt i).toNatClampNeg = i.toNat := n_clamp hi'.1 (by omega)
        have hn : k < M.1.1 := by rcases hR.1.arr (k := k) (by omega) with q | q | q | q <;> omega
        have hw := hh_ws_at (ba := ba) (oa := oa) (v5 := v5) (cA := cA) h8 hn
        rw [hh_en_long hkd'] at hw
        show W p l e R s m args below meth c H locs cells slots Q (F0 m pc la (.long (Int64.ofInt v) :: .int (Int32.ofInt i) :: hh_tv ba oa v5 (.inr (.inr k)) :: st.map (hh_tv ba oa v5)))
        rw [hh_tv_8 h8]
        refine va_last (D := D) (cl := vwCl) (A := hh_A ba) (H0 := s.heap) hx hb hK hR.2 hh_D hS (k - 8) 3 hw rfl hin hd ?_
        rw [hcl]
        refine sd_fin (M' := (M.1, up M.2 k i.toNat v)) h8 hn (hh_wf_up h8 hR.1) rfl ?_ (fun a ha => hh_en_up ha) (fun H2 locs2 h1 h2 => hk _ _ _ _ h h1 h2 rfl)
        rw [hh_en_long (M := (M.1, up M.2 k i.toNat v)) hkd', hh_upd_l]
      next => cases h
    next => cases h
  next => cases h
theorem hh_upd_q {g : Nat → Nat} {g' : Nat → Nat} {i q : Nat} (h8 : 8 ≤ q) (hs : g' i = q) (ho : ∀ j, j ≠ i → g' j = g j) : (fun j => hh_oq ba oa v5 (g' j)) = va_up (fun j => hh_oq ba oa v5 (g j)) i (some (hh_ad ba oa q)) := by
  funext j
  unfold va_up
  by_cases h : j = i
  · rw [if_pos h, h, hs, hh_oq_8 h8]
  · rw [if_neg h, ho j h]
theorem sd_aast {ci : Nat} {q : vw_C} {t0 : Nat} (hx : p.tables.exec = Jvm.exec) (hb : c.code = cc) (hd : decode cc pc = .ok (.aastore, 1)) (hK : va_K D vwCl (hh_tys cA) s) (hLb : L < 2147483648) (hci : ci < 11) (hq : vwCl[ci]? = some q) (ht : (hh_tys cA)[t0]? = some (cA (4 + ci), .object q.1))
    (hR : hh_R ba oa v5 cA L o1 o2 o4 D M H) (hS : va_S (hh_A ba) s.heap H locs) (h : s_aast ci ls st M kk = some r)
    (hk : ∀ st2 M2 H2 locs2, kk ls st2 M2 = some r → hh_R ba oa v5 cA L o1 o2 o4 D M2 H2 → va_S (hh_A ba) s.heap H2 locs2 → M2.1.1 = M.1.1 → hh_G p l e R s m args below meth c Q ba oa v5 H2 locs2 cells slots (pc + 1) la st2) : hh_G p l e R s m args below meth c Q ba oa v5 H locs cells slots pc la st := by
  rcases st with _ | ⟨v | v | v, _ | ⟨i | i | i, _ | ⟨k | k | k, st⟩⟩⟩ <;> simp only [s_aast] at h
  any_goals cases h
  split at h
  next hkd =>
    split at h
    next hvd =>
      split at h
      next h88 =>
        obtain ⟨h8, hv8⟩ := h88
        split at h
        next hi =>
          have hkd' : (M.1.2 k).1 = 4 + ci := hkd
          have hvd' : (M.1.2 v).1 = 20 + ci := hvd
          have hi' : 0 ≤ i ∧ i < ((M.1.2 k).2.1 : Int) := hi
          have hlb := hR.1.len hLb (k := k) (by omega)
          have hin := n_in hi'.1 hi'.2 hlb
          have hcl : (Int32.ofInt i).toNatClampNeg = i.toNat := n_clamp hi'.1 (by omega)
          have hn : k < M.1.1 := by rcases hR.1.arr (k := k) (by omega) with q | q | q | q <;> omega
          obtain ⟨-, hvn⟩ := hR.1.new (k := v) (by omega) (by omega)
          have hw := hh_ws_at (ba := ba) (oa := oa) (v5 := v5) (cA := cA) h8 hn
          rw [hh_en_ref hkd' (by omega)] at hw
          have hwv := hh_ws_at (ba := ba) (oa := oa) (v5 := v5) (cA := cA) hv8 hvn
          rw [hh_en_obj hvd'] at hwv
          show W p l e R s m args below meth c H locs cells slots Q (F0 m pc la (hh_tv ba oa v5 (.inr (.inr v)) :: .int (Int32.ofInt i) :: hh_tv ba oa v5 (.inr (.inr k)) :: st.map (hh_tv ba oa v5)))
          rw [hh_tv_8 h8, hh_tv_8 hv8]
          refine va_astq (D := D) (cl := vwCl) (A := hh_A ba) (H0 := s.heap) (r := q) hx hb hK hR.2 hh_D hS (k - 8) t0 (v - 8) ci hw ht hwv hq hin hd ?_
          rw [hcl]
          split at h
          next =>
            refine sd_fin (M' := (M.1, up M.2 k i.toNat v)) h8 hn (hh_wf_up h8 hR.1) rfl ?_ (fun a ha => hh_en_up ha) (fun H2 locs2 h1 h2 => hk _ _ _ _ h h1 h2 rfl)
            rw [hh_en_ref (M := (M.1, up M.2 k i.toNat v)) (ci := 6) hkd' (by decide), hh_upd_q (q := v) hv8 ?_ ?_]
            · unfold hh_rq
              rw [if_pos hkd']
              show (up M.2 k i.toNat v k i.toNat).toNat = v
              rw [hh_up_s]; rfl
            · intro j hj
              unfold hh_rq
              dsimp only
              rw [hh_up_o hj]
          next hne =>
            have hne' : ¬ ci = 6 := hne
            have hk10 : ¬ (M.1.2 k).1 = 10 := by omega
            have hlen : (M.1.2 k).2.2.length = (M.1.2 k).2.1 := (hR.1.2.2.2.1 k h8 hn).2.2.1 (by omega)
            have hs1 : hh_us M.1.2 k ((M.1.2 k).1, (M.1.2 k).2.1, (M.1.2 k).2.2.set i.toNat v) k = ((M.1.2 k).1, (M.1.2 k).2.1, (M.1.2 k).2.2.set i.toNat v) := hh_us_s
            refine sd_fin (M' := ((M.1.1, hh_us M.1.2 k ((M.1.2 k).1, (M.1.2 k).2.1, (M.1.2 k).2.2.set i.toNat v)), M.2)) h8 hn (hh_wf_us h8 hn (List.length_set ..) hR.1) rfl ?_ (fun a ha => hh_en_us ha) (fun H2 locs2 h1 h2 => hk _ _ _ _ h h1 h2 rfl)
            rw [hh_en_ref (M := ((M.1.1, hh_us M.1.2 k ((M.1.2 k).1, (M.1.2 k).2.1, (M.1.2 k).2.2.set i.toNat v)), M.2)) (ci := ci) (by dsimp only; rw [hs1]; exact hkd') (by omega), hh_upd_q (q := v) (g := hh_rq M k) hv8 ?_ ?_]
            · dsimp only; rw [hs1]
            · unfold hh_rq
              dsimp only
              rw [if_neg (by rw [hs1]; exact hk10), hs1]
              dsimp only
              rw [List.getD_eq_getElem?_getD, List.getElem?_set, if_pos rfl, if_pos (by omega)]
              rfl
            · intro j hj
              unfold hh_rq
              dsimp only
              rw [if_neg (by rw [hs1]; exact hk10), hs1, if_neg hk10]
              dsimp only
              rw [List.getD_eq_getElem?_getD, List.getElem?_set_ne (fun z => hj z.symm), ← List.getD_eq_getElem?_getD]
        next => cases h
      next => cases h
    next => cases h
  next => cases h
end
