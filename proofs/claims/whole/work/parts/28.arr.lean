/-! arrays: reading, their length -/
section
variable {ba : Nat} {oa : Nat → Nat} {v5 : Value} {cA : Nat → ClassId} {L : Nat} {o1 o2 o4 : Nat → Int} {D : va_G} {M : hh_Mm} {H : Heap}
theorem hh_wf.len {k : Nat} (h : hh_wf L o1 o2 o4 M) (hLb : L < 2147483648) (hk : (M.1.2 k).1 < 20) : (M.1.2 k).2.1 < 2147483648 := by
  rcases h.arr hk with ⟨h8, hn⟩ | rfl | rfl | rfl
  · have := (h.2.2.2.1 k h8 hn).2.2.2; omega
  · rw [h.2.2.1.1]; exact hLb
  · rw [h.2.2.1.2.1]; decide
  · rw [h.2.2.1.2.2.2.1]; decide
end
section
variable {p : Program} {l : Launch} {e : Env} {R : Room} {s : State} {m : MethodId} {args : Array Value} {below : List Frame} {meth : Method} {c : Code} {H : Heap} {locs : List Loc} {cells slots : Nat} {Q : State → Prop}
variable {cc : ByteArray} {pc : Nat} {la : Array Slot} {ba : Nat} {oa : Nat → Nat} {v5 : Value} {ls : hh_Lo} {st : hh_Sk} {M : hh_Mm} {r : hh_Rs} {kk : hh_Lo → hh_Sk → hh_Mm → Option hh_Rs}
variable {cA : Nat → ClassId} {L : Nat} {o1 o2 o4 : Nat → Int} {D : va_G} {own : String}
theorem sd_iald (hx : p.tables.exec = Jvm.exec) (hb : c.code = cc) (hd : decode cc pc = .ok (.iaload, 1)) (hK : va_K D vwCl (hh_tys cA) s) (hO : hh_O ba oa v5 L o1 o2 o4 s s.heap) (hLb : L < 2147483648)
    (hL : hh_L ba oa v5 la ls) (hR : hh_R ba oa v5 cA L o1 o2 o4 D M H) (hS : va_S (hh_A ba) s.heap H locs) (h : s_ald 0 ls st M kk = some r)
    (hk : ∀ ls2 st2 la2, kk ls2 st2 M = some r → hh_L ba oa v5 la2 ls2 → hh_G p l e R s m args below meth c Q ba oa v5 H locs cells slots (pc + 1) la2 st2) : hh_G p l e R s m args below meth c Q ba oa v5 H locs cells slots pc la st := by
  unfold s_ald at h
  split at h
  next i k st =>
    split at h
    next hkd =>
      split at h
      next hi =>
        have hkd' : (M.1.2 k).1 = 0 := hkd
        have hi' : 0 ≤ i ∧ i < ((M.1.2 k).2.1 : Int) := hi
        have hlb := hR.1.len hLb (k := k) (by omega)
        have hin := n_in hi'.1 hi'.2 hlb
        have hcl : (Int32.ofInt i).toNatClampNeg = i.toNat := n_clamp hi'.1 (by omega)
        have g := hk _ _ _ h hL
        show W p l e R s m args below meth c H locs cells slots Q (F0 m pc la (.int (Int32.ofInt i) :: hh_tv ba oa v5 (.inr (.inr k)) :: st.map (hh_tv ba oa v5)))
        rcases hR.1.arr (k := k) (by omega) with ⟨h8, hn⟩ | rfl | rfl | rfl
        · have hw := hh_ws_at (ba := ba) (oa := oa) (v5 := v5) (cA := cA) h8 hn
          rw [hh_en_int hkd' (by decide)] at hw
          rw [hh_tv_8 h8]
          refine va_iald (D := D) (cl := vwCl) hx hb hK hR.2 (k - 8) 0 hw rfl hin hd ?_
          rw [hcl]
          exact g
        · have e1 : M.1.2 1 = (0, L, []) := hR.1.2.2.1.1
          rw [e1] at hin
          refine va_ti hx hb hO.1 hS hin rfl hd ?_
          rw [hcl, ← hR.1.2.2.2.2.1]
          exact g
        · rw [hR.1.2.2.1.2.1] at hkd'; cases hkd'
        · rw [hR.1.2.2.1.2.2.2.1] at hkd'; cases hkd'
      next => cases h
    next => cases h
  next => cases h
theorem sd_bald (hx : p.tables.exec = Jvm.exec) (hb : c.code = cc) (hd : decode cc pc = .ok (.baload, 1)) (hK : va_K D vwCl (hh_tys cA) s) (hO : hh_O ba oa v5 L o1 o2 o4 s s.heap) (hLb : L < 2147483648)
    (hL : hh_L ba oa v5 la ls) (hR : hh_R ba oa v5 cA L o1 o2 o4 D M H) (hS : va_S (hh_A ba) s.heap H locs) (h : s_ald 1 ls st M kk = some r)
    (hk : ∀ ls2 st2 la2, kk ls2 st2 M = some r → hh_L ba oa v5 la2 ls2 → hh_G p l e R s m args below meth c Q ba oa v5 H locs cells slots (pc + 1) la2 st2) : hh_G p l e R s m args below meth c Q ba oa v5 H locs cells slots pc la st := by
  unfold s_ald at h
  split at h
  next i k st =>
    split at h
    next hkd =>
      split at h
      next hi =>
        have hkd' : (M.1.2 k).1 = 1 := hkd
        have hi' : 0 ≤ i ∧ i < ((M.1.2 k).2.1 : Int) := hi
        have hlb := hR.1.len hLb (k := k) (by omega)
        have hin := n_in hi'.1 hi'.2 hlb
        have hcl : (Int32.ofInt i).toNatClampNeg = i.toNat := n_clamp hi'.1 (by omega)
        have g := hk _ _ _ h hL
        show W p l e R s m args below meth c H locs cells slots Q (F0 m pc la (.int (Int32.ofInt i) :: hh_tv ba oa v5 (.inr (.inr k)) :: st.map (hh_tv ba oa v5)))
        rcases hR.1.arr (k := k) (by omega) with ⟨h8, hn⟩ | rfl | rfl | rfl
        · have hw := hh_ws_at (ba := ba) (oa := oa) (v5 := v5) (cA := cA) h8 hn
          rw [hh_en_int hkd' (by decide)] at hw
          rw [hh_tv_8 h8]
          refine va_bald (D := D) (cl := vwCl) hx hb hK hR.2 (k - 8) 1 hw rfl hin hd ?_
          rw [hcl]
          exact g
        · rw [hR.1.2.2.1.1] at hkd'; cases hkd'
        · rw [hR.1.2.2.1.2.1] at hkd'; cases hkd'
        · have e1 : M.1.2 4 = (1, 112, []) := hR.1.2.2.1.2.2.2.1
          rw [e1] at hin
          obtain ⟨-, -, -, -, -, -, -, -, -, hb4, -⟩ := hO
          refine va_tb hx hb hb4 hS hin rfl hd ?_
          rw [hcl, ← hR.1.2.2.2.2.2.2.1]
          exact g
      next => cases h
    next => cases h
  next => cases h
theorem sd_zald (hx : p.tables.exec = Jvm.exec) (hb : c.code = cc) (hd : decode cc pc = .ok (.baload, 1)) (hK : va_K D vwCl (hh_tys cA) s) (hLb : L < 2147483648)
    (hL : hh_L ba oa v5 la ls) (hR : hh_R ba oa v5 cA L o1 o2 o4 D M H) (hS : va_S (hh_A ba) s.heap H locs) (h : s_ald 2 ls st M kk = some r)
    (hk : ∀ ls2 st2 la2, kk ls2 st2 M = some r → hh_L ba oa v5 la2 ls2 → hh_G p l e R s m args below meth c Q ba oa v5 H locs cells slots (pc + 1) la2 st2) : hh_G p l e R s m args below meth c Q ba oa v5 H locs cells slots pc la st := by
  unfold s_ald at h
  split at h
  next i k st =>
    split at h
    next hkd =>
      split at h
      next hi =>
        have hkd' : (M.1.2 k).1 = 2 := hkd
        have hi' : 0 ≤ i ∧ i < ((M.1.2 k).2.1 : Int) := hi
        have hlb := hR.1.len hLb (k := k) (by omega)
        have hin := n_in hi'.1 hi'.2 hlb
        have hcl : (Int32.ofInt i).toNatClampNeg = i.toNat := n_clamp hi'.1 (by omega)
        have g := hk _ _ _ h hL
        show W p l e R s m args below meth c H locs cells slots Q (F0 m pc la (.int (Int32.ofInt i) :: hh_tv ba oa v5 (.inr (.inr k)) :: st.map (hh_tv ba oa v5)))
        rcases hR.1.arr (k := k) (by omega) with ⟨h8, hn⟩ | rfl | rfl | rfl
        · have hw := hh_ws_at (ba := ba) (oa := oa) (v5 := v5) (cA := cA) h8 hn
          rw [hh_en_int hkd' (by decide)] at hw
          rw [hh_tv_8 h8]
          refine va_zald (D := D) (cl := vwCl) hx hb hK hR.2 (k - 8) 2 hw rfl hin hd ?_
          rw [hcl]
          exact g
        · rw [hR.1.2.2.1.1] at hkd'; cases hkd'
        · rw [hR.1.2.2.1.2.1] at hkd'; cases hkd'
        · rw [hR.1.2.2.1.2.2.2.1] at hkd'; cases hkd'
      next => cases h
    next => cases h
  next => cases h
theorem sd_lald (hx : p.tables.exec = Jvm.exec) (hb : c.code = cc) (hd : decode cc pc = .ok (.laload, 1)) (hK : va_K D vwCl (hh_tys cA) s) (hO : hh_O ba oa v5 L o1 o2 o4 s s.heap) (hLb : L < 2147483648)
    (hL : hh_L ba oa v5 la ls) (hR : hh_R ba oa v5 cA L o1 o2 o4 D M H) (hS : va_S (hh_A ba) s.heap H locs) (h : s_ald 3 ls st M kk = some r)
    (hk : ∀ ls2 st2 la2, kk ls2 st2 M = some r → hh_L ba oa v5 la2 ls2 → hh_G p l e R s m args below meth c Q ba oa v5 H locs cells slots (pc + 1) la2 st2) : hh_G p l e R s m args below meth c Q ba oa v5 H locs cells slots pc la st := by
  unfold s_ald at h
  split at h
  next i k st =>
    split at h
    next hkd =>
      split at h
      next hi =>
        have hkd' : (M.1.2 k).1 = 3 := hkd
        have hi' : 0 ≤ i ∧ i < ((M.1.2 k).2.1 : Int) := hi
        have hlb := hR.1.len hLb (k := k) (by omega)
        have hin := n_in hi'.1 hi'.2 hlb
        have hcl : (Int32.ofInt i).toNatClampNeg = i.toNat := n_clamp hi'.1 (by omega)
        have g := hk _ _ _ h hL
        show W p l e R s m args below meth c H locs cells slots Q (F0 m pc la (.int (Int32.ofInt i) :: hh_tv ba oa v5 (.inr (.inr k)) :: st.map (hh_tv ba oa v5)))
        rcases hR.1.arr (k := k) (by omega) with ⟨h8, hn⟩ | rfl | rfl | rfl
        · have hw := hh_ws_at (ba := ba) (oa := oa) (v5 := v5) (cA := cA) h8 hn
          rw [hh_en_long hkd'] at hw
          rw [hh_tv_8 h8]
          refine va_lald (D := D) (cl := vwCl) hx hb hK hR.2 (k - 8) 3 hw rfl hin hd ?_
          rw [hcl]
          exact g
        · rw [hR.1.2.2.1.1] at hkd'; cases hkd'
        · have e1 : M.1.2 2 = (3, 17, []) := hR.1.2.2.1.2.1
          rw [e1] at hin
          refine va_tl hx hb hO.2.2.1 hS hin rfl hd ?_
          rw [hcl, ← hR.1.2.2.2.2.2.1]
          exact g
        · rw [hR.1.2.2.1.2.2.2.1] at hkd'; cases hkd'
      next => cases h
    next => cases h
  next => cases h
theorem hh_oq_rv (h5 : v5 = .null ∨ ∃ t, v5 = .ref t) (q : Nat) : va_rf (hh_oq ba oa v5 q) = hh_rv ba oa v5 q := by
  unfold hh_oq hh_rv
  by_cases h0 : q = 0
  · rw [if_pos h0, if_pos h0]; rfl
  · rw [if_neg h0, if_neg h0]
    by_cases h9 : q = 5
    · rw [if_pos h9, if_pos h9]
      rcases h5 with rfl | ⟨t, rfl⟩ <;> rfl
    · rw [if_neg h9, if_neg h9]; rfl
theorem hh_oq_8 {q : Nat} (h8 : 8 ≤ q) : hh_oq ba oa v5 q = some (hh_ad ba oa q) := by
  unfold hh_oq
  rw [if_neg (by omega), if_neg (by omega)]
theorem sd_aald {ci : Nat} {C : String} {t0 : Nat} (h5 : v5 = .null ∨ ∃ t, v5 = .ref t) (hx : p.tables.exec = Jvm.exec) (hb : c.code = cc) (hd : decode cc pc = .ok (.aaload, 1)) (hK : va_K D vwCl (hh_tys cA) s) (hLb : L < 2147483648) (hci : ci < 16) (ht : (hh_tys cA)[t0]? = some (cA (4 + ci), .object C))
    (hL : hh_L ba oa v5 la ls) (hR : hh_R ba oa v5 cA L o1 o2 o4 D M H) (hS : va_S (hh_A ba) s.heap H locs) (h : s_aald (4 + ci) ls st M kk = some r)
    (hk : ∀ ls2 st2 la2, kk ls2 st2 M = some r → hh_L ba oa v5 la2 ls2 → hh_G p l e R s m args below meth c Q ba oa v5 H locs cells slots (pc + 1) la2 st2) : hh_G p l e R s m args below meth c Q ba oa v5 H locs cells slots pc la st := by
  unfold s_aald at h
  split at h
  next i k st =>
    split at h
    next hkd =>
      split at h
      next hi =>
        have hkd' : (M.1.2 k).1 = 4 + ci := hkd
        have hi' : 0 ≤ i ∧ i < ((M.1.2 k).2.1 : Int) := hi
        have hlb := hR.1.len hLb (k := k) (by omega)
        have hin := n_in hi'.1 hi'.2 hlb
        have hcl : (Int32.ofInt i).toNatClampNeg = i.toNat := n_clamp hi'.1 (by omega)
        have hq : kk ls (.inr (.inr (hh_rq M k i.toNat)) :: st) M = some r := by
          unfold hh_rq
          rw [hkd']
          split at h
          next e1 => rw [if_pos e1]; exact h
          next e1 => rw [if_neg e1]; exact h
        have g := hk _ _ _ hq hL
        show W p l e R s m args below meth c H locs cells slots Q (F0 m pc la (.int (Int32.ofInt i) :: hh_tv ba oa v5 (.inr (.inr k)) :: st.map (hh_tv ba oa v5)))
        rcases hR.1.arr (k := k) (by omega) with ⟨h8, hn⟩ | rfl | rfl | rfl
        · have hw := hh_ws_at (ba := ba) (oa := oa) (v5 := v5) (cA := cA) h8 hn
          rw [hh_en_ref hkd' hci] at hw
          rw [hh_tv_8 h8]
          refine va_aldq (D := D) (cl := vwCl) hx hb hK hR.2 (k - 8) t0 hw ht hin hd ?_
          rw [hcl, hh_oq_rv h5]
          exact g
        · rw [hR.1.2.2.1.1] at hkd'; dsimp only at hkd'; omega
        · rw [hR.1.2.2.1.2.1] at hkd'; dsimp only at hkd'; omega
        · rw [hR.1.2.2.1.2.2.2.1] at hkd'; dsimp only at hkd'; omega
      next => cases h
    next => cases h
  next => cases h
theorem sd_alen (hx : p.tables.exec = Jvm.exec) (hb : c.code = cc) (hd : decode cc pc = .ok (.arraylength, 1)) (hK : va_K D vwCl (hh_tys cA) s) (hO : hh_O ba oa v5 L o1 o2 o4 s s.heap)
    (hL : hh_L ba oa v5 la ls) (hR : hh_R ba oa v5 cA L o1 o2 o4 D M H) (hS : va_S (hh_A ba) s.heap H locs) (h : s_alen ls st M kk = some r)
    (hk : ∀ ls2 st2 la2, kk ls2 st2 M = some r → hh_L ba oa v5 la2 ls2 → hh_G p l e R s m args below meth c Q ba oa v5 H locs cells slots (pc + 1) la2 st2) : hh_G p l e R s m args below meth c Q ba oa v5 H locs cells slots pc la st := by
  unfold s_alen at h
  split at h
  next k st =>
    split at h
    next hkd =>
      have hkd' : (M.1.2 k).1 < 20 := hkd
      have g := hk _ _ _ h hL
      have hof : Int32.ofNat (M.1.2 k).2.1 = Int32.ofInt ((M.1.2 k).2.1 : Int) := Int32.ofInt_eq_ofNat.symm
      show W p l e R s m args below meth c H locs cells slots Q (F0 m pc la (hh_tv ba oa v5 (.inr (.inr k)) :: st.map (hh_tv ba oa v5)))
      rcases hR.1.arr (k := k) (by omega) with ⟨h8, hn⟩ | rfl | rfl | rfl
      · have hw := hh_ws_at (ba := ba) (oa := oa) (v5 := v5) (cA := cA) h8 hn
        rw [hh_tv_8 h8]
        have key : ∃ (cl1 : ClassId) (x : vp_A) (t0 : Nat) (ty : FieldType), hh_en ba oa v5 cA M k = .inl (cl1, x) ∧ x.1 = (M.1.2 k).2.1 ∧ (hh_tys cA)[t0]? = some (cl1, ty) := by
          have hkn := (hR.1.2.2.2.1 k h8 hn).1
          rcases (show (M.1.2 k).1 = 0 ∨ (M.1.2 k).1 = 1 ∨ (M.1.2 k).1 = 2 ∨ (M.1.2 k).1 = 3 ∨ (M.1.2 k).1 = 4 + 0 ∨ (M.1.2 k).1 = 4 + 1 ∨ (M.1.2 k).1 = 4 + 4 ∨ (M.1.2 k).1 = 4 + 6 by omega) with q | q | q | q | q | q | q | q
          · exact ⟨_, _, 0, _, hh_en_int q (by decide), rfl, rfl⟩
          · exact ⟨_, _, 1, _, hh_en_int q (by decide), rfl, rfl⟩
          · exact ⟨_, _, 2, _, hh_en_int q (by decide), rfl, rfl⟩
          · exact ⟨_, _, 3, _, hh_en_long q, rfl, rfl⟩
          · exact ⟨_, _, 4, _, hh_en_ref q (by decide), rfl, rfl⟩
          · exact ⟨_, _, 5, _, hh_en_ref q (by decide), rfl, rfl⟩
          · exact ⟨_, _, 6, _, hh_en_ref q (by decide), rfl, rfl⟩
          · exact ⟨_, _, 7, _, hh_en_ref q (by decide), rfl, rfl⟩
        obtain ⟨cl1, x, t0, ty, k1, k2, k3⟩ := key
        rw [k1] at hw
        exact va_alen (D := D) (cl := vwCl) hx hb hK hR.2 (k - 8) t0 hw k3 (by rw [k2]; exact hof) hd g
      · have e1 : M.1.2 1 = (0, L, []) := hR.1.2.2.1.1
        rw [e1] at hof
        have e2 : hh_sh M 1 = (0, L, []) := e1
        rw [e2] at g
        exact va_tlen hx hb hO.1 hS hof hd g
      · have e1 : M.1.2 2 = (3, 17, []) := hR.1.2.2.1.2.1
        rw [e1] at hof
        have e2 : hh_sh M 2 = (3, 17, []) := e1
        rw [e2] at g
        exact va_tlen hx hb hO.2.2.1 hS hof hd g
      · have e1 : M.1.2 4 = (1, 112, []) := hR.1.2.2.1.2.2.2.1
        rw [e1] at hof
        have e2 : hh_sh M 4 = (1, 112, []) := e1
        rw [e2] at g
        obtain ⟨-, -, -, -, -, -, -, -, -, hb4, -⟩ := hO
        exact va_tlen hx hb hb4 hS hof hd g
    next => cases h
  next => cases h
end
