/-! copies, statics, switches -/
theorem hh_cpy_i {f : hh_Sv} {q sp d dp n : Nat} : (fun j => Int32.ofInt (cpy f q sp d dp n d j)) = va_cpy (fun j => Int32.ofInt (f q j)) (fun j => Int32.ofInt (f d j)) sp dp n := by
  funext j
  unfold cpy va_cpy
  by_cases h : dp ≤ j ∧ j < dp + n
  · rw [if_pos ⟨rfl, h⟩, if_pos h]
  · rw [if_neg (fun z => h z.2), if_neg h]
theorem hh_cpy_l {f : hh_Sv} {q sp d dp n : Nat} : (fun j => Int64.ofInt (cpy f q sp d dp n d j)) = va_cpy (fun j => Int64.ofInt (f q j)) (fun j => Int64.ofInt (f d j)) sp dp n := by
  funext j
  unfold cpy va_cpy
  by_cases h : dp ≤ j ∧ j < dp + n
  · rw [if_pos ⟨rfl, h⟩, if_pos h]
  · rw [if_neg (fun z => h z.2), if_neg h]
section
variable {ba : Nat} {oa : Nat → Nat} {v5 : Value} {cA : Nat → ClassId} {L : Nat} {o1 o2 o4 : Nat → Int} {D : va_G} {M : hh_Mm} {H : Heap}
theorem hh_en_cpy {q sp d dp n a : Nat} (h : a ≠ d) : hh_en ba oa v5 cA (M.1, cpy M.2 q sp d dp n) a = hh_en ba oa v5 cA M a := by
  have e : ∀ b, cpy M.2 q sp d dp n a b = M.2 a b := fun b => by unfold cpy; rw [if_neg (fun z => h z.1)]
  have e2 : hh_fv ba oa v5 (M.1, cpy M.2 q sp d dp n) a ((M.1.2 a).1 - 20) = hh_fv ba oa v5 M a ((M.1.2 a).1 - 20) := funext fun b => by simp only [hh_fv, e]
  simp only [hh_en, hh_rq, e, e2]
theorem hh_wf_cpy {q sp d dp n : Nat} (h8 : 8 ≤ d) (h : hh_wf L o1 o2 o4 M) : hh_wf L o1 o2 o4 (M.1, cpy M.2 q sp d dp n) := by
  have e : ∀ a, a < 8 → (cpy M.2 q sp d dp n) a = M.2 a := fun a ha => funext fun b => by unfold cpy; rw [if_neg (fun z => by omega)]
  obtain ⟨h1, h2, h3, h4, h5, h6, h7, h9⟩ := h
  exact ⟨h1, h2, h3, h4, (e 1 (by decide)).trans h5, (e 2 (by decide)).trans h6, (e 4 (by decide)).trans h7, (congrFun (e 3 (by decide)) 1).trans h9⟩
end
theorem n_nneg {n : Int} (h : 0 ≤ n) (h2 : n < 2147483648) : ¬ Int32.ofInt n < 0 := by
  intro z
  have := (n_lt n 0).mp z
  rw [w32_0, w32_id (by omega) (by omega)] at this
  omega
section
variable {p : Program} {l : Launch} {e : Env} {R : Room} {s : State} {m : MethodId} {args : Array Value} {below : List Frame} {meth : Method} {c : Code} {H : Heap} {locs : List Loc} {cells slots : Nat} {Q : State → Prop}
variable {cc : ByteArray} {pc : Nat} {la : Array Slot} {ba : Nat} {oa : Nat → Nat} {v5 : Value} {ls : hh_Lo} {st : hh_Sk} {M : hh_Mm} {r : hh_Rs} {kk : hh_Lo → hh_Sk → hh_Mm → Option hh_Rs}
variable {cA : Nat → ClassId} {L : Nat} {o1 o2 o4 : Nat → Int} {D : va_G} {own : String} {n0 : Nat}
theorem sd_cpy {idx : Nat} (h5 : v5 = .null ∨ ∃ t, v5 = .ref t) (hx : p.tables.exec = Jvm.exec) (hb : c.code = cc) (hml : c.maxLocals = la.size) (hd : decode cc pc = .ok (.invokestatic idx, 3)) (hts : ∀ w ∈ lw_g, w.before args s = true) (hown : s.vm.findClass own = some m.cls) (hK : va_K D vwCl (hh_tys cA) s) (hLb : L < 2147483648)
    (hl : Cond.methodLink own idx arraycopyName ∈ lw_g) (hl2 : Cond.native arraycopyName ∈ lw_g) (hl3 : Cond.static arraycopyName ∈ lw_g) (hl4 : Cond.initialized "java/lang/System" ∈ lw_g) (hfr : 1 ≤ R.frames) (hlo : 64 ≤ R.locals)
    (hL : hh_L ba oa v5 la ls) (hR : hh_R ba oa v5 cA L o1 o2 o4 D M H) (hS : va_S (hh_A ba) s.heap H locs) (h : s_cpy ls st M kk = some r)
    (hk : ∀ st2 M2 H2 locs2, kk ls st2 M2 = some r → hh_R ba oa v5 cA L o1 o2 o4 D M2 H2 → va_S (hh_A ba) s.heap H2 locs2 → M2.1.1 = M.1.1 → hh_G p l e R s m args below meth c Q ba oa v5 H2 locs2 cells slots (pc + 3) la st2) : hh_G p l e R s m args below meth c Q ba oa v5 H locs cells slots pc la st := by
  unfold s_cpy at h
  split at h
  next n dp d sp q st =>
    split at h
    next hkk =>
      split at h
      next hkd =>
        split at h
        next h88 =>
          obtain ⟨hq8, hd8⟩ := h88
          split at h
          next hi =>
            obtain ⟨i1, i2, i3, i4, i5⟩ := hi
            split at h
            next hcat =>
              have hkk' : (M.1.2 q).1 = (M.1.2 d).1 := hkk
              have hkd' : (M.1.2 d).1 = 0 ∨ (M.1.2 d).1 = 3 := hkd
              have i4' : dp + n ≤ ((M.1.2 d).2.1 : Int) := i4
              have i5' : sp + n ≤ ((M.1.2 q).2.1 : Int) := i5
              have hlb := hR.1.len hLb (k := d) (by omega)
              have hlb2 := hR.1.len hLb (k := q) (by omega)
              have c1 : (Int32.ofInt n).toNatClampNeg = n.toNat := n_clamp i1 (by omega)
              have c2 : (Int32.ofInt dp).toNatClampNeg = dp.toNat := n_clamp i2 (by omega)
              have c3 : (Int32.ofInt sp).toNatClampNeg = sp.toNat := n_clamp i3 (by omega)
              have hdn : d < M.1.1 := by rcases hR.1.arr (k := d) (by omega) with z | z | z | z <;> omega
              have hqn : q < M.1.1 := by rcases hR.1.arr (k := q) (by omega) with z | z | z | z <;> omega
              have hwd := hh_ws_at (ba := ba) (oa := oa) (v5 := v5) (cA := cA) hd8 hdn
              have hwq := hh_ws_at (ba := ba) (oa := oa) (v5 := v5) (cA := cA) hq8 hqn
              have hloc : ((st.map (hh_tv ba oa v5)).map fun v => v.category).sum + (nativeFrameWords "java/lang/System" "arraycopy" 5 + 11) ≤ R.locals := by
                rw [hh_cat_sum h5]
                have : nativeFrameWords "java/lang/System" "arraycopy" 5 = 7 := by decide
                omega
              show W p l e R s m args below meth c H locs cells slots Q (F0 m pc la (.int (Int32.ofInt n) :: .int (Int32.ofInt dp) :: hh_tv ba oa v5 (.inr (.inr d)) :: .int (Int32.ofInt sp) :: hh_tv ba oa v5 (.inr (.inr q)) :: st.map (hh_tv ba oa v5)))
              rw [hh_tv_8 hd8, hh_tv_8 hq8]
              rcases hkd' with k0 | k3
              · rw [hh_en_int k0 (by decide)] at hwd
                rw [hh_en_int (hkk'.trans k0) (by decide)] at hwq
                refine va_copyi (D := D) (cl := vwCl) (A := hh_A ba) (H0 := s.heap) (ty := .int) hx hb hml hown (hts _ hl) (hts _ hl2) (hts _ hl3) (hts _ hl4) hK hR.2 hh_D hS (q - 8) (d - 8) 0 0 hwq hwd rfl rfl rfl (n_nneg i3 (by omega)) (n_nneg i2 (by omega)) (n_nneg i1 (by omega)) (by rw [c3, c1]; omega) (by rw [c2, c1]; omega) (fun _ _ => rfl) hfr hloc hd ?_
                rw [c1, c2, c3]
                refine sd_fin (M' := (M.1, cpy M.2 q sp.toNat d dp.toNat n.toNat)) hd8 hdn (hh_wf_cpy hd8 hR.1) rfl ?_ (fun a ha => hh_en_cpy ha) (fun H2 locs2 h1 h2 => hk _ _ _ _ h h1 h2 rfl)
                rw [hh_en_int (M := (M.1, cpy M.2 q sp.toNat d dp.toNat n.toNat)) k0 (by decide), hh_cpy_i]
              · rw [hh_en_long k3] at hwd
                rw [hh_en_long (hkk'.trans k3)] at hwq
                refine va_copyl (D := D) (cl := vwCl) (A := hh_A ba) (H0 := s.heap) (ty := .long) hx hb hml hown (hts _ hl) (hts _ hl2) (hts _ hl3) (hts _ hl4) hK hR.2 hh_D hS (q - 8) (d - 8) 3 3 hwq hwd rfl rfl rfl (n_nneg i3 (by omega)) (n_nneg i2 (by omega)) (n_nneg i1 (by omega)) (by rw [c3, c1]; omega) (by rw [c2, c1]; omega) (fun _ _ => rfl) hfr hloc hd ?_
                rw [c1, c2, c3]
                refine sd_fin (M' := (M.1, cpy M.2 q sp.toNat d dp.toNat n.toNat)) hd8 hdn (hh_wf_cpy hd8 hR.1) rfl ?_ (fun a ha => hh_en_cpy ha) (fun H2 locs2 h1 h2 => hk _ _ _ _ h h1 h2 rfl)
                rw [hh_en_long (M := (M.1, cpy M.2 q sp.toNat d dp.toNat n.toNat)) k3, hh_cpy_l]
            next => cases h
          next => cases h
        next => cases h
      next => cases h
    next => cases h
  next => cases h
/-- the statics that are read: the tens, a flag of String's, a thing that is only carried -/
def gs_P (own : String) (idx k : Nat) : Prop := (k = 0 ∧ (Cond.fieldLink own idx "HotHand" "TENS" "[J" ∈ lw_g ∨ Cond.fieldLinkNest own idx "HotHand" "TENS" "[J" "HotHand" ∈ lw_g)) ∨ (k = 1 ∧ Cond.fieldLink own idx "java/lang/String" "COMPACT_STRINGS" "Z" ∈ lw_g) ∨ (k = 2 ∧ Cond.fieldLink own idx "jdk/internal/util/Preconditions" "SIOOBE_FORMATTER" "Ljava/util/function/BiFunction;" ∈ lw_g)
theorem sd_gets {k idx : Nat} (hx : p.tables.exec = Jvm.exec) (hb : c.code = cc) (hd : decode cc pc = .ok (.getstatic idx, 3)) (hts : ∀ w ∈ lw_g, w.before args s = true) (hown : s.vm.findClass own = some m.cls) (hO : hh_O ba oa v5 L o1 o2 o4 s s.heap) (hg : gs_P own idx k)
    (hL : hh_L ba oa v5 la ls) (hS : va_S (hh_A ba) s.heap H locs) (h : (match k with
      | 0 => kk ls (.inr (.inr 2) :: st) M
      | 1 => kk ls (.inl 1 :: st) M
      | _ => kk ls (.inr (.inr 5) :: st) M) = some r)
    (hk : ∀ ls2 st2 la2, kk ls2 st2 M = some r → hh_L ba oa v5 la2 ls2 → hh_G p l e R s m args below meth c Q ba oa v5 H locs cells slots (pc + 3) la2 st2) : hh_G p l e R s m args below meth c Q ba oa v5 H locs cells slots pc la st := by
  rcases hg with ⟨rfl, hg⟩ | ⟨rfl, hg⟩ | ⟨rfl, hg⟩
  · rcases hg with hg | hg
    · exact va_gets hx hb hO.2.1 hS hown (hts _ hg) (fun _ h => h) hd (hk _ _ _ h hL)
    · exact va_getsN hx hb hO.2.1 hS hown (hts _ hg) (fun _ h => h) hd (hk _ _ _ h hL)
  · exact va_gets hx hb hO.2.2.2.1 hS hown (hts _ hg) (fun _ h => h) hd (hk _ _ _ h hL)
  · exact va_gets hx hb hO.2.2.2.2.1 hS hown (hts _ hg) (fun _ h => h) hd (hk _ _ _ h hL)
theorem hh_swt_no {α : Type} {F : Nat → α} {d : Nat} {x : Int} : ∀ {cs : List (Int × Nat)}, (∀ q ∈ cs, q.1 ≠ x) → swt F d x cs = F d
  | [], _ => rfl
  | q :: r, h => by
    simp only [swt]
    rw [if_neg (fun z => h q List.mem_cons_self z.symm)]
    exact hh_swt_no (fun z hz => h z (List.mem_cons_of_mem _ hz))
theorem hh_swt_at {α : Type} {F : Nat → α} {d b : Nat} {x lo : Int} : ∀ {cs : List (Int × Nat)} {j : Nat}, (∀ (i : Nat) (q : Int × Nat), cs[i]? = some q → q.1 = lo + i) → cs[j]? = some (x, b) → swt F d x cs = F b
  | [], j, _, h => by simp at h
  | q :: r, 0, h, h2 => by
    simp only [swt]
    rw [List.getElem?_cons_zero] at h2
    cases h2
    rw [if_pos rfl]
  | q :: r, j + 1, h, h2 => by
    simp only [swt]
    have h1 := h 0 q rfl
    have h3 := h (j + 1) _ h2
    rw [if_neg (by intro z; rw [z, h1] at h3; omega)]
    exact hh_swt_at (lo := lo + 1) (fun i z hz => by have := h (i + 1) z hz; omega) h2
theorem sd_tsw {F : Nat → hh_Lo → hh_Sk → hh_Mm → Option hh_Rs} {KS : List (Nat × List (Int × Nat))} {t : Nat} {dflt lo hi : Int} {offs : Array Int} {len : Nat} {pcs : Nat → Nat} (hx : p.tables.exec = Jvm.exec) (hb : c.code = cc) (hd : decode cc pc = .ok (.tableswitch dflt lo hi offs, len))
    (hdf : (pc : Int) + dflt = (pcs (KS.getD t (0, [])).1 : Int)) (hln : (KS.getD t (0, [])).2.length = offs.size) (hhi : hi = lo + offs.size - 1) (hcs : ∀ (i : Nat) (q : Int × Nat), (KS.getD t (0, [])).2[i]? = some q → q.1 = lo + i ∧ ∃ o, offs[i]? = some o ∧ (pc : Int) + o = (pcs q.2 : Int))
    (h : s_sw KS F t ls st M = some r)
    (hF : ∀ b st2, F b ls st2 M = some r → hh_G p l e R s m args below meth c Q ba oa v5 H locs cells slots (pcs b) la st2) : hh_G p l e R s m args below meth c Q ba oa v5 H locs cells slots pc la st := by
  unfold s_sw at h
  split at h
  next a st =>
    show W p l e R s m args below meth c H locs cells slots Q (F0 m pc la (.int (Int32.ofInt a) :: st.map (hh_tv ba oa v5)))
    by_cases hin : w32 a < lo ∨ hi < w32 a
    · rw [hh_swt_no (fun q hq z => by
        obtain ⟨i, hi2⟩ := List.getElem?_of_mem hq
        have h1 := (hcs i q hi2).1
        have h2 := (List.getElem?_eq_some_iff.mp hi2).1
        omega)] at h
      exact lv_tableOut hx hb hd (by rw [n_w32]; exact hin) hdf (hF _ _ h)
    · have hj : (w32 a - lo).toNat < (KS.getD t (0, [])).2.length := by omega
      obtain ⟨⟨v, b⟩, hq⟩ : ∃ q, (KS.getD t (0, [])).2[(w32 a - lo).toNat]? = some q := ⟨_, List.getElem?_eq_getElem hj⟩
      obtain ⟨e1, o, e2, e3⟩ := hcs _ _ hq
      have e4 : v = w32 a := by dsimp only at e1; omega
      subst e4
      rw [hh_swt_at (lo := lo) (fun i z hz => (hcs i z hz).1) hq] at h
      exact lv_tableIn hx hb hd (by rw [n_w32]; omega) (by rw [n_w32]; omega) (by rw [n_w32]; exact e2) e3 (hF _ _ h)
  next => cases h
theorem hh_swt_lk {α : Type} {F : Nat → α} {d : Nat} {x dflt : Int} {pc : Nat} {pcs : Nat → Nat} (hdf : (pc : Int) + dflt = (pcs d : Int)) : ∀ {cs : List (Int × Nat)} {ps : List (Int × Int)}, cs.length = ps.length → (∀ (i : Nat) (q : Int × Nat), cs[i]? = some q → ∃ o, ps[i]? = some (q.1, o) ∧ (pc : Int) + o = (pcs q.2 : Int)) → ∃ b, swt F d x cs = F b ∧ (pc : Int) + Op.lookupswitch.offset ps dflt x = (pcs b : Int)
  | [], [], _, _ => ⟨d, rfl, hdf⟩
  | [], _ :: _, h, _ => by simp at h
  | _ :: _, [], h, _ => by simp at h
  | q :: r, (a, o) :: ps, hl, h => by
    obtain ⟨o2, h1, h2⟩ := h 0 q rfl
    rw [List.getElem?_cons_zero] at h1
    cases h1
    simp only [swt]
    rw [Op.lookupswitch.offset_cons]
    by_cases hx : x = q.1
    · rw [if_pos hx]
      refine ⟨q.2, rfl, ?_⟩
      first | rw [if_pos hx] | rw [if_pos hx.symm]
      exact h2
    · rw [if_neg hx]
      first | rw [if_neg hx] | rw [if_neg (fun z => hx z.symm)]
      exact hh_swt_lk hdf (by simpa using hl) (fun i z hz => h (i + 1) z hz)
theorem sd_lsw {F : Nat → hh_Lo → hh_Sk → hh_Mm → Option hh_Rs} {KS : List (Nat × List (Int × Nat))} {t : Nat} {dflt : Int} {ps : Array (Int × Int)} {len : Nat} {pcs : Nat → Nat} (hx : p.tables.exec = Jvm.exec) (hb : c.code = cc) (hd : decode cc pc = .ok (.lookupswitch dflt ps, len))
    (hso : (ps.toList.zip (ps.toList.drop 1)).all (fun (a, next) => a.1 < next.1) = true) (hdf : (pc : Int) + dflt = (pcs (KS.getD t (0, [])).1 : Int)) (hln : (KS.getD t (0, [])).2.length = ps.toList.length) (hcs : ∀ (i : Nat) (q : Int × Nat), (KS.getD t (0, [])).2[i]? = some q → ∃ o, ps.toList[i]? = some (q.1, o) ∧ (pc : Int) + o = (pcs q.2 : Int))
    (h : s_sw KS F t ls st M = some r)
    (hF : ∀ b st2, F b ls st2 M = some r → hh_G p l e R s m args below meth c Q ba oa v5 H locs cells slots (pcs b) la st2) : hh_G p l e R s m args below meth c Q ba oa v5 H locs cells slots pc la st := by
  unfold s_sw at h
  split at h
  next a st =>
    obtain ⟨b, e1, e2⟩ := hh_swt_lk (F := fun b => F b ls st M) (x := w32 a) hdf hln hcs
    rw [e1] at h
    exact lv_lookup hx hb hd hso (by rw [n_w32]) e2 (hF _ _ h)
  next => cases h
end
