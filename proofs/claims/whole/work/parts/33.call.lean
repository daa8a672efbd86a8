/-! calls: a method's contract, and its use -/
/-- the words that a call keeps hold at a state -/
def hh_T (U : State) : Prop := ∀ w ∈ lw_g, va_Nw w U
theorem hh_Tw {w : Cond} {s U : State} {a : Array Value} (hk : ck_w w = true) (hW : s.WarmedH U.vm) (h : va_Nw w s) : w.before a U = true := by
  unfold ck_w at hk
  split at hk
  · exact va_Nw.use rfl (va_Nw.warmM hW h)
  · exact va_Nw.use rfl (va_Nw.warmF hW h)
  · exact va_AO.use (va_AO.moved hW.alike h)
  · exact pay_in (big := [w]) (ws := [w]) (args := #[]) (s := s) (fun x hx => by cases List.mem_singleton.mp hx; exact h) (fun x hx => ⟨hx, by cases List.mem_singleton.mp hx; exact good_of_word hk⟩) w (List.mem_singleton.mpr rfl) a U hW
theorem hh_T.warm {s U : State} (hW : s.WarmedH U.vm) (h : hh_T s) : hh_T U := fun w hw => hh_Tw (List.mem_filter.mp hw).2 hW (h w hw)
theorem hh_T.use {s : State} {a : Array Value} (h : hh_T s) : ∀ w ∈ lw_g, w.before a s = true := fun w hw => hh_Tw (List.mem_filter.mp hw).2 (State.WarmedH.refl s) (h w hw)
theorem hh_Tn {w : Cond} {s : State} {a : Array Value} (hk : ck_w w = true) (h : w.before a s = true) : va_Nw w s := by
  unfold ck_w at hk
  split at hk
  · exact va_Nw.of rfl h
  · exact va_Nw.of rfl h
  · exact va_AO.of h
  · exact pay_in (big := [w]) (ws := [w]) (args := a) (s := s) (fun x hx => by cases List.mem_singleton.mp hx; exact h) (fun x hx => ⟨hx, by cases List.mem_singleton.mp hx; exact good_of_word hk⟩) w (List.mem_singleton.mpr rfl) #[] s (State.WarmedH.refl s)
theorem hh_T.of {s : State} {a : Array Value} (h : ∀ w ∈ lw_g, w.before a s = true) : hh_T s := fun w hw => hh_Tn (List.mem_filter.mp hw).2 (h w hw)
def hh_rk (t : Option FieldType) : Nat := match t with
  | none => 0
  | some .long => 2
  | some (.object _) => 3
  | some _ => 1
def hh_rm (d k : Nat) : Room := { frames := d + 1, cells := k, slots := 10000 * k, locals := 64 * (d + 1) }
section
variable (ba : Nat) (oa : Nat → Nat) (v5 : Value) (cA : Nat → ClassId) (L : Nat) (o1 o2 o4 : Nat → Int) (D : va_G)
def hh_rt (t : Nat) (z : Int) : Option Value := match t with
  | 0 => none
  | 1 => some (.int (Int32.ofInt z))
  | 2 => some (.long (Int64.ofInt z))
  | _ => some (hh_rv ba oa v5 z.toNat)
def hh_Pc (as : List hh_Av) (M : hh_Mm) : Array Value → State → Prop := fun v U => v = (as.map (hh_tv ba oa v5)).toArray ∧ U.heap.size = ba + (M.1.1 - 8) ∧ hh_R ba oa v5 cA L o1 o2 o4 D M U.heap ∧ hh_O ba oa v5 L o1 o2 o4 U U.heap ∧ va_K D vwCl (hh_tys cA) U ∧ hh_T U
def hh_Qc (rt : Option FieldType) (r : hh_Rs) : Array Value → State → Outcome → State → Prop := fun _ st oc t => oc = .returned (hh_rt ba oa v5 (hh_rk rt) r.1) ∧ hh_R ba oa v5 cA L o1 o2 o4 D r.2 t.heap ∧ va_F (hh_A ba) st t
end
section
variable {ba : Nat} {oa : Nat → Nat} {v5 : Value} {cA : Nat → ClassId} {L : Nat} {o1 o2 o4 : Nat → Int} {D : va_G} {M : hh_Mm} {H : Heap}
theorem hh_O.moved {u U : State} (hvm : u.vm.Alike U.vm) (hr : ∀ own k tx a, vk_R own k tx a u → vk_R own k tx a U) (h : hh_O ba oa v5 L o1 o2 o4 u H) : hh_O ba oa v5 L o1 o2 o4 U H := by
  obtain ⟨h1, h2, h3, h4, h5, h6, h7, h8, h9, h10, h11⟩ := h
  exact ⟨h1.moved hvm, h2.moved hvm, h3.moved hvm, h4.moved hvm, h5.moved hvm, h6, h7.moved hvm, h8.moved hvm, h9.moved hvm, h10.moved hvm, hr _ _ _ _ h11⟩
theorem hh_O.kept {U : State} {H1 : Heap} (hq : ∀ a : Nat, a < H.size → ¬ hh_A ba a → H1[a]? = H[a]?) (h : hh_O ba oa v5 L o1 o2 o4 U H) : hh_O ba oa v5 L o1 o2 o4 U H1 := by
  obtain ⟨h1, h2, h3, h4, h5, h6, h7, h8, h9, h10, h11⟩ := h
  exact ⟨h1.kept hq, h2.kept hq, h3.kept hq, h4.kept hq, h5.kept hq, h6, h7.kept hq, h8.kept hq, h9.kept hq, h10.kept hq, h11⟩
theorem hh_Pc_blind {as : List hh_Av} : FrameBlind (hh_Pc ba oa v5 cA L o1 o2 o4 D as M) := by
  intro a U g mk h
  obtain ⟨h1, h2, h3, h4, h5, h6⟩ := h
  exact ⟨h1, h2, h3, h4.moved (U := U.calling g mk a) (Vm.Alike.refl U.vm) (fun _ _ _ _ z => z.same rfl), va_K.moved (u := U) (U := U.calling g mk a) (Vm.Alike.refl U.vm) h5, hh_T.warm (s := U) (U := U.calling g mk a) (State.WarmedH.refl U) h6⟩
/-- the words hold at the callee's start -/
theorem hh_Pc_at {as : List hh_Av} {s U : State} {locs : List Loc} (hU : U.heap = H) (hW : s.WarmedH U.vm) (hz : H.size = ba + (M.1.1 - 8)) (hR : hh_R ba oa v5 cA L o1 o2 o4 D M H) (hS : va_S (hh_A ba) s.heap H locs) (hO : hh_O ba oa v5 L o1 o2 o4 s s.heap) (hK : va_K D vwCl (hh_tys cA) s) (hT : hh_T s) : hh_Pc ba oa v5 cA L o1 o2 o4 D as M (as.map (hh_tv ba oa v5)).toArray U :=
  ⟨rfl, by rw [hU]; exact hz, by rw [hU]; exact hR, by rw [hU]; exact (hO.kept hS.2.1).moved hW.alike (fun _ _ _ _ z => z.warm hW), va_K.moved hW.alike hK, hT.warm hW⟩
theorem hh_recv {k ci : Nat} {q : vw_C} {s : State} {locs : List Loc} (hq : vwCl[ci]? = some q) (hkd : (M.1.2 k).1 = 20 + ci) (hR : hh_R ba oa v5 cA L o1 o2 o4 D M H) (hK : va_K D vwCl (hh_tys cA) s) : 8 ≤ k ∧ ∃ cell : Cell, H[hh_ad ba oa k]? = some cell ∧ cell.vm.isStatics = false ∧ s.vm.findClass q.1 = some cell.cls := by
  have hci : ci < 11 := (List.getElem?_eq_some_iff.mp hq).1
  obtain ⟨h8, hn⟩ := hR.1.new (k := k) (by omega) (by omega)
  have hw := hh_ws_at (ba := ba) (oa := oa) (v5 := v5) (cA := cA) h8 hn
  rw [hh_en_obj hkd] at hw
  obtain ⟨r, h1, cell, q1, q2, q3, q4⟩ := hR.2 _ _ hw
  obtain ⟨-, hfc, -⟩ := hK.1 ci _ hq
  exact ⟨h8, cell, q1, by rw [q3]; rfl, by rw [q2]; exact hfc⟩
theorem hh_tk {st : hh_Sk} {n : Nat} {v : hh_Av} (h0 : 0 < n) (hn : n ≤ st.length) (hv : st.getD (n - 1) (.inl 0) = v) : (st.take n).reverse = v :: (st.take (n - 1)).reverse ∧ st = st.take (n - 1) ++ v :: st.drop n := by
  obtain ⟨n, rfl⟩ : ∃ k, n = k + 1 := ⟨n - 1, by omega⟩
  simp only [Nat.add_sub_cancel] at hv ⊢
  have hlt : n < st.length := by omega
  have e : st[n] = v := by
    rw [List.getD_eq_getElem?_getD, List.getElem?_eq_getElem hlt] at hv
    exact hv
  constructor
  · rw [List.take_add_one, List.getElem?_eq_getElem hlt, e]
    simp
  · have h2 := List.take_append_drop n st
    rw [List.drop_eq_getElem_cons hlt, e] at h2
    exact h2.symm
theorem hh_sl_len (h5 : v5 = .null ∨ ∃ t, v5 = .ref t) : ∀ as : List hh_Av, (lg_sl (as.map (hh_tv ba oa v5))).length = (hh_lay as).length
  | [] => rfl
  | v :: as => by
    have ih := hh_sl_len h5 as
    have hc := hh_tv_cat (ba := ba) (oa := oa) h5 v
    simp only [lg_sl, List.map_cons, List.flatMap_cons, List.length_append] at ih ⊢
    rw [ih]
    rcases v with z | z | k
    · rw [if_neg (by rw [hc]; exact (fun z => nomatch z : ¬ ((1 : Nat) = 2)))]; simp only [hh_lay, List.length_cons, List.length_nil]; omega
    · rw [if_pos (by rw [hc]; rfl)]; simp only [hh_lay, List.length_cons, List.length_nil]; omega
    · rw [if_neg (by rw [hc]; exact (fun z => nomatch z : ¬ ((1 : Nat) = 2)))]; simp only [hh_lay, List.length_cons, List.length_nil]; omega
theorem hh_args_in (h5 : v5 = .null ∨ ∃ t, v5 = .ref t) : ∀ (as : List hh_Av) (o i : Nat) (v : hh_Av), (hh_lay as)[i]? = some (some v) → (o + i, hh_tv ba oa v5 v) ∈ lv_args o (as.map (hh_tv ba oa v5))
  | [], o, i, v, h => by simp [hh_lay] at h
  | w :: as, o, i, v, h => by
    have hc := hh_tv_cat (ba := ba) (oa := oa) h5 w
    rw [List.map_cons, lv_args, hc]
    rcases w with z | z | k
    · cases i with
      | zero => cases h; exact List.mem_cons_self
      | succ i =>
        rw [if_neg (show ¬ (hh_cat [Sum.inl z] = 2) from fun z => nomatch (show (1 : Nat) = 2 from z))]
        have := hh_args_in h5 as (o + 1) i v h
        rw [show o + 1 + i = o + (i + 1) by omega] at this
        exact List.mem_cons_of_mem _ this
    · cases i with
      | zero => cases h; exact List.mem_cons_self
      | succ i =>
        cases i with
        | zero => cases h
        | succ i =>
          rw [if_pos (show hh_cat [Sum.inr (Sum.inl z)] = 2 from rfl)]
          have := hh_args_in h5 as (o + 2) i v h
          rw [show o + 2 + i = o + (i + 1 + 1) by omega] at this
          exact List.mem_cons_of_mem _ this
    · cases i with
      | zero => cases h; exact List.mem_cons_self
      | succ i =>
        rw [if_neg (show ¬ (hh_cat [Sum.inr (Sum.inr k)] = 2) from fun z => nomatch (show (1 : Nat) = 2 from z))]
        have := hh_args_in h5 as (o + 1) i v h
        rw [show o + 1 + i = o + (i + 1) by omega] at this
        exact List.mem_cons_of_mem _ this
theorem hh_L_entry (h5 : v5 = .null ∨ ∃ t, v5 = .ref t) {as : List hh_Av} {n : Nat} {la : Array Slot} (hn : (hh_lay as).length ≤ n) (h : lv_has la n (lv_args 0 (as.map (hh_tv ba oa v5)))) : hh_L ba oa v5 la (hh_ent n as) := by
  refine ⟨?_, h.2.1, fun i v hv => ?_⟩
  · rw [h.1]; unfold hh_ent; rw [List.length_append, List.length_replicate]; omega
  · unfold hh_ent at hv
    by_cases hi : i < (hh_lay as).length
    · rw [List.getElem?_append_left hi] at hv
      have := hh_args_in (ba := ba) (oa := oa) h5 as 0 i v hv
      rw [Nat.zero_add] at this
      exact h.2.2 _ this
    · rw [List.getElem?_append_right (by omega), List.getElem?_replicate] at hv
      split at hv <;> cases hv
end
section
variable {p : Program} {l : Launch} {e : Env} {R : Room} {s : State} {m : MethodId} {args : Array Value} {below : List Frame} {meth : Method} {c : Code} {H : Heap} {locs : List Loc} {cells slots : Nat} {Q : State → Prop}
variable {cc : ByteArray} {pc : Nat} {la : Array Slot} {ba : Nat} {oa : Nat → Nat} {v5 : Value}
variable {cA : Nat → ClassId} {L : Nat} {o1 o2 o4 : Nat → Int} {D : va_G} {own : String} {n0 : Nat}
/-- behind a call -/
theorem sd_back {mc ms : Nat} {st0 rest : List Value} {rt : Option FieldType} {r : hh_Rs} {a : Array Value} (hr : va_Run p l e R s m args below meth c H locs cells slots mc ms (F0 m pc la st0) rest (hh_Qc ba oa v5 cA L o1 o2 o4 D rt r a) (hh_A ba)) (hS : va_S (hh_A ba) s.heap H locs)
    (kk : ∀ (H1 : Heap) (locs1 : List Loc), hh_R ba oa v5 cA L o1 o2 o4 D r.2 H1 → va_S (hh_A ba) s.heap H1 locs1 → W p l e R s m args below meth c H1 locs1 (cells + mc) (slots + ms) Q (F0 m (pc + 3) la ((hh_rt ba oa v5 (hh_rk rt) r.1).toList ++ rest))) : W p l e R s m args below meth c H locs cells slots Q (F0 m pc la st0) := by
  intro T hT X
  obtain ⟨v, st₀, t, T', L', h0, X', hL, e1, e2, ⟨hv, hR, hz, hk⟩, st⟩ := hr T hT X
  cases hv
  rw [h0] at hz hk
  obtain ⟨t2, a1, b1⟩ := kk T'.heap (locs ++ L') (by rw [e1]; exact hR)
    ⟨Nat.le_trans hS.1 (by rw [e1]; exact hz), fun q h1 h2 => by rw [e1, hk q (Nat.lt_of_lt_of_le h1 hS.1) h2]; exact hS.2.1 q h1 h2, fun q hq => by
      rcases List.mem_append.mp hq with h | h
      · exact hS.2.2 q h
      · exact hL q h⟩ T' rfl X'
  exact ⟨t2, st t2 a1, b1⟩
end
