/-! the walk: its context; where a call goes -/
def hh_X (p : Program) (R : Room) (s : State) (m : MethodId) (meth : Method) (c : Code) (ba : Nat) (oa : Nat → Nat) (v5 : Value) (cA : Nat → ClassId) (L : Nat) (o1 o2 o4 : Nat → Int) (D : va_G) (mi n0 d : Nat) : Prop :=
  (p.tables.exec = Jvm.exec ∧ c.code = (pg_y mi).2.1 ∧ c.maxLocals = pg_l mi ∧ s.vm.findClass (cn_n (pg_cn mi)) = some m.cls ∧ ((pg_y mi).2.2.2.1 = 2 → meth.name = "<init>")) ∧ (hh_T s ∧ va_K D vwCl (hh_tys cA) s ∧ hh_O ba oa v5 L o1 o2 o4 s s.heap) ∧ (s.heap.size = ba + (n0 - 8) ∧ 8 ≤ n0) ∧ (d + 1 ≤ R.frames ∧ 64 * (d + 1) ≤ R.locals) ∧ L < 2147483648
def hh_Ct (l : Launch) (ba : Nat) (oa : Nat → Nat) (v5 : Value) (cA : Nat → ClassId) (L : Nat) (o1 o2 o4 : Nat → Int) (D : va_G) (d m' : Nat) (as : List hh_Av) (M : hh_Mm) (r' : hh_Rs) : Prop :=
  Met l (pg_y m').1 [Cond.code (pg_y m').1 (pg_y m').2.1 (pg_l m') (pg_y m').2.2.1] (hh_rm d (r'.2.1.1 - M.1.1)) (hh_Pc ba oa v5 cA L o1 o2 o4 D as M) (hh_Qc ba oa v5 cA L o1 o2 o4 D (pg_y m').2.2.1 r') (r'.2.1.1 - M.1.1) (10000 * (r'.2.1.1 - M.1.1)) (hh_A ba)
theorem hh_gi {y : MethodName} {b : ByteArray} {n : Nat} {t : Option FieldType} (h : Cond.code y b n t ∈ lw_g) : GoodIn lw_g [Cond.code y b n t] := by
  intro w hw
  cases List.mem_singleton.mp hw
  exact ⟨h, Or.inl rfl⟩
theorem hh_len1 {st : hh_Sk} {n : Nat} (h : n ≤ st.length) : ((st.take n).reverse).length = n := by rw [List.length_reverse, List.length_take]; omega
section
variable {p : Program} {l : Launch} {e : Env} {R : Room} {s : State} {m : MethodId} {args : Array Value} {below : List Frame} {meth : Method} {c : Code} {H : Heap} {locs : List Loc} {Q : State → Prop}
variable {pc : Nat} {la : Array Slot} {ba : Nat} {oa : Nat → Nat} {v5 : Value} {ls : hh_Lo} {st : hh_Sk} {M : hh_Mm} {r' : hh_Rs}
variable {cA : Nat → ClassId} {L : Nat} {o1 o2 o4 : Nat → Int} {D : va_G} {mi n0 d d' m' idx nn : Nat}
theorem hh_st_split (f : hh_Av → Value) (n : Nat) (st : hh_Sk) : st.map f = (((st.take n).reverse).map f).reverse ++ (st.drop n).map f := by
  rw [List.map_reverse, List.reverse_reverse, ← List.map_append, List.take_append_drop]
/-- a static call -/
theorem sd_run0 (X : hh_X p R s m meth c ba oa v5 cA L o1 o2 o4 D mi n0 d) (hd' : d' < d) (hM : hh_Ct l ba oa v5 cA L o1 o2 o4 D d' m' ((st.take nn).reverse) M r') (hy : my_P (pg_l m') (pg_y m')) (hmr : mr_P (pg_cn mi, idx, m')) (hkd : (pg_y m').2.2.2.1 = 0) (hnn : nn = (pg_y m').2.2.2.2)
    (hsz : la.size = pg_l mi) (hdec : decode c.code pc = .ok (.invokestatic idx, 3)) (hst : nn ≤ st.length) (hcat : hh_cat (st.drop nn) ≤ 8) (hR : hh_R ba oa v5 cA L o1 o2 o4 D M H) (hS : va_S (hh_A ba) s.heap H locs) (hHz : H.size = ba + (M.1.1 - 8))
    (hc : (M.1.1 - n0) + (r'.2.1.1 - M.1.1) ≤ R.cells) (hs : 10000 * (M.1.1 - n0) + 10000 * (r'.2.1.1 - M.1.1) ≤ R.slots) :
    va_Run p l e R s m args below meth c H locs (M.1.1 - n0) (10000 * (M.1.1 - n0)) (r'.2.1.1 - M.1.1) (10000 * (r'.2.1.1 - M.1.1)) (F0 m pc la (st.map (hh_tv ba oa v5))) ((st.drop nn).map (hh_tv ba oa v5)) (hh_Qc ba oa v5 cA L o1 o2 o4 D (pg_y m').2.2.1 r' (((st.take nn).reverse).map (hh_tv ba oa v5)).toArray) (hh_A ba) := by
  obtain ⟨⟨hx, hb, hml, hown, hini⟩, ⟨hT, hK, hO⟩, -, ⟨hfr, hlo⟩, hLb⟩ := X
  have hts : ∀ w ∈ lw_g, w.before args s = true := hT.use
  obtain ⟨y1, y2, ⟨-, y3, y4, y5, y6⟩, y7⟩ := hy
  have h5 := hO.2.2.2.2.2.1
  have hp : PreS s H (hh_Pc ba oa v5 cA L o1 o2 o4 D ((st.take nn).reverse) M) (((st.take nn).reverse).map (hh_tv ba oa v5)) := ⟨hh_Pc_blind, fun U hU hW => hh_Pc_at hU hW hHz hR hS hO hK hT⟩
  have hlen : (((st.take nn).reverse).map (hh_tv ba oa v5)).length = (pg_y m').2.2.2.2 := by rw [List.length_map, hh_len1 hst, hnn]
  have hcs : 2 * (F0 m pc la (st.map (hh_tv ba oa v5))).monitorRoom + (((st.drop nn).map (hh_tv ba oa v5)).map fun v => v.category).sum ≤ 8 := by
    show 2 * 0 + _ ≤ 8
    rw [Nat.mul_zero, Nat.zero_add, hh_cat_sum h5]
    exact hcat
  have hroom : (hh_rm d' (r'.2.1.1 - M.1.1)).frames + 1 ≤ R.frames ∧ 8 + (pg_l m' + 11) + (hh_rm d' (r'.2.1.1 - M.1.1)).locals ≤ R.locals := by
    refine ⟨?_, ?_⟩
    · show d' + 1 + 1 ≤ _
      omega
    · show 8 + (pg_l m' + 11) + 64 * (d' + 1) ≤ _
      omega
  rw [hkd] at y7
  rcases hmr with hl | ⟨host, hl⟩
  · exact va_runS (As := ((st.take nn).reverse).map (hh_tv ba oa v5)) ⟨hx, rfl, hml, hown, hts⟩ hM ⟨callB_of (Ts := lw_g) _ hts (hh_gi y1) rfl rfl rfl (hts _ y2) (hts _ hl) ⟨y3, y4, y5⟩ hroom, hts _ y7⟩ hp rfl hlen hsz (hh_st_split _ nn st) hcs hdec ⟨hc, hs⟩
  · exact va_runSN (As := ((st.take nn).reverse).map (hh_tv ba oa v5)) ⟨hx, rfl, hml, hown, hts⟩ hM ⟨va_cnB (Ts := lw_g) _ hts (hh_gi y1) rfl rfl rfl (va_Nw.of rfl (hts _ hl)) (hts _ y2) ⟨y3, y4, y5⟩ hroom, hts _ y7, trivial⟩ hp rfl hlen hsz (hh_st_split _ nn st) hcs hdec ⟨hc, hs⟩
/-- a call on an object -/
theorem sd_run1 {k : Nat} (X : hh_X p R s m meth c ba oa v5 cA L o1 o2 o4 D mi n0 d) (hd' : d' < d) (hM : hh_Ct l ba oa v5 cA L o1 o2 o4 D d' m' ((st.take nn).reverse) M r') (hy : my_P (pg_l m') (pg_y m')) (hmr : mr_P (pg_cn mi, idx, m')) (hkd : (pg_y m').2.2.2.1 = 1) (hnn : nn = (pg_y m').2.2.2.2 + 1)
    (hsz : la.size = pg_l mi) (hdec : decode c.code pc = .ok (.invokevirtual idx, 3)) (hst : nn ≤ st.length) (hcat : hh_cat (st.drop nn) ≤ 8) (hR : hh_R ba oa v5 cA L o1 o2 o4 D M H) (hS : va_S (hh_A ba) s.heap H locs) (hHz : H.size = ba + (M.1.1 - 8))
    (hk : st.getD (nn - 1) (.inl 0) = .inr (.inr k)) (hkr : hh_rv ba oa v5 k = .ref (hh_ad ba oa k)) (hcell : ∃ cell : Cell, H[hh_ad ba oa k]? = some cell ∧ cell.vm.isStatics = false ∧ s.vm.findClass (pg_y m').1.cls = some cell.cls)
    (hc : (M.1.1 - n0) + (r'.2.1.1 - M.1.1) ≤ R.cells) (hs : 10000 * (M.1.1 - n0) + 10000 * (r'.2.1.1 - M.1.1) ≤ R.slots) :
    va_Run p l e R s m args below meth c H locs (M.1.1 - n0) (10000 * (M.1.1 - n0)) (r'.2.1.1 - M.1.1) (10000 * (r'.2.1.1 - M.1.1)) (F0 m pc la (st.map (hh_tv ba oa v5))) ((st.drop nn).map (hh_tv ba oa v5)) (hh_Qc ba oa v5 cA L o1 o2 o4 D (pg_y m').2.2.1 r' (((st.take nn).reverse).map (hh_tv ba oa v5)).toArray) (hh_A ba) := by
  obtain ⟨⟨hx, hb, hml, hown, hini⟩, ⟨hT, hK, hO⟩, -, ⟨hfr, hlo⟩, hLb⟩ := X
  have hts : ∀ w ∈ lw_g, w.before args s = true := hT.use
  obtain ⟨y1, y2, ⟨-, y3, y4, y5, y6⟩, y7⟩ := hy
  have h5 := hO.2.2.2.2.2.1
  obtain ⟨t1, t2⟩ := hh_tk (by omega) hst hk
  have ea : ((st.take nn).reverse).map (hh_tv ba oa v5) = .ref (hh_ad ba oa k) :: ((st.take (nn - 1)).reverse).map (hh_tv ba oa v5) := by
    rw [t1, List.map_cons, ← hkr]
    rfl
  have hp : PreV s H (pg_y m').1.cls (hh_ad ba oa k) (hh_Pc ba oa v5 cA L o1 o2 o4 D ((st.take nn).reverse) M) (((st.take (nn - 1)).reverse).map (hh_tv ba oa v5)) := ⟨hh_Pc_blind, hcell, fun U hU hW => by rw [← ea]; exact hh_Pc_at hU hW hHz hR hS hO hK hT⟩
  have hlen : (((st.take (nn - 1)).reverse).map (hh_tv ba oa v5)).length = (pg_y m').2.2.2.2 := by rw [List.length_map, hh_len1 (by omega), hnn]; rfl
  have hcs : 2 * (F0 m pc la (st.map (hh_tv ba oa v5))).monitorRoom + (((st.drop nn).map (hh_tv ba oa v5)).map fun v => v.category).sum ≤ 8 := by
    show 2 * 0 + _ ≤ 8
    rw [Nat.mul_zero, Nat.zero_add, hh_cat_sum h5]
    exact hcat
  have hstk : (F0 m pc la (st.map (hh_tv ba oa v5))).stack = (((st.take (nn - 1)).reverse).map (hh_tv ba oa v5)).reverse ++ .ref (hh_ad ba oa k) :: (st.drop nn).map (hh_tv ba oa v5) := by
    show st.map (hh_tv ba oa v5) = _
    rw [List.map_reverse, List.reverse_reverse, ← hkr]
    conv => lhs; rw [t2]
    rw [List.map_append, List.map_cons]
    rfl
  have hroom : (hh_rm d' (r'.2.1.1 - M.1.1)).frames + 1 ≤ R.frames ∧ 8 + (pg_l m' + 11) + (hh_rm d' (r'.2.1.1 - M.1.1)).locals ≤ R.locals := by
    refine ⟨?_, ?_⟩
    · show d' + 1 + 1 ≤ _
      omega
    · show 8 + (pg_l m' + 11) + 64 * (d' + 1) ≤ _
      omega
  rw [hkd] at y7
  rw [ea]
  rcases hmr with hl | ⟨host, hl⟩
  · exact va_runV (As := ((st.take (nn - 1)).reverse).map (hh_tv ba oa v5)) ⟨hx, rfl, hml, hown, hts⟩ hM ⟨callB_of (Ts := lw_g) _ hts (hh_gi y1) rfl rfl rfl (hts _ y2) (hts _ hl) ⟨y3, y4, y5⟩ hroom, hts _ y7.1, hts _ y7.2⟩ hp rfl hlen hsz hstk hcs hdec ⟨hc, hs⟩
  · exact va_runVN (As := ((st.take (nn - 1)).reverse).map (hh_tv ba oa v5)) ⟨hx, rfl, hml, hown, hts⟩ hM ⟨va_cnB (Ts := lw_g) _ hts (hh_gi y1) rfl rfl rfl (va_Nw.of rfl (hts _ hl)) (hts _ y2) ⟨y3, y4, y5⟩ hroom, hts _ y7.1, hts _ y7.2⟩ hp rfl hlen hsz hstk hcs hdec ⟨hc, hs⟩
/-- a constructor's call -/
theorem sd_run2 {k : Nat} (X : hh_X p R s m meth c ba oa v5 cA L o1 o2 o4 D mi n0 d) (hd' : d' < d) (hM : hh_Ct l ba oa v5 cA L o1 o2 o4 D d' m' ((st.take nn).reverse) M r') (hy : my_P (pg_l m') (pg_y m')) (hmr : mr_P (pg_cn mi, idx, m')) (hkd : (pg_y m').2.2.2.1 = 2) (hnn : nn = (pg_y m').2.2.2.2 + 1) (hrn : (pg_y m').2.2.1 = none)
    (hsz : la.size = pg_l mi) (hdec : decode c.code pc = .ok (.invokespecial idx, 3)) (hst : nn ≤ st.length) (hcat : hh_cat (st.drop nn) ≤ 8) (hR : hh_R ba oa v5 cA L o1 o2 o4 D M H) (hS : va_S (hh_A ba) s.heap H locs) (hHz : H.size = ba + (M.1.1 - 8))
    (hk : st.getD (nn - 1) (.inl 0) = .inr (.inr k)) (hkr : hh_rv ba oa v5 k = .ref (hh_ad ba oa k))
    (hc : (M.1.1 - n0) + (r'.2.1.1 - M.1.1) ≤ R.cells) (hs : 10000 * (M.1.1 - n0) + 10000 * (r'.2.1.1 - M.1.1) ≤ R.slots) :
    va_Run p l e R s m args below meth c H locs (M.1.1 - n0) (10000 * (M.1.1 - n0)) (r'.2.1.1 - M.1.1) (10000 * (r'.2.1.1 - M.1.1)) (F0 m pc la (st.map (hh_tv ba oa v5))) ((st.drop nn).map (hh_tv ba oa v5)) (hh_Qc ba oa v5 cA L o1 o2 o4 D (pg_y m').2.2.1 r' (((st.take nn).reverse).map (hh_tv ba oa v5)).toArray) (hh_A ba) := by
  obtain ⟨⟨hx, hb, hml, hown, hini⟩, ⟨hT, hK, hO⟩, -, ⟨hfr, hlo⟩, hLb⟩ := X
  have hts : ∀ w ∈ lw_g, w.before args s = true := hT.use
  obtain ⟨y1, y2, ⟨-, y3, y4, y5, y6⟩, y7⟩ := hy
  have h5 := hO.2.2.2.2.2.1
  obtain ⟨t1, t2⟩ := hh_tk (by omega) hst hk
  have ea : ((st.take nn).reverse).map (hh_tv ba oa v5) = .ref (hh_ad ba oa k) :: ((st.take (nn - 1)).reverse).map (hh_tv ba oa v5) := by
    rw [t1, List.map_cons, ← hkr]
    rfl
  have hp : PreS s H (hh_Pc ba oa v5 cA L o1 o2 o4 D ((st.take nn).reverse) M) (.ref (hh_ad ba oa k) :: ((st.take (nn - 1)).reverse).map (hh_tv ba oa v5)) := ⟨hh_Pc_blind, fun U hU hW => by rw [← ea]; exact hh_Pc_at hU hW hHz hR hS hO hK hT⟩
  have hlen : (((st.take (nn - 1)).reverse).map (hh_tv ba oa v5)).length = (pg_y m').2.2.2.2 := by rw [List.length_map, hh_len1 (by omega), hnn]; rfl
  have hcs : 2 * (F0 m pc la (st.map (hh_tv ba oa v5))).monitorRoom + (((st.drop nn).map (hh_tv ba oa v5)).map fun v => v.category).sum ≤ 8 := by
    show 2 * 0 + _ ≤ 8
    rw [Nat.mul_zero, Nat.zero_add, hh_cat_sum h5]
    exact hcat
  have hstk : (F0 m pc la (st.map (hh_tv ba oa v5))).stack = (((st.take (nn - 1)).reverse).map (hh_tv ba oa v5)).reverse ++ .ref (hh_ad ba oa k) :: (st.drop nn).map (hh_tv ba oa v5) := by
    show st.map (hh_tv ba oa v5) = _
    rw [List.map_reverse, List.reverse_reverse, ← hkr]
    conv => lhs; rw [t2]
    rw [List.map_append, List.map_cons]
    rfl
  have hroom : (hh_rm d' (r'.2.1.1 - M.1.1)).frames + 1 ≤ R.frames ∧ 8 + (pg_l m' + 11) + (hh_rm d' (r'.2.1.1 - M.1.1)).locals ≤ R.locals := by
    refine ⟨?_, ?_⟩
    · show d' + 1 + 1 ≤ _
      omega
    · show 8 + (pg_l m' + 11) + 64 * (d' + 1) ≤ _
      omega
  rw [hkd] at y7
  rw [ea]
  unfold hh_Ct at hM
  rw [hrn] at hM y1 ⊢
  rcases hmr with hl | ⟨host, hl⟩
  · exact va_runI (As := ((st.take (nn - 1)).reverse).map (hh_tv ba oa v5)) ⟨hx, rfl, hml, hown, hts⟩ hM ⟨callB_of (Ts := lw_g) _ hts (hh_gi y1) rfl rfl rfl (hts _ y2) (hts _ hl) ⟨y3, y4, y5⟩ hroom, y7.2, hts _ y7.1⟩ hp rfl hlen hsz hstk hcs hdec ⟨hc, hs⟩
  · exact va_runIN (As := ((st.take (nn - 1)).reverse).map (hh_tv ba oa v5)) ⟨hx, rfl, hml, hown, hts⟩ hM ⟨va_cnB (Ts := lw_g) _ hts (hh_gi y1) rfl rfl rfl (va_Nw.of rfl (hts _ hl)) (hts _ y2) ⟨y3, y4, y5⟩ hroom, y7.2, hts _ y7.1⟩ hp rfl hlen hsz hstk hcs hdec ⟨hc, hs⟩
end
