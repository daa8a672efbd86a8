/-! the walk: a call -/
theorem ck_c_ok {kd : Nat} {x : hh_Ex} (h : ck_c kd x = true) : 2 ≤ x.1 ∧ x.1 < 284 ∧ (pg_y x.1).2.2.2.1 = kd ∧ x.2.1 = (pg_y x.1).2.2.2.2 + (if kd = 0 then 0 else 1) ∧ (if kd = 2 then x.2.2.1 = 4 else x.2.2.1 = hh_rk (pg_y x.1).2.2.1 ∧ pg_NA.getD x.1 false = true) ∧ (kd ≠ 0 → (pg_cn x.1 < 11 ∧ x.2.2.2 = pg_cn x.1) ∨ (kd = 1 ∧ pg_cn x.1 = 13 ∧ x.2.2.2 = 70)) := by
  unfold ck_c at h
  simp only [Bool.and_eq_true] at h
  obtain ⟨⟨⟨⟨⟨h1, h2⟩, h3⟩, h4⟩, h5⟩, h6⟩ := h
  refine ⟨Nat.le_of_ble_eq_true h1, ?_, Nat.eq_of_beq_eq_true h3, Nat.eq_of_beq_eq_true h4, ?_, fun hk => ?_⟩
  · have : Nat.ble (x.1 + 1) 284 = true := h2
    exact Nat.le_of_ble_eq_true this
  · split
    next e =>
      rw [if_pos e] at h5
      exact Nat.eq_of_beq_eq_true h5
    next e =>
      rw [if_neg e, Bool.and_eq_true] at h5
      exact ⟨Nat.eq_of_beq_eq_true h5.1, h5.2⟩
  · rw [if_neg hk, Bool.or_eq_true, Bool.and_eq_true, Bool.and_eq_true, Bool.and_eq_true] at h6
    rcases h6 with ⟨a, b⟩ | ⟨⟨a, b⟩, q⟩
    · refine Or.inl ⟨?_, Nat.eq_of_beq_eq_true b⟩
      have : Nat.ble (pg_cn x.1 + 1) 11 = true := a
      exact Nat.le_of_ble_eq_true this
    · exact Or.inr ⟨Nat.eq_of_beq_eq_true a, Nat.eq_of_beq_eq_true b, Nat.eq_of_beq_eq_true q⟩
theorem hh_init_none : ∀ m : Nat, m < 285 → (pg_y m).2.2.2.1 = 2 → (pg_y m).2.2.1 = none := by
  have h : (List.range 285).all (fun m => if (pg_y m).2.2.2.1 = 2 then (pg_y m).2.2.1.isNone else true) = true := by decide +kernel
  intro m hm h2
  have h3 := List.all_eq_true.mp h m (List.mem_range.mpr hm)
  rw [if_pos h2] at h3
  exact Option.isNone_iff_eq_none.mp h3
theorem hh_ar1 {a b c : Nat} (h1 : c ≤ a) (h2 : a ≤ b) : a - c + (b - a) = b - c := by omega
theorem hh_rk_le (t : Option FieldType) : hh_rk t ≤ 3 := by
  unfold hh_rk
  split <;> decide
section
variable {p : Program} {l : Launch} {e : Env} {R : Room} {s : State} {m : MethodId} {args : Array Value} {below : List Frame} {meth : Method} {c : Code} {H : Heap} {locs : List Loc} {Q : State → Prop}
variable {pc n : Nat} {la : Array Slot} {ba : Nat} {oa : Nat → Nat} {v5 : Value} {ls : hh_Lo} {st : hh_Sk} {M : hh_Mm} {r : hh_Rs} {kk : hh_Lo → hh_Sk → hh_Mm → Option hh_Rs} {C : Nat → List hh_Av → hh_Mm → Option hh_Rs}
variable {cA : Nat → ClassId} {L : Nat} {o1 o2 o4 : Nat → Int} {D : va_G} {mi n0 d : Nat}
/-- behind a call that is no Math -/
theorem sd_cont {x : hh_Ex} {r' : hh_Rs} {a : Array Value} {kd : Nat} (hx : ck_c kd x = true) (hn : n0 ≤ M.1.1) (hge : M.1.1 ≤ r'.2.1.1) (hna : pg_NA.getD x.1 false = true → r'.2.1 = M.1) (hS : va_S (hh_A ba) s.heap H locs)
    (hrun : va_Run p l e R s m args below meth c H locs (M.1.1 - n0) (10000 * (M.1.1 - n0)) (r'.2.1.1 - M.1.1) (10000 * (r'.2.1.1 - M.1.1)) (F0 m pc la (st.map (hh_tv ba oa v5))) ((st.drop x.2.1).map (hh_tv ba oa v5)) (hh_Qc ba oa v5 cA L o1 o2 o4 D (pg_y x.1).2.2.1 r' a) (hh_A ba))
    (h : (match x.2.2.1 with
    | 0 => kk ls (st.drop x.2.1) (M.1, r'.2.2)
    | 1 => kk ls (.inl r'.1 :: st.drop x.2.1) (M.1, r'.2.2)
    | 2 => kk ls (.inr (.inl r'.1) :: st.drop x.2.1) (M.1, r'.2.2)
    | 3 => kk ls (.inr (.inr r'.1.toNat) :: st.drop x.2.1) (M.1, r'.2.2)
    | _ => kk ls (st.drop x.2.1) r'.2) = some r)
    (hk : ∀ st2 M2 H2 locs2, kk ls st2 M2 = some r → hh_R ba oa v5 cA L o1 o2 o4 D M2 H2 → va_S (hh_A ba) s.heap H2 locs2 → n0 ≤ M2.1.1 → hh_G p l e R s m args below meth c Q ba oa v5 H2 locs2 (M2.1.1 - n0) (10000 * (M2.1.1 - n0)) (pc + 3) la st2) :
    hh_G p l e R s m args below meth c Q ba oa v5 H locs (M.1.1 - n0) (10000 * (M.1.1 - n0)) pc la st := by
  obtain ⟨c1, c2, c3, c4, c5, -⟩ := ck_c_ok hx
  refine sd_back hrun hS (fun H1 locs1 hR1 hS1 => ?_)
  have ez : M.1.1 - n0 + (r'.2.1.1 - M.1.1) = r'.2.1.1 - n0 := by omega
  have ey : 10000 * (M.1.1 - n0) + 10000 * (r'.2.1.1 - M.1.1) = 10000 * (r'.2.1.1 - n0) := by omega
  rw [ez, ey]
  split at c5
  next e2 =>
    rw [c5] at h
    have hrn : (pg_y x.1).2.2.1 = none := hh_init_none _ (by omega) (c3.trans e2)
    rw [hrn]
    exact hk _ _ _ _ h hR1 hS1 (by omega)
  next e2 =>
    obtain ⟨c6, c7⟩ := c5
    have hM : (M.1, r'.2.2) = r'.2 := Prod.ext (hna c7).symm rfl
    rw [hM] at h
    rw [c6] at h
    have h3 := hh_rk_le (pg_y x.1).2.2.1
    generalize hh_rk (pg_y x.1).2.2.1 = t at h h3 ⊢
    match t, h3 with
    | 0, _ => exact hk _ _ _ _ h hR1 hS1 (by omega)
    | 1, _ => exact hk _ _ _ _ h hR1 hS1 (by omega)
    | 2, _ => exact hk _ _ _ _ h hR1 hS1 (by omega)
    | 3, _ => exact hk _ _ _ _ h hR1 hS1 (by omega)
/-- what is known of the calls that go from here -/
def hh_Ca (l : Launch) (ba : Nat) (oa : Nat → Nat) (v5 : Value) (cA : Nat → ClassId) (L : Nat) (o1 o2 o4 : Nat → Int) (D : va_G) (C : Nat → List hh_Av → hh_Mm → Option hh_Rs) (M : hh_Mm) (d : Nat) : Prop :=
  ∀ (m' : Nat) (as : List hh_Av) (r' : hh_Rs), C m' as M = some r' → 2 ≤ m' → m' < 284 →
    M.1.1 ≤ r'.2.1.1 ∧ (pg_NA.getD m' false = true → r'.2.1 = M.1) ∧ (hh_lay as).length ≤ pg_l m' ∧ (∃ d', hh_Ev PG d' m' 0 (hh_ent (pg_l m') as) [] M = some r') ∧ (¬ (272 ≤ m' ∧ m' ≤ 275) → ∃ d', d' < d ∧ hh_Ct l ba oa v5 cA L o1 o2 o4 D d' m' as M r')
theorem hh_mm {x : hh_Ex} {r' : hh_Rs} (hge : M.1.1 ≤ r'.2.1.1) (hna : x.2.2.1 ≤ 3 → r'.2.1 = M.1) (hmono : ∀ ls st M2, kk ls st M2 = some r → M2.1.1 ≤ r.2.1.1) (h : (match x.2.2.1 with
    | 0 => kk ls (st.drop x.2.1) (M.1, r'.2.2)
    | 1 => kk ls (.inl r'.1 :: st.drop x.2.1) (M.1, r'.2.2)
    | 2 => kk ls (.inr (.inl r'.1) :: st.drop x.2.1) (M.1, r'.2.2)
    | 3 => kk ls (.inr (.inr r'.1.toNat) :: st.drop x.2.1) (M.1, r'.2.2)
    | _ => kk ls (st.drop x.2.1) r'.2) = some r) : r'.2.1.1 ≤ r.2.1.1 := by
  by_cases h3 : x.2.2.1 ≤ 3
  · have e := hna h3
    rw [e]
    generalize x.2.2.1 = t at h h3
    match t, h3 with
    | 0, _ => exact hmono _ _ (M.1, r'.2.2) h
    | 1, _ => exact hmono _ _ (M.1, r'.2.2) h
    | 2, _ => exact hmono _ _ (M.1, r'.2.2) h
    | 3, _ => exact hmono _ _ (M.1, r'.2.2) h
  · split at h
    next q => omega
    next q => omega
    next q => omega
    next q => omega
    · exact hmono _ _ _ h
theorem hh_call_in {x : hh_Ex} (h : s_call C x ls st M kk = some r) : x.2.1 ≤ st.length ∧ hh_cat (st.drop x.2.1) ≤ 8 ∧ ∃ r', C x.1 ((st.take x.2.1).reverse) M = some r' ∧ (match x.2.2.1 with
    | 0 => kk ls (st.drop x.2.1) (M.1, r'.2.2)
    | 1 => kk ls (.inl r'.1 :: st.drop x.2.1) (M.1, r'.2.2)
    | 2 => kk ls (.inr (.inl r'.1) :: st.drop x.2.1) (M.1, r'.2.2)
    | 3 => kk ls (.inr (.inr r'.1.toNat) :: st.drop x.2.1) (M.1, r'.2.2)
    | _ => kk ls (st.drop x.2.1) r'.2) = some r := by
  unfold s_call at h
  split at h
  next h1 =>
    split at h
    next h2 =>
      refine ⟨h1, h2, ?_⟩
      generalize x.2.2.1 = t at h ⊢
      split at h <;> rw [Option.bind_eq_some_iff] at h <;> obtain ⟨z, h3, h4⟩ := h <;> refine ⟨z, h3, ?_⟩
      · exact h4
      · exact h4
      · exact h4
      · exact h4
      next n0 n1 n2 n3 =>
        split
        · exact absurd rfl n0
        · exact absurd rfl n1
        · exact absurd rfl n2
        · exact absurd rfl n3
        · exact h4
    · cases h
  · cases h
/-- a call of Math -/
theorem sd_math {x : hh_Ex} {idx dE : Nat} {r' : hh_Rs} (X : hh_X p R s m meth c ba oa v5 cA L o1 o2 o4 D mi n0 d) (hd : decode c.code pc = .ok (.invokestatic idx, 3)) (hmr : (pg_cn mi, idx, x.1) ∈ pg_mr) (hm : 272 ≤ x.1 ∧ x.1 ≤ 275) (c4 : x.2.1 = (pg_y x.1).2.2.2.2) (c5 : x.2.2.1 = hh_rk (pg_y x.1).2.2.1) (hsz : la.size = pg_l mi) (hs1 : x.2.1 ≤ st.length) (hs2 : hh_cat (st.drop x.2.1) ≤ 8)
    (hlay : (hh_lay ((st.take x.2.1).reverse)).length ≤ pg_l x.1) (hE : hh_Ev PG dE x.1 0 (hh_ent (pg_l x.1) ((st.take x.2.1).reverse)) [] M = some r') (hcells : M.1.1 - n0 ≤ R.cells) (hslots : 10000 * (M.1.1 - n0) ≤ R.slots)
    (h : (match x.2.2.1 with
    | 0 => kk ls (st.drop x.2.1) (M.1, r'.2.2)
    | 1 => kk ls (.inl r'.1 :: st.drop x.2.1) (M.1, r'.2.2)
    | 2 => kk ls (.inr (.inl r'.1) :: st.drop x.2.1) (M.1, r'.2.2)
    | 3 => kk ls (.inr (.inr r'.1.toNat) :: st.drop x.2.1) (M.1, r'.2.2)
    | _ => kk ls (st.drop x.2.1) r'.2) = some r)
    (hk : ∀ st2, kk ls st2 M = some r → hh_G p l e R s m args below meth c Q ba oa v5 H locs (M.1.1 - n0) (10000 * (M.1.1 - n0)) (pc + 3) la st2) :
    hh_G p l e R s m args below meth c Q ba oa v5 H locs (M.1.1 - n0) (10000 * (M.1.1 - n0)) pc la st := by
  obtain ⟨⟨hx, hb, hml, hown, hini⟩, ⟨hT, hK, hO⟩, ⟨h0, h8⟩, ⟨hfr, hlo⟩, hLb⟩ := X
  have hts : ∀ w ∈ lw_g, w.before args s = true := hT.use
  have h5 := hO.2.2.2.2.2.1
  have hml2 : c.maxLocals = la.size := hml.trans hsz.symm
  have hlink := hts _ (mm_ok hmr hm)
  have hcat : ∀ rest : hh_Sk, hh_cat rest ≤ 8 → ((rest.map (hh_tv ba oa v5)).map fun v => v.category).sum + 13 ≤ R.locals := fun rest hr => by
    rw [hh_cat_sum h5]
    omega
  obtain ⟨x1, x2, x3, x4⟩ := x
  dsimp only at *
  rcases (show x1 = 272 ∨ x1 = 273 ∨ x1 = 274 ∨ x1 = 275 by omega) with rfl | rfl | rfl | rfl
  · obtain rfl : x2 = 1 := c4
    obtain rfl : x3 = 1 := c5
    match st, hs1 with
    | a :: st, hs1 =>
      obtain ⟨u, e1, e2, e3⟩ := mt_absI (hh_len1 hs1) hlay hE
      cases e1
      have hM : (M.1, r'.2.2) = M := by rw [e2]
      rw [hM] at h
      refine va_mabs hx rfl hml2 hown hlink (hts _ mc_272.2.1) (hts _ my_math) (hts _ mc_272.1) (by omega) (hcat _ hs2) hcells hslots hd ?_
      rw [e3]
      exact hk _ h
  · obtain rfl : x2 = 1 := c4
    obtain rfl : x3 = 2 := c5
    match st, hs1 with
    | a :: st, hs1 =>
      obtain ⟨u, e1, e2, e3⟩ := mt_absL (hh_len1 hs1) hE
      cases e1
      have hM : (M.1, r'.2.2) = M := by rw [e2]
      rw [hM] at h
      refine va_mabs_long hx rfl hml2 hown hlink (hts _ mc_273.2.1) (hts _ my_math) (hts _ mc_273.1) (by omega) (hcat _ hs2) hcells hslots hd ?_
      rw [e3]
      exact hk _ h
  · obtain rfl : x2 = 2 := c4
    obtain rfl : x3 = 1 := c5
    match st, hs1 with
    | a :: b :: st, hs1 =>
      obtain ⟨u, w, e1, e2, e3⟩ := mt_max (hh_len1 hs1) hlay hE
      cases e1
      have hM : (M.1, r'.2.2) = M := by rw [e2]
      rw [hM] at h
      refine va_mmax hx rfl hml2 hown hlink (hts _ mc_274.2.1) (hts _ my_math) (hts _ mc_274.1) (by omega) (hcat _ hs2) hcells hslots hd ?_
      rw [e3]
      exact hk _ h
  · obtain rfl : x2 = 2 := c4
    obtain rfl : x3 = 1 := c5
    match st, hs1 with
    | a :: b :: st, hs1 =>
      obtain ⟨u, w, e1, e2, e3⟩ := mt_min (hh_len1 hs1) hlay hE
      cases e1
      have hM : (M.1, r'.2.2) = M := by rw [e2]
      rw [hM] at h
      refine va_mmin hx rfl hml2 hown hlink (hts _ mc_275.2.1) (hts _ my_math) (hts _ mc_275.1) (by omega) (hcat _ hs2) hcells hslots hd ?_
      rw [e3]
      exact hk _ h
/-- a call: any -/
theorem sd_call {x : hh_Ex} {idx kd : Nat} {ins : Instr} (hins : (kd = 0 ∧ ins = .invokestatic idx) ∨ (kd = 1 ∧ ins = .invokevirtual idx) ∨ (kd = 2 ∧ ins = .invokespecial idx)) (X : hh_X p R s m meth c ba oa v5 cA L o1 o2 o4 D mi n0 d) (hd : decode c.code pc = .ok (ins, 3)) (hck : ck_c kd x = true) (hmr : (pg_cn mi, idx, x.1) ∈ pg_mr)
    (hL : hh_L ba oa v5 la ls) (hlen : ls.length = pg_l mi) (hR : hh_R ba oa v5 cA L o1 o2 o4 D M H) (hS : va_S (hh_A ba) s.heap H locs) (hn : n0 ≤ M.1.1)
    (hcells : r.2.1.1 - n0 ≤ R.cells) (hslots : 10000 * (r.2.1.1 - n0) ≤ R.slots) (hmono : ∀ ls st M2, kk ls st M2 = some r → M2.1.1 ≤ r.2.1.1) (hC : hh_Ca l ba oa v5 cA L o1 o2 o4 D C M d)
    (hrc : kd ≠ 0 → ∃ k, st.getD (x.2.1 - 1) (.inl 0) = .inr (.inr k) ∧ (hh_sh M k).1 = 20 + x.2.2.2) (h : s_call C x ls st M kk = some r)
    (hk : ∀ st2 M2 H2 locs2, kk ls st2 M2 = some r → hh_R ba oa v5 cA L o1 o2 o4 D M2 H2 → va_S (hh_A ba) s.heap H2 locs2 → n0 ≤ M2.1.1 → hh_G p l e R s m args below meth c Q ba oa v5 H2 locs2 (M2.1.1 - n0) (10000 * (M2.1.1 - n0)) (pc + 3) la st2) :
    hh_G p l e R s m args below meth c Q ba oa v5 H locs (M.1.1 - n0) (10000 * (M.1.1 - n0)) pc la st := by
  obtain ⟨hs1, hs2, r', hr', h⟩ := hh_call_in h
  obtain ⟨c1, c2, c3, c4, c5, c6⟩ := ck_c_ok hck
  obtain ⟨g1, g2, g3, ⟨dE, g4⟩, g5⟩ := hC _ _ _ hr' c1 c2
  have hna3 : x.2.2.1 ≤ 3 → r'.2.1 = M.1 := fun h3 => by
    split at c5
    · omega
    · exact g2 c5.2
  have hle := hh_mm g1 hna3 hmono h
  have hsz : la.size = pg_l mi := hL.1.trans hlen
  have X0 := X
  obtain ⟨⟨hx, hb, hml, hown, hini⟩, ⟨hT, hK, hO⟩, ⟨h0, h8⟩, ⟨hfr, hlo⟩, hLb⟩ := X
  have hts : ∀ w ∈ lw_g, w.before args s = true := hT.use
  have h5 := hO.2.2.2.2.2.1
  refine W.sizeg (fun hcz => ?_)
  have hHz := hh_size hR hS h0 h8 hn hcz
  by_cases hmath : 272 ≤ x.1 ∧ x.1 ≤ 275
  · have hkd0 : kd = 0 := by
      have e : (pg_y x.1).2.2.2.1 = 0 := by
        rcases (show x.1 = 272 ∨ x.1 = 273 ∨ x.1 = 274 ∨ x.1 = 275 by omega) with q | q | q | q <;> rw [q] <;> rfl
      rw [← c3, e]
    subst hkd0
    rw [if_neg (by decide)] at c5
    rw [if_pos rfl, Nat.add_zero] at c4
    obtain ⟨rfl⟩ : ins = .invokestatic idx := by
      rcases hins with ⟨-, q⟩ | ⟨q, -⟩ | ⟨q, -⟩
      · exact q
      · cases q
      · cases q
    have hMr : r'.2.1 = M.1 := g2 c5.2
    have hle2 : M.1.1 ≤ r.2.1.1 := by have q := hle; rw [hMr] at q; exact q
    exact sd_math X0 hd hmr hmath c4 c5.1 hsz hs1 hs2 g3 g4 (Nat.le_trans (Nat.sub_le_sub_right hle2 n0) hcells) (Nat.le_trans (Nat.mul_le_mul_left _ (Nat.sub_le_sub_right hle2 n0)) hslots) h (fun st2 h2 => hk _ _ _ _ h2 hR hS hn)
  · obtain ⟨d', hd', hM⟩ := g5 hmath
    have hy := my_ok x.1 c1 (by omega) (by omega) hmath
    have hc1 : (M.1.1 - n0) + (r'.2.1.1 - M.1.1) ≤ R.cells := by rw [hh_ar1 hn g1]; exact Nat.le_trans (Nat.sub_le_sub_right hle n0) hcells
    have hc2 : 10000 * (M.1.1 - n0) + 10000 * (r'.2.1.1 - M.1.1) ≤ R.slots := by rw [← Nat.mul_add, hh_ar1 hn g1]; exact Nat.le_trans (Nat.mul_le_mul_left _ (Nat.sub_le_sub_right hle n0)) hslots
    rcases hins with ⟨rfl, rfl⟩ | ⟨rfl, rfl⟩ | ⟨rfl, rfl⟩
    · exact sd_cont hck hn g1 g2 hS (sd_run0 X0 hd' hM hy (mr_ok hmr) c3 c4 hsz hd hs1 hs2 hR hS hHz hc1 hc2) h hk
    · obtain ⟨k, hk1, hk2⟩ := hrc (by decide)
      rcases c6 (by decide) with ⟨q1, q2⟩ | ⟨-, q1, q2⟩
      · obtain ⟨q, hq⟩ := cl_has _ q1
        rw [q2] at hk2
        obtain ⟨k8, cell, e1, e2, e3⟩ := hh_recv (locs := locs) hq hk2 hR hK
        refine sd_cont hck hn g1 g2 hS (sd_run1 X0 hd' hM hy (mr_ok hmr) c3 c4 hsz hd hs1 hs2 hR hS hHz hk1 (hh_rv_8 (by omega) (by omega)) ⟨cell, e1, e2, ?_⟩ hc1 hc2) h hk
        rw [pg_cn_ok _ c1 (by omega), ← cl_cls _ _ hq]
        exact e3
      · rw [q2] at hk2
        have k3 : k = 3 := hR.1.str hk2
        subst k3
        obtain ⟨cell, e1, e2, e3, e4⟩ := hO.2.2.2.2.2.2.1
        refine sd_cont hck hn g1 g2 hS (sd_run1 X0 hd' hM hy (mr_ok hmr) c3 c4 hsz hd hs1 hs2 hR hS hHz hk1 (hh_rv_8 (by decide) (by decide)) ⟨cell, ?_, e2, ?_⟩ hc1 hc2) h hk
        · have ea : hh_ad ba oa 3 = oa 3 := rfl
          rw [ea, hS.2.1 _ (Array.getElem?_eq_some_iff.mp e1).1 e4]
          exact e1
        · rw [pg_cn_ok _ c1 (by omega), q1]
          exact e3
    · obtain ⟨k, hk1, hk2⟩ := hrc (by decide)
      rcases c6 (by decide) with ⟨q1, q2⟩ | ⟨q0, -, -⟩
      · obtain ⟨q, hq⟩ := cl_has _ q1
        rw [q2] at hk2
        obtain ⟨k8, -⟩ := hh_recv (locs := locs) hq hk2 hR hK
        exact sd_cont hck hn g1 g2 hS (sd_run2 X0 hd' hM hy (mr_ok hmr) c3 c4 (hh_init_none _ (by omega) c3) hsz hd hs1 hs2 hR hS hHz hk1 (hh_rv_8 (by omega) (by omega)) hc1 hc2) h hk
      · cases q0
end
