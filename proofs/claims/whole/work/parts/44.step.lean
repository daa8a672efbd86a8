/-! the walk: one instruction -/
theorem cl_nm : ∀ (ci : Nat) (q : vw_C), vwCl[ci]? = some q → ∀ j, j < q.2.2 → (q.2.1 j).1 = cn_n ci
  | 0, _, h => (Option.some.inj h) ▸ (by decide +kernel : ∀ j, j < 7 → (TX0 j).1 = cn_n 0)
  | 1, _, h => (Option.some.inj h) ▸ (by decide +kernel : ∀ j, j < 8 → (TX1 j).1 = cn_n 1)
  | 2, _, h => (Option.some.inj h) ▸ (by decide +kernel : ∀ j, j < 8 → (TX2 j).1 = cn_n 2)
  | 3, _, h => (Option.some.inj h) ▸ (by decide +kernel : ∀ j, j < 3 → (TX3 j).1 = cn_n 3)
  | 4, _, h => (Option.some.inj h) ▸ (by decide +kernel : ∀ j, j < 6 → (TX4 j).1 = cn_n 4)
  | 5, _, h => (Option.some.inj h) ▸ (by decide +kernel : ∀ j, j < 6 → (TX5 j).1 = cn_n 5)
  | 6, _, h => (Option.some.inj h) ▸ (by decide +kernel : ∀ j, j < 8 → (TX6 j).1 = cn_n 6)
  | 7, _, h => (Option.some.inj h) ▸ (by decide +kernel : ∀ j, j < 5 → (TX7 j).1 = cn_n 7)
  | 8, _, h => (Option.some.inj h) ▸ (by decide +kernel : ∀ j, j < 2 → (TX8 j).1 = cn_n 8)
  | 9, _, h => (Option.some.inj h) ▸ (by decide +kernel : ∀ j, j < 17 → (TX10 j).1 = cn_n 9)
  | 10, _, h => (Option.some.inj h) ▸ (by decide +kernel : ∀ j, j < 73 → (TX11 j).1 = cn_n 10)
  | n + 11, q, h => by simp [vwCl] at h
theorem cl_cls : ∀ (ci : Nat) (q : vw_C), vwCl[ci]? = some q → q.1 = cn_n ci
  | 0, _, h => (Option.some.inj h) ▸ rfl
  | 1, _, h => (Option.some.inj h) ▸ rfl
  | 2, _, h => (Option.some.inj h) ▸ rfl
  | 3, _, h => (Option.some.inj h) ▸ rfl
  | 4, _, h => (Option.some.inj h) ▸ rfl
  | 5, _, h => (Option.some.inj h) ▸ rfl
  | 6, _, h => (Option.some.inj h) ▸ rfl
  | 7, _, h => (Option.some.inj h) ▸ rfl
  | 8, _, h => (Option.some.inj h) ▸ rfl
  | 9, _, h => (Option.some.inj h) ▸ rfl
  | 10, _, h => (Option.some.inj h) ▸ rfl
  | n + 11, q, h => by simp [vwCl] at h
theorem ck_f_ok {cn k : Nat} {x : hh_Ex} (h : ck_f cn k x = true) : pg_F[x.2.2.2]? = some (cn_n cn, k, x.1, x.2.1) := by
  unfold ck_f at h
  rw [Bool.and_eq_true, Nat.beq_eq] at h
  obtain ⟨h1, h2⟩ := h
  cases hf : pg_F[x.2.2.2]? with
  | none => rw [hf] at h2; cases h2
  | some f =>
    rw [hf] at h2
    simp only [Bool.and_eq_true, Nat.beq_eq] at h2
    obtain ⟨⟨h3, h4⟩, h5⟩ := h2
    have h6 : (pg_F.map (fun f => f.1))[x.2.2.2]? = some f.1 := by rw [List.getElem?_map, hf]; rfl
    rw [pg_FC_ok, List.getElem?_map] at h6
    cases hc : pg_FC[x.2.2.2]? with
    | none => rw [hc] at h6; cases h6
    | some a =>
      rw [hc] at h6
      rw [List.getD_eq_getElem?_getD, hc] at h1
      have h1 : a = cn := h1
      have h6 : cn_n a = f.1 := Option.some.inj h6
      rw [h1] at h6
      rw [h6, ← h3, ← h4, ← h5]
theorem ck_ts_ok {pcs : List Nat} {pc : Nat} {lo : Int} : ∀ {cs : List (Int × Nat)} {offs : List Int} {b : Nat}, ck_ts pcs pc lo b cs offs = true → ∀ (i : Nat) (q : Int × Nat), cs[i]? = some q → q.1 = lo + ((b + i : Nat) : Int) ∧ ∃ o, offs[i]? = some o ∧ (pc : Int) + o = (pcs.getD q.2 0 : Nat)
  | [], offs, b, _, i, q, h => by simp at h
  | _ :: _, [], b, h, _, _, _ => by simp [ck_ts] at h
  | a :: cs, o :: offs, b, h, i, q, hq => by
    simp only [ck_ts, Bool.and_eq_true, decide_eq_true_eq] at h
    obtain ⟨⟨h1, h2⟩, h3⟩ := h
    cases i with
    | zero =>
      cases hq
      exact ⟨h1, o, rfl, h2⟩
    | succ i =>
      obtain ⟨h4, o2, h5, h6⟩ := ck_ts_ok h3 i q hq
      refine ⟨?_, o2, h5, h6⟩
      rw [h4]
      omega
theorem ck_ls_ok {pcs : List Nat} {pc : Nat} : ∀ {cs : List (Int × Nat)} {ps : List (Int × Int)}, ck_ls pcs pc cs ps = true → ∀ (i : Nat) (q : Int × Nat), cs[i]? = some q → ∃ o, ps[i]? = some (q.1, o) ∧ (pc : Int) + o = (pcs.getD q.2 0 : Nat)
  | [], ps, _, i, q, h => by simp at h
  | _ :: _, [], h, _, _, _ => by simp [ck_ls] at h
  | a :: cs, o :: ps, h, i, q, hq => by
    simp only [ck_ls, Bool.and_eq_true, decide_eq_true_eq] at h
    obtain ⟨⟨h1, h2⟩, h3⟩ := h
    cases i with
    | zero =>
      cases hq
      exact ⟨o.2, by rw [h1]; rfl, h2⟩
    | succ i => exact ck_ls_ok h3 i q hq
theorem hh_dz {N : Nat} (k : ClassId) (f : Nat → Int) (hf : ∀ j, f j = 0) : (fun j => Int32.ofInt (f j)) = (fun _ : Nat => (0 : Int32)) ∧ (fun j => Int64.ofInt (f j)) = (fun _ : Nat => (0 : Int64)) := ⟨funext fun j => by rw [hf]; rfl, funext fun j => by rw [hf]; rfl⟩
def hh_ri (t : Nat) : Instr := match t with
  | 0 => .return_
  | 2 => .lreturn
  | 3 => .areturn
  | _ => .ireturn
section
variable {p : Program} {l : Launch} {e : Env} {R : Room} {s : State} {m : MethodId} {args : Array Value} {below : List Frame} {meth : Method} {c : Code} {H : Heap} {locs : List Loc} {Q : State → Prop}
variable {pc n : Nat} {la : Array Slot} {ba : Nat} {oa : Nat → Nat} {v5 : Value} {ls : hh_Lo} {st : hh_Sk} {M : hh_Mm} {r : hh_Rs} {kk : hh_Lo → hh_Sk → hh_Mm → Option hh_Rs} {F : Nat → hh_Lo → hh_Sk → hh_Mm → Option hh_Rs} {C : Nat → List hh_Av → hh_Mm → Option hh_Rs}
variable {cA : Nat → ClassId} {L : Nat} {o1 o2 o4 : Nat → Int} {D : va_G} {mi n0 d : Nat}
/-- new rows of numbers -/
theorem sd_newt {ex : hh_Ex} {t : ArrayType} (X : hh_X p R s m meth c ba oa v5 cA L o1 o2 o4 D mi n0 d) (hd : decode c.code pc = .ok (.newarray t, 2)) (hck : ck_x (pg_cn mi) (pg_y mi).2.2.2.1 (ck_rc (pg_y mi).2.2.1) (pg_PC.getD mi []) pc (.newarray t) ex = true) (hL : hh_L ba oa v5 la ls) (hR : hh_R ba oa v5 cA L o1 o2 o4 D M H) (hS : va_S (hh_A ba) s.heap H locs) (hn : n0 ≤ M.1.1)
    (hcells : r.2.1.1 - n0 ≤ R.cells) (hslots : 10000 * (r.2.1.1 - n0) ≤ R.slots) (hmono : ∀ ls st M2, kk ls st M2 = some r → M2.1.1 ≤ r.2.1.1) (h : s_newa ex.1 ls st M kk = some r)
    (hk : ∀ st2 M2 H2 locs2, kk ls st2 M2 = some r → hh_R ba oa v5 cA L o1 o2 o4 D M2 H2 → va_S (hh_A ba) s.heap H2 locs2 → M2.1.1 = M.1.1 + 1 → hh_G p l e R s m args below meth c Q ba oa v5 H2 locs2 (M.1.1 - n0 + 1) (10000 * (M.1.1 - n0) + 10000) (pc + 2) la st2) :
    hh_G p l e R s m args below meth c Q ba oa v5 H locs (M.1.1 - n0) (10000 * (M.1.1 - n0)) pc la st := by
  obtain ⟨⟨hx, hb, hml, hown, hini⟩, ⟨hT, hK, hO⟩, ⟨h0, h8⟩, ⟨hfr, hlo⟩, hLb⟩ := X
  have hts : ∀ w ∈ lw_g, w.before args s = true := hT.use
  unfold s_newa at h
  split at h
  next z st =>
    split at h
    next hz =>
      have hm := hmono _ _ _ h
      have hm : M.1.1 + 1 ≤ r.2.1.1 := hm
      have hbig : ∀ b : Nat, b ≤ 8 → z.toNat * b ≤ 536870912 := fun b hb8 => by
        have h1 : z.toNat < 10000 := by omega
        calc z.toNat * b ≤ 10000 * 8 := Nat.mul_le_mul (by omega) hb8
          _ ≤ 536870912 := by decide
      cases t <;> simp only [ck_x, Nat.beq_eq] at hck <;> first | (cases hck; done) | skip
      · rw [hck] at h
        refine sd_newa (t := 2) (N := z.toNat) (ty := .boolean) hx rfl hd hts hK (by decide) rfl ar_w.2.2.1 rfl (fun cl1 h1 h2 => Option.some.inj ((va_nm_boolean h1).symm.trans (va_nm_boolean h2))) (fun k f hf => ⟨fun _ => by rw [(hh_dz (N := 0) k f hf).1]; rfl, fun q => by cases q⟩) (hbig _ (by decide)) rfl h0 h8 hn (by omega) (by omega) hz hR hS (fun H2 locs2 h1 h2 => hk _ _ _ _ h h1 h2 rfl)
      · rw [hck] at h
        refine sd_newa (t := 1) (N := z.toNat) (ty := .byte) hx rfl hd hts hK (by decide) rfl ar_w.2.1 rfl (fun cl1 h1 h2 => Option.some.inj ((va_nm_byte h1).symm.trans (va_nm_byte h2))) (fun k f hf => ⟨fun _ => by rw [(hh_dz (N := 0) k f hf).1]; rfl, fun q => by cases q⟩) (hbig _ (by decide)) rfl h0 h8 hn (by omega) (by omega) hz hR hS (fun H2 locs2 h1 h2 => hk _ _ _ _ h h1 h2 rfl)
      · rw [hck] at h
        refine sd_newa (t := 0) (N := z.toNat) (ty := .int) hx rfl hd hts hK (by decide) rfl ar_w.1 rfl (fun cl1 h1 h2 => Option.some.inj ((va_nm_int h1).symm.trans (va_nm_int h2))) (fun k f hf => ⟨fun _ => by rw [(hh_dz (N := 0) k f hf).1]; rfl, fun q => by cases q⟩) (hbig _ (by decide)) rfl h0 h8 hn (by omega) (by omega) hz hR hS (fun H2 locs2 h1 h2 => hk _ _ _ _ h h1 h2 rfl)
      · rw [hck] at h
        refine sd_newa (t := 3) (N := z.toNat) (ty := .long) hx rfl hd hts hK (by decide) rfl ar_w.2.2.2 rfl (fun cl1 h1 h2 => Option.some.inj ((va_nm_long h1).symm.trans (va_nm_long h2))) (fun k f hf => ⟨fun q => by omega, fun _ => by rw [(hh_dz (N := 0) k f hf).2]; rfl⟩) (hbig _ (by decide)) rfl h0 h8 hn (by omega) (by omega) hz hR hS (fun H2 locs2 h1 h2 => hk _ _ _ _ h h1 h2 rfl)
    · cases h
  · cases h
/-- new rows of objects -/
theorem sd_newu {ex : hh_Ex} {idx : Nat} (X : hh_X p R s m meth c ba oa v5 cA L o1 o2 o4 D mi n0 d) (hd : decode c.code pc = .ok (.anewarray idx, 3)) (hck : ck_x (pg_cn mi) (pg_y mi).2.2.2.1 (ck_rc (pg_y mi).2.2.1) (pg_PC.getD mi []) pc (.anewarray idx) ex = true) (hL : hh_L ba oa v5 la ls) (hR : hh_R ba oa v5 cA L o1 o2 o4 D M H) (hS : va_S (hh_A ba) s.heap H locs) (hn : n0 ≤ M.1.1)
    (hcells : r.2.1.1 - n0 ≤ R.cells) (hslots : 10000 * (r.2.1.1 - n0) ≤ R.slots) (hmono : ∀ ls st M2, kk ls st M2 = some r → M2.1.1 ≤ r.2.1.1) (h : s_newa (4 + ex.1) ls st M kk = some r)
    (hk : ∀ st2 M2 H2 locs2, kk ls st2 M2 = some r → hh_R ba oa v5 cA L o1 o2 o4 D M2 H2 → va_S (hh_A ba) s.heap H2 locs2 → M2.1.1 = M.1.1 + 1 → hh_G p l e R s m args below meth c Q ba oa v5 H2 locs2 (M.1.1 - n0 + 1) (10000 * (M.1.1 - n0) + 10000) (pc + 3) la st2) :
    hh_G p l e R s m args below meth c Q ba oa v5 H locs (M.1.1 - n0) (10000 * (M.1.1 - n0)) pc la st := by
  obtain ⟨⟨hx, hb, hml, hown, hini⟩, ⟨hT, hK, hO⟩, ⟨h0, h8⟩, ⟨hfr, hlo⟩, hLb⟩ := X
  have hts : ∀ w ∈ lw_g, w.before args s = true := hT.use
  simp only [ck_x, Bool.and_eq_true, Bool.or_eq_true, Nat.beq_eq] at hck
  obtain ⟨hl, hci⟩ := hck
  obtain ⟨q, hq, hl⟩ := nl_ok (lk3_mem hl)
  dsimp only at hq hl
  unfold s_newa at h
  split at h
  next z st =>
    split at h
    next hz =>
      have hm := hmono _ _ _ h
      have hm : M.1.1 + 1 ≤ r.2.1.1 := hm
      rcases hci with ((hci | hci) | hci) | hci <;> rw [hci] at h hq <;> cases hq
      · exact sd_newq (ci := 0) (t0 := 4) hx rfl hd hts hown hK (by omega) rfl hl ao_w.1 h0 h8 hn (by omega) (by omega) hz hR hS (fun H2 locs2 h1 h2 => hk _ _ _ _ h h1 h2 rfl)
      · exact sd_newq (ci := 1) (t0 := 5) hx rfl hd hts hown hK (by omega) rfl hl ao_w.2.1 h0 h8 hn (by omega) (by omega) hz hR hS (fun H2 locs2 h1 h2 => hk _ _ _ _ h h1 h2 rfl)
      · exact sd_newq (ci := 4) (t0 := 6) hx rfl hd hts hown hK (by omega) rfl hl ao_w.2.2.1 h0 h8 hn (by omega) (by omega) hz hR hS (fun H2 locs2 h1 h2 => hk _ _ _ _ h h1 h2 rfl)
      · exact sd_newq (ci := 6) (t0 := 7) hx rfl hd hts hown hK (by omega) rfl hl ao_w.2.2.2 h0 h8 hn (by omega) (by omega) hz hR hS (fun H2 locs2 h1 h2 => hk _ _ _ _ h h1 h2 rfl)
    · cases h
  · cases h
end
