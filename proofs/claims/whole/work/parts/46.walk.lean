/-! the walk: one instruction, any -/
section
variable {p : Program} {l : Launch} {e : Env} {R : Room} {s : State} {m : MethodId} {args : Array Value} {below : List Frame} {meth : Method} {c : Code} {H : Heap} {locs : List Loc} {Q : State → Prop}
variable {n : Nat} {la : Array Slot} {ba : Nat} {oa : Nat → Nat} {v5 : Value} {ls : hh_Lo} {st : hh_Sk} {M : hh_Mm} {r : hh_Rs} {kk : hh_Lo → hh_Sk → hh_Mm → Option hh_Rs} {F : Nat → hh_Lo → hh_Sk → hh_Mm → Option hh_Rs} {C : Nat → List hh_Av → hh_Mm → Option hh_Rs}
variable {cA : Nat → ClassId} {L : Nat} {o1 o2 o4 : Nat → Int} {D : va_G} {mi n0 d : Nat}
/-- what a return leads to -/
def hh_Rt (p : Program) (l : Launch) (e : Env) (R : Room) (s : State) (m : MethodId) (args : Array Value) (below : List Frame) (meth : Method) (c : Code) (Q : State → Prop) (ba : Nat) (oa : Nat → Nat) (v5 : Value) (cA : Nat → ClassId) (L : Nat) (o1 o2 o4 : Nat → Int) (D : va_G) (mi n0 : Nat) (r : hh_Rs) : Prop :=
  ∀ (H2 : Heap) (locs2 : List Loc) (pc : Nat) (la2 : Array Slot) (st2 : hh_Sk) (M2 : hh_Mm), s_ret (ck_rc (pg_y mi).2.2.1) st2 M2 = some r → decode c.code pc = .ok (hh_ri (ck_rc (pg_y mi).2.2.1), 1) → hh_R ba oa v5 cA L o1 o2 o4 D M2 H2 → va_S (hh_A ba) s.heap H2 locs2 → n0 ≤ M2.1.1 → hh_G p l e R s m args below meth c Q ba oa v5 H2 locs2 (M2.1.1 - n0) (10000 * (M2.1.1 - n0)) pc la2 st2
set_option maxHeartbeats 4000000 in
theorem sd_stp {pc : Nat} {i : Instr} {ex : hh_Ex} (X : hh_X p R s m meth c ba oa v5 cA L o1 o2 o4 D mi n0 d) (hd : decode c.code pc = .ok (i, n)) (hck : ck_x (pg_cn mi) (pg_y mi).2.2.2.1 (ck_rc (pg_y mi).2.2.1) (pg_PC.getD mi []) pc i ex = true) (hcn : ck_n i = 0 ∨ n = ck_n i)
    (hL : hh_L ba oa v5 la ls) (hlen : ls.length = pg_l mi) (hR : hh_R ba oa v5 cA L o1 o2 o4 D M H) (hS : va_S (hh_A ba) s.heap H locs) (hn : n0 ≤ M.1.1)
    (hcells : r.2.1.1 - n0 ≤ R.cells) (hslots : 10000 * (r.2.1.1 - n0) ≤ R.slots) (hmono : ∀ ls st M2, kk ls st M2 = some r → M2.1.1 ≤ r.2.1.1) (hC : hh_Ca l ba oa v5 cA L o1 o2 o4 D C M d)
    (hret : hh_Rt p l e R s m args below meth c Q ba oa v5 cA L o1 o2 o4 D mi n0 r) (h : hh_stp pg_KI pg_KS F C (pc, i, ex) ls st M kk = some r)
    (hF : ∀ b st2, F b ls st2 M = some r → hh_G p l e R s m args below meth c Q ba oa v5 H locs (M.1.1 - n0) (10000 * (M.1.1 - n0)) (pg_p mi b) la st2)
    (hk : ck_end i = false → ∀ ls2 st2 M2 la2 H2 locs2, kk ls2 st2 M2 = some r → hh_L ba oa v5 la2 ls2 → hh_R ba oa v5 cA L o1 o2 o4 D M2 H2 → va_S (hh_A ba) s.heap H2 locs2 → n0 ≤ M2.1.1 → hh_G p l e R s m args below meth c Q ba oa v5 H2 locs2 (M2.1.1 - n0) (10000 * (M2.1.1 - n0)) (pc + n) la2 st2) :
    hh_G p l e R s m args below meth c Q ba oa v5 H locs (M.1.1 - n0) (10000 * (M.1.1 - n0)) pc la st := by
  have X0 := X
  obtain ⟨⟨hx, hb, hml, hown, hini⟩, ⟨hT, hK, hO⟩, ⟨h0, h8⟩, ⟨hfr, hlo⟩, hLb⟩ := X
  have hts : ∀ w ∈ lw_g, w.before args s = true := hT.use
  have h5 := hO.2.2.2.2.2.1
  have k1 : ck_end i = false → ∀ ls2 st2 la2, kk ls2 st2 M = some r → hh_L ba oa v5 la2 ls2 → hh_G p l e R s m args below meth c Q ba oa v5 H locs (M.1.1 - n0) (10000 * (M.1.1 - n0)) (pc + n) la2 st2 := fun q ls2 st2 la2 h1 h2 => hk q _ _ _ _ _ _ h1 h2 hR hS hn
  have k2 : ck_end i = false → ∀ st2 M2 H2 locs2, kk ls st2 M2 = some r → hh_R ba oa v5 cA L o1 o2 o4 D M2 H2 → va_S (hh_A ba) s.heap H2 locs2 → M2.1.1 = M.1.1 → hh_G p l e R s m args below meth c Q ba oa v5 H2 locs2 (M.1.1 - n0) (10000 * (M.1.1 - n0)) (pc + n) la st2 := fun q st2 M2 H2 locs2 h1 h2 h3 h4 => by
    rw [← h4]
    exact hk q _ _ _ _ _ _ h1 hL h2 h3 (by rw [h4]; exact hn)
  have k3 : ck_end i = false → ∀ st2 M2 H2 locs2, kk ls st2 M2 = some r → hh_R ba oa v5 cA L o1 o2 o4 D M2 H2 → va_S (hh_A ba) s.heap H2 locs2 → M2.1.1 = M.1.1 + 1 → hh_G p l e R s m args below meth c Q ba oa v5 H2 locs2 (M.1.1 - n0 + 1) (10000 * (M.1.1 - n0) + 10000) (pc + n) la st2 := fun q st2 M2 H2 locs2 h1 h2 h3 h4 => by
    have q1 : M.1.1 - n0 + 1 = M2.1.1 - n0 := by rw [h4]; exact (Nat.sub_add_comm hn).symm
    have q2 : 10000 * (M.1.1 - n0) + 10000 = 10000 * (M2.1.1 - n0) := by rw [← q1, Nat.mul_add]
    rw [q1, q2]
    exact hk q _ _ _ _ _ _ h1 hL h2 h3 (by rw [h4]; exact Nat.le_succ_of_le hn)
  have k4 : ck_end i = false → ∀ st2 M2 H2 locs2, kk ls st2 M2 = some r → hh_R ba oa v5 cA L o1 o2 o4 D M2 H2 → va_S (hh_A ba) s.heap H2 locs2 → n0 ≤ M2.1.1 → hh_G p l e R s m args below meth c Q ba oa v5 H2 locs2 (M2.1.1 - n0) (10000 * (M2.1.1 - n0)) (pc + n) la st2 := fun q st2 M2 H2 locs2 h1 h2 h3 h4 => hk q _ _ _ _ _ _ h1 hL h2 h3 h4
  cases i
  case tableswitch df lo hi offs =>
    simp only [ck_x, Bool.and_eq_true, decide_eq_true_eq, Nat.beq_eq] at hck
    obtain ⟨⟨⟨q1, q2⟩, q3⟩, q4⟩ := hck
    refine sd_tsw (pcs := pg_p mi) hx rfl hd q1 q2 q3 (fun i q hq => ?_) h hF
    obtain ⟨e1, o, e2, e3⟩ := ck_ts_ok q4 i q hq
    rw [Nat.zero_add] at e1
    exact ⟨e1, o, by rw [← Array.getElem?_toList]; exact e2, e3⟩
  case lookupswitch df ps =>
    simp only [ck_x, Bool.and_eq_true, decide_eq_true_eq, Nat.beq_eq] at hck
    obtain ⟨⟨⟨q1, q2⟩, q3⟩, q4⟩ := hck
    exact sd_lsw (pcs := pg_p mi) hx rfl hd q1 q2 q3 (fun i q hq => ck_ls_ok q4 i q hq) h hF
  all_goals (rcases hcn with hcn | rfl)
  all_goals first
    | (cases h; done)
    | (cases hcn; done)
    | skip
  case iconst.inr z => exact sd_pu (v := .inl z) hL h (lv_iconst hx rfl hd rfl) (k1 rfl)
  case bipush.inr z => exact sd_pu (v := .inl z) hL h (lv_bipush hx rfl hd (n_bip hck)) (k1 rfl)
  case sipush.inr z => exact sd_pu (v := .inl z) hL h (lv_sipush hx rfl hd (n_sip hck)) (k1 rfl)
  case lconst.inr z => exact sd_pu (v := .inr (.inl (z.val : Int))) hL h (lv_lconst hx rfl hd (n_lc z)) (k1 rfl)
  case ldc.inr idx =>
    simp only [hh_stp] at h
    simp only [ck_x] at hck
    split at h
    next e1 =>
      rw [e1] at hck
      exact sd_pu (v := .inl _) hL h (lv_ldc hx rfl hown (hts _ (kc_ok (lkz_mem hck))) hd) (k1 rfl)
    next e1 =>
      split at hck
      next e2 => exact absurd e2 e1
      next =>
        rw [Bool.and_eq_true, Nat.beq_eq, Nat.beq_eq] at hck
        obtain ⟨q1, rfl⟩ := hck
        have hZ := hO.2.2.2.2.2.2.2.2.2.2
        rw [q1] at hown
        exact sd_pu (v := .inr (.inr 3)) hL h (va_ldcS hx rfl hown hZ hd) (k1 rfl)
  case ldc_w.inr idx => exact sd_pu (v := .inl _) hL h (lv_ldcw hx rfl hown (hts _ (kc_ok (lkz_mem hck))) hd) (k1 rfl)
  case ldc2_w.inr idx => exact sd_pu (v := .inr (.inl _)) hL h (lv_ldc2 hx rfl hown (hts _ (kl_ok (lkz_mem hck))) hd) (k1 rfl)
  case iload.inr j => exact sd_ld hL h (fun v hv q0 q1 q2 kk2 => by obtain ⟨z, rfl⟩ := q0 rfl; exact lv_iload hx rfl hd hv kk2) h5 (k1 rfl)
  case iload_n.inr j => exact sd_ld hL h (fun v hv q0 q1 q2 kk2 => by obtain ⟨z, rfl⟩ := q0 rfl; exact lv_iload_n hx rfl hd rfl hv kk2) h5 (k1 rfl)
  case lload.inr j => exact sd_ld hL h (fun v hv q0 q1 q2 kk2 => by obtain ⟨z, rfl⟩ := q1 rfl; exact lv_lload hx rfl hd hv kk2) h5 (k1 rfl)
  case lload_n.inr j => exact sd_ld hL h (fun v hv q0 q1 q2 kk2 => by obtain ⟨z, rfl⟩ := q1 rfl; exact lv_lload_n hx rfl hd rfl hv kk2) h5 (k1 rfl)
  case aload.inr j => exact sd_ld hL h (fun v hv q0 q1 q2 kk2 => by
    rcases q2 rfl with rfl | ⟨z, rfl⟩
    · exact lv_aloadN hx rfl hd hv kk2
    · exact lv_aload hx rfl hd hv kk2) h5 (k1 rfl)
  case aload_n.inr j => exact sd_ld hL h (fun v hv q0 q1 q2 kk2 => by
    rcases q2 rfl with rfl | ⟨z, rfl⟩
    · exact lv_aload_nN hx rfl hd rfl hv kk2
    · exact lv_aload_n hx rfl hd rfl hv kk2) h5 (k1 rfl)
  case istore.inr j => exact sd_sto0 h5 hL h (fun x rest lv' hi e2 k => lv_istore hx rfl hd hL.has hi e2 k) (k1 rfl)
  case istore_n.inr j => exact sd_sto0 h5 hL h (fun x rest lv' hi e2 k => lv_istore_n hx rfl hd rfl hL.has hi e2 k) (k1 rfl)
  case lstore.inr j => exact sd_sto1 h5 hL h (fun x rest lv' hi e2 k => lv_lstore hx rfl hd hL.has hi e2 k) (k1 rfl)
  case lstore_n.inr j => exact sd_sto1 h5 hL h (fun x rest lv' hi e2 k => lv_lstore_n hx rfl hd rfl hL.has hi e2 k) (k1 rfl)
  case astore.inr j => exact sd_sto2 h5 hL h (fun x rest lv' hv hi e2 k => by
    rcases hv with rfl | ⟨q, rfl⟩
    · exact lv_astoreN hx rfl hd hL.has hi e2 k
    · exact lv_astore hx rfl hd hL.has hi e2 k) (k1 rfl)
  case astore_n.inr j => exact sd_sto2 h5 hL h (fun x rest lv' hv hi e2 k => by
    rcases hv with rfl | ⟨q, rfl⟩
    · exact lv_astore_nN hx rfl hd rfl hL.has hi e2 k
    · exact lv_astore_n hx rfl hd rfl hL.has hi e2 k) (k1 rfl)
  case iinc.inr j z => exact sd_iinc h5 hx rfl hd hL h (k1 rfl)
  case iadd.inr => exact sd_ii n_add hL h (fun x y rest k => lv_iadd hx rfl hd k) (k1 rfl)
  case isub.inr => exact sd_ii n_sub hL h (fun x y rest k => lv_isub hx rfl hd k) (k1 rfl)
  case imul.inr => exact sd_ii n_mul hL h (fun x y rest k => lv_imul hx rfl hd k) (k1 rfl)
  case iand.inr => exact sd_ii n_and hL h (fun x y rest k => lv_iand hx rfl hd k) (k1 rfl)
  case ior.inr => exact sd_ii n_or hL h (fun x y rest k => lv_ior hx rfl hd k) (k1 rfl)
  case ixor.inr => exact sd_ii n_xor hL h (fun x y rest k => lv_ixor hx rfl hd k) (k1 rfl)
  case ishl.inr => exact sd_ii n_shl hL h (fun x y rest k => lv_ishl hx rfl hd k) (k1 rfl)
  case ishr.inr => exact sd_ii n_shr hL h (fun x y rest k => lv_ishr hx rfl hd k) (k1 rfl)
  case iushr.inr => exact sd_ii (g := fun a b => (a.toUInt32 >>> (b.toUInt32 &&& Int32.toUInt32 31)).toInt32) n_ushr hL h (fun x y rest k => lv_iushr hx rfl hd rfl k) (k1 rfl)
  case idiv.inr => exact sd_idiv n_div hL h (fun x y rest hne k => lv_idiv hx rfl hd hne k) (k1 rfl)
  case irem.inr => exact sd_idiv (g := fun a b => a - a / b * b) n_rem hL h (fun x y rest hne k => lv_irem hx rfl hd hne k) (k1 rfl)
  case ineg.inr => exact sd_i n_neg hL h (fun x rest k => lv_ineg hx rfl hd k) (k1 rfl)
  case i2b.inr => exact sd_i (g := fun a => a.toInt8.toInt32) n_i2b hL h (fun x rest k => lv_i2b hx rfl hd rfl k) (k1 rfl)
  case i2c.inr => exact sd_i (g := fun a => (a.toUInt32 % 65536).toInt32) n_i2c hL h (fun x rest k => lv_i2c hx rfl hd rfl k) (k1 rfl)
  case i2l.inr => exact sd_il hx rfl hd hL h (k1 rfl)
  case l2i.inr => exact sd_l2i hx rfl hd hL h (k1 rfl)
  case ladd.inr => exact sd_ll n_ladd hL h (fun x y rest k => lv_ladd hx rfl hd k) (k1 rfl)
  case lsub.inr => exact sd_ll n_lsub hL h (fun x y rest k => lv_lsub hx rfl hd k) (k1 rfl)
  case lmul.inr => exact sd_ll n_lmul hL h (fun x y rest k => lv_lmul hx rfl hd k) (k1 rfl)
  case land.inr => exact sd_ll n_land hL h (fun x y rest k => lv_land hx rfl hd k) (k1 rfl)
  case lor.inr => exact sd_ll n_lor hL h (fun x y rest k => lv_lor hx rfl hd k) (k1 rfl)
  case lxor.inr => exact sd_ll n_lxor hL h (fun x y rest k => lv_lxor hx rfl hd k) (k1 rfl)
  case lshl.inr => exact sd_li (g := fun a b => a <<< (b.toInt64 &&& 63)) n_lshl hL h (fun x y rest k => lv_lshl hx rfl hd rfl k) (k1 rfl)
  case lushr.inr => exact sd_li (g := fun a b => (a.toUInt64 >>> (b.toInt64.toUInt64 &&& Int64.toUInt64 63)).toInt64) n_lushr hL h (fun x y rest k => lv_lushr hx rfl hd rfl k) (k1 rfl)
  case ldiv.inr => exact sd_ldiv n_ldiv hL h (fun x y rest hne k => lv_ldiv hx rfl hd hne k) (k1 rfl)
  case lrem.inr => exact sd_ldiv (g := fun a b => a - a / b * b) n_lrem hL h (fun x y rest hne k => lv_lrem hx rfl hd hne k) (k1 rfl)
  case lneg.inr => exact sd_lneg hx rfl hd hL h (k1 rfl)
  case lcmp.inr => exact sd_lcmp hx rfl hd hL h (k1 rfl)
  case dup.inr => exact sd_dup h5 hx rfl hd hL h (k1 rfl)
  case dup2.inr => exact sd_dup2 h5 hx rfl hd hL h (k1 rfl)
  case pop.inr => exact sd_pop h5 hx rfl hd hL h (k1 rfl)
  case getfield.inr idx =>
    simp only [ck_x, Bool.and_eq_true] at hck
    obtain ⟨q1, q2⟩ := hck
    refine sd_get hx rfl hd hts hown hK hO (ck_f_ok q1) (fun hlt => ?_) (fun h70 => ?_) hL hR hS h (k1 rfl)
    · rw [if_pos hlt, Nat.beq_eq] at q2
      exact q2
    · rw [if_neg (by rw [h70]; decide), Bool.and_eq_true, Nat.beq_eq, Nat.beq_eq] at q2
      exact q2.2
  case putfield.inr idx =>
    simp only [ck_x, Bool.and_eq_true, Nat.beq_eq] at hck
    obtain ⟨⟨⟨q1, q2⟩, q3⟩, q4⟩ := hck
    have q2 : ex.1 < 11 := Nat.le_of_ble_eq_true (show Nat.ble (ex.1 + 1) 11 = true from q2)
    refine sd_put h5 hx rfl hd hts hown hK (ck_f_ok q1) q2 q3 (fun h3 => ?_) hL hR hS h (k2 rfl)
    rw [if_pos h3, Bool.and_eq_true, Bool.and_eq_true, Nat.beq_eq, Nat.beq_eq] at q4
    obtain ⟨⟨q5, q6⟩, q7⟩ := q4
    have q7 : ex.2.1 < (hh_FY.getD ex.1 []).length := Nat.le_of_ble_eq_true (show Nat.ble (ex.2.1 + 1) _ = true from q7)
    refine ⟨hini q5, fun q hq => ?_⟩
    rw [← q6]
    exact cl_nm _ _ hq _ (by rw [(cl_ok _ _ hq).2.2.2.2.2]; exact q7)
  case getstatic.inr idx =>
    have hg : gs_P (cn_n (pg_cn mi)) idx ex.1 := gt_ok (lk3_mem hck)
    obtain ⟨x1, x2⟩ := ex
    match x1, hg, h with
    | 0, hg, h => exact sd_gets (k := 0) hx rfl hd hts hown hO hg hL hS h (k1 rfl)
    | 1, hg, h => exact sd_gets (k := 1) hx rfl hd hts hown hO hg hL hS h (k1 rfl)
    | x1 + 2, hg, h => exact sd_gets (k := x1 + 2) hx rfl hd hts hown hO hg hL hS h (k1 rfl)
  case iaload.inr => exact sd_iald hx rfl hd hK hO hLb hL hR hS h (k1 rfl)
  case baload.inr =>
    simp only [ck_x, Bool.or_eq_true, Nat.beq_eq] at hck
    have h : s_ald ex.1 ls st M kk = some r := h
    rcases hck with q | q <;> rw [q] at h
    · exact sd_bald hx rfl hd hK hO hLb hL hR hS h (k1 rfl)
    · exact sd_zald hx rfl hd hK hLb hL hR hS h (k1 rfl)
  case laload.inr => exact sd_lald hx rfl hd hK hO hLb hL hR hS h (k1 rfl)
  case aaload.inr =>
    simp only [ck_x, Bool.or_eq_true, Nat.beq_eq] at hck
    have h : s_aald ex.1 ls st M kk = some r := h
    rcases hck with ((q | q) | q) | q <;> rw [q] at h
    · exact sd_aald (ci := 0) (t0 := 4) h5 hx rfl hd hK hLb (by decide) rfl hL hR hS h (k1 rfl)
    · exact sd_aald (ci := 1) (t0 := 5) h5 hx rfl hd hK hLb (by decide) rfl hL hR hS h (k1 rfl)
    · exact sd_aald (ci := 4) (t0 := 6) h5 hx rfl hd hK hLb (by decide) rfl hL hR hS h (k1 rfl)
    · exact sd_aald (ci := 6) (t0 := 7) h5 hx rfl hd hK hLb (by decide) rfl hL hR hS h (k1 rfl)
  case iastore.inr => exact sd_iast hx rfl hd hK hLb hR hS h (k2 rfl)
  case bastore.inr =>
    simp only [ck_x, Bool.or_eq_true, Nat.beq_eq] at hck
    have h : s_ast ex.1 ls st M kk = some r := h
    rcases hck with q | q <;> rw [q] at h
    · exact sd_bast hx rfl hd hK hLb hR hS h (k2 rfl)
    · exact sd_zast hx rfl hd hK hLb hR hS h (k2 rfl)
  case lastore.inr => exact sd_last hx rfl hd hK hLb hR hS h (k2 rfl)
  case aastore.inr =>
    simp only [ck_x, Bool.or_eq_true, Nat.beq_eq] at hck
    have h : s_aast ex.1 ls st M kk = some r := h
    rcases hck with ((q | q) | q) | q <;> rw [q] at h
    · exact sd_aast (ci := 0) (t0 := 4) hx rfl hd hK hLb (by decide) rfl rfl hR hS h (k2 rfl)
    · exact sd_aast (ci := 1) (t0 := 5) hx rfl hd hK hLb (by decide) rfl rfl hR hS h (k2 rfl)
    · exact sd_aast (ci := 4) (t0 := 6) hx rfl hd hK hLb (by decide) rfl rfl hR hS h (k2 rfl)
    · exact sd_aast (ci := 6) (t0 := 7) hx rfl hd hK hLb (by decide) rfl rfl hR hS h (k2 rfl)
  case arraylength.inr => exact sd_alen hx rfl hd hK hO hL hR hS h (k1 rfl)
  case new.inr idx =>
    simp only [ck_x, Bool.and_eq_true, Nat.beq_eq] at hck
    obtain ⟨⟨q1, q2⟩, q3⟩ := hck
    have q2 : ex.1 < 11 := Nat.le_of_ble_eq_true (show Nat.ble (ex.1 + 1) 11 = true from q2)
    obtain ⟨q, hq, hl⟩ := nl_ok (lk3_mem q1)
    have hm : M.1.1 + 1 ≤ r.2.1.1 := hmono _ _ _ h
    have hc1 : M.1.1 - n0 + 1 ≤ R.cells := Nat.le_trans (by rw [← Nat.sub_add_comm hn]; exact Nat.sub_le_sub_right hm n0) hcells
    have hc2 : 10000 * (M.1.1 - n0) + 10000 ≤ R.slots := Nat.le_trans (by rw [← Nat.mul_succ]; exact Nat.mul_le_mul_left _ (by rw [Nat.succ_eq_add_one, ← Nat.sub_add_comm hn]; exact Nat.sub_le_sub_right hm n0)) hslots
    exact sd_new hx rfl hd hts hown hK q2 hq (q3.trans (cl_ok _ _ hq).2.2.2.2.2.symm) hl h0 h8 hn hc1 hc2 hL hR hS h (k3 rfl)
  case newarray.inr t => exact sd_newt X0 hd hck hL hR hS hn hcells hslots hmono h (k3 rfl)
  case anewarray.inr idx => exact sd_newu X0 hd hck hL hR hS hn hcells hslots hmono h (k3 rfl)
  case ifCond.inr cd o => exact sd_ifc hx rfl hd (of_decide_eq_true hck) hL h (hF _) (k1 rfl)
  case if_icmp.inr cd o => exact sd_icmp hx rfl hd (of_decide_eq_true hck) hL h (hF _) (k1 rfl)
  case goto.inr o => exact lv_goto hx rfl hd (of_decide_eq_true hck) (hF _ _ h)
  case ireturn.inr =>
    simp only [ck_x, Bool.and_eq_true, Bool.or_eq_true, Nat.beq_eq] at hck
    obtain ⟨q1, q2⟩ := hck
    have h : s_ret ex.1 st M = some r := h
    rw [q1] at h
    refine hret _ _ _ _ _ _ h ?_ hR hS hn
    rcases q2 with (q | q) | q <;> rw [q] <;> exact hd
  case lreturn.inr =>
    simp only [ck_x, Nat.beq_eq] at hck
    have h : s_ret 2 st M = some r := h
    rw [← hck] at h
    refine hret _ _ _ _ _ _ h ?_ hR hS hn
    rw [hck]
    exact hd
  case areturn.inr =>
    simp only [ck_x, Nat.beq_eq] at hck
    have h : s_ret 3 st M = some r := h
    rw [← hck] at h
    refine hret _ _ _ _ _ _ h ?_ hR hS hn
    rw [hck]
    exact hd
  case return_.inr =>
    simp only [ck_x, Nat.beq_eq] at hck
    have h : s_ret 0 st M = some r := h
    rw [← hck] at h
    refine hret _ _ _ _ _ _ h ?_ hR hS hn
    rw [hck]
    exact hd
  case invokevirtual.inr idx =>
    simp only [ck_x, Bool.and_eq_true] at hck
    have h : s_recv ex st M (s_call C ex ls st M kk) = some r := h
    unfold s_recv at h
    split at h
    next k hk1 =>
      split at h
      next hk2 => exact sd_call (Or.inr (Or.inl ⟨rfl, rfl⟩)) X0 hd hck.2 (lk3_mem hck.1) hL hlen hR hS hn hcells hslots hmono hC (fun _ => ⟨k, hk1, hk2⟩) h (k4 rfl)
      · cases h
    · cases h
  case invokespecial.inr idx =>
    simp only [hh_stp] at h
    simp only [ck_x] at hck
    split at h
    next e1 =>
      rw [e1] at hck
      unfold s_oi at h
      split at h
      next k st =>
        split at h
        next hk8 =>
          have hsz : la.size = c.maxLocals := hL.1.trans (hlen.trans hml.symm)
          refine W.eq (g2 := F0 m pc la (.ref (hh_ad ba oa k) :: st.map (hh_tv ba oa v5))) (by rw [List.map_cons, hh_tv_8 hk8.1]) ?_
          refine W.objInit hx rfl hown (hts _ (oi_ok (lk2_mem hck))) (hts _ oi_w.1) (hts _ oi_w.2) rfl hsz rfl hd (by omega) ?_ ?_
          · show 2 * 0 + _ + 12 ≤ _
            rw [hh_cat_sum h5]
            omega
          · exact k1 rfl _ _ _ h hL
        · cases h
      · cases h
    next e1 =>
      split at hck
      next e2 => exact absurd e2 e1
      next =>
        rw [Bool.and_eq_true] at hck
        unfold s_recv at h
        split at h
        next k hk1 =>
          split at h
          next hk2 => exact sd_call (Or.inr (Or.inr ⟨rfl, rfl⟩)) X0 hd hck.2 (lk3_mem hck.1) hL hlen hR hS hn hcells hslots hmono hC (fun _ => ⟨k, hk1, hk2⟩) h (k4 rfl)
          · cases h
        · cases h
  case invokestatic.inr idx =>
    simp only [hh_stp] at h
    simp only [ck_x] at hck
    split at h
    next e1 =>
      rw [e1] at hck
      have hsz : c.maxLocals = la.size := hml.trans (hL.1.trans hlen).symm
      exact sd_cpy h5 hx rfl hsz hd hts hown hK hLb (ac_ok (lk2_mem hck)) ac_w.1 ac_w.2.1 ac_w.2.2 (by omega) (by omega) hL hR hS h (k2 rfl)
    next e1 =>
      split at hck
      next e2 => exact absurd e2 e1
      next =>
        rw [Bool.and_eq_true] at hck
        exact sd_call (Or.inl ⟨rfl, rfl⟩) X0 hd hck.2 (lk3_mem hck.1) hL hlen hR hS hn hcells hslots hmono hC (fun q => absurd rfl q) h (k4 rfl)
end
