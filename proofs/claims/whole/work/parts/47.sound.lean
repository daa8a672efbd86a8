/-! the walk: blocks, methods, all calls -/
theorem hh_b8_id {a : Int} (h0 : 0 ≤ a) (h : a < 128) : b8 a = a := by
  unfold b8
  rw [opq_eq]
  exact Int.bmod_eq_of_le (by omega) (by omega)
theorem hh_u16_id {a : Int} (h0 : 0 ≤ a) (h : a < 128) : u16 a = a := by
  unfold u16
  rw [opq_eq]
  omega
theorem hh_nz {a : Int} (h : a = 0 ∨ a = 1) : narrow .boolean (.int (Int32.ofInt a)) = .int (Int32.ofInt a) := by
  rcases h with rfl | rfl <;> rfl
theorem hh_nb {a : Int} (h0 : 0 ≤ a) (h : a < 128) : narrow .byte (.int (Int32.ofInt a)) = .int (Int32.ofInt a) := by
  have e := n_i2b a
  rw [hh_b8_id h0 h] at e
  show Value.int ((Int32.ofInt a).toInt8.toInt32) = _
  rw [e]
theorem hh_nc {a : Int} (h0 : 0 ≤ a) (h : a < 128) : narrow .char (.int (Int32.ofInt a)) = .int (Int32.ofInt a) := by
  have e := n_i2c a
  rw [hh_u16_id h0 h] at e
  show Value.int (((Int32.ofInt a).toUInt32 % 65536).toInt32) = _
  rw [e]
theorem hh_ent_len {n : Nat} {as : List hh_Av} (h : (hh_lay as).length ≤ n) : (hh_ent n as).length = n := by
  unfold hh_ent
  rw [List.length_append, List.length_replicate]
  omega
section
variable {p : Program} {l : Launch} {e : Env} {R : Room} {s : State} {m : MethodId} {args : Array Value} {below : List Frame} {meth : Method} {c : Code} {Q : State → Prop}
variable {ba : Nat} {oa : Nat → Nat} {v5 : Value} {r : hh_Rs} {F : Nat → hh_Lo → hh_Sk → hh_Mm → Option hh_Rs} {C : Nat → List hh_Av → hh_Mm → Option hh_Rs}
variable {cA : Nat → ClassId} {L : Nat} {o1 o2 o4 : Nat → Int} {D : va_G} {mi n0 d : Nat}
/-- a block -/
theorem sd_xb {nx : Nat} (X : hh_X p R s m meth c ba oa v5 cA L o1 o2 o4 D mi n0 d) (hcells : r.2.1.1 - n0 ≤ R.cells) (hslots : 10000 * (r.2.1.1 - n0) ≤ R.slots)
    (hFm : ∀ b ls st M2, F b ls st M2 = some r → M2.1.1 ≤ r.2.1.1) (hCm : ∀ m a M r', C m a M = some r' → M.1.1 ≤ r'.2.1.1) (hC : ∀ M, hh_Ca l ba oa v5 cA L o1 o2 o4 D C M d) (hret : hh_Rt p l e R s m args below meth c Q ba oa v5 cA L o1 o2 o4 D mi n0 r)
    (hF : ∀ b ls2 st2 M2 la2 H2 locs2, F b ls2 st2 M2 = some r → hh_L ba oa v5 la2 ls2 → ls2.length = pg_l mi → hh_R ba oa v5 cA L o1 o2 o4 D M2 H2 → va_S (hh_A ba) s.heap H2 locs2 → n0 ≤ M2.1.1 → hh_G p l e R s m args below meth c Q ba oa v5 H2 locs2 (M2.1.1 - n0) (10000 * (M2.1.1 - n0)) (pg_p mi b) la2 st2) :
    ∀ (es : List hh_En) (pc : Nat) (ls : hh_Lo) (st : hh_Sk) (M : hh_Mm) (la : Array Slot) (H : Heap) (locs : List Loc), ck_b (pg_y mi).2.1 (pg_cn mi) (pg_y mi).2.2.2.1 (ck_rc (pg_y mi).2.2.1) (pg_PC.getD mi []) nx es pc = true → hh_xb pg_KI pg_KS F C nx es ls st M = some r → hh_L ba oa v5 la ls → ls.length = pg_l mi → hh_R ba oa v5 cA L o1 o2 o4 D M H → va_S (hh_A ba) s.heap H locs → n0 ≤ M.1.1 →
      hh_G p l e R s m args below meth c Q ba oa v5 H locs (M.1.1 - n0) (10000 * (M.1.1 - n0)) pc la st
  | [], pc, ls, st, M, la, H, locs, hck, h, hL, hlen, hR, hS, hn => by
    rw [ck_b, Nat.beq_eq] at hck
    rw [hck]
    exact hF _ _ _ _ _ _ _ h hL hlen hR hS hn
  | en :: es, pc, ls, st, M, la, H, locs, hck, h, hL, hlen, hR, hS, hn => by
    obtain ⟨e1, n, e2, e3, e4, e5⟩ := ck_e hck
    obtain ⟨pc1, i, ex⟩ := en
    have e1 : pc1 = pc := e1
    subst e1
    have h : hh_stp pg_KI pg_KS F C (pc1, i, ex) ls st M (fun ls st M => hh_xb pg_KI pg_KS F C nx es ls st M) = some r := h
    rw [← hh_gd_stp hlen] at h
    refine sd_stp X (by rw [X.1.2.1]; exact e2) e3 e4 hL hlen hR hS hn hcells hslots (fun ls2 st2 M2 h2 => hh_iv_xb hCm (fun b ls st M h3 => hFm b ls st M h3) (hh_gd_of h2).2) (hC M) hret h (fun b st2 h2 => hF b ls st2 M la H locs h2 hL hlen hR hS hn) (fun hend ls2 st2 M2 la2 H2 locs2 h2 hL2 hR2 hS2 hn2 => ?_)
    obtain ⟨h3, h4⟩ := hh_gd_of h2
    exact sd_xb X hcells hslots hFm hCm hC hret hF es (pc1 + n) ls2 st2 M2 la2 H2 locs2 (e5 hend) h4 hL2 h3 hR2 hS2 hn2
/-- a method's own return -/
theorem sd_rets (hx : p.tables.exec = Jvm.exec) (h5 : v5 = .null ∨ ∃ t, v5 = .ref t) (hrt : meth.sig.returnType = (pg_y mi).2.2.1) (hlocks : meth.locks = false) : hh_Rt p l e R s m args below meth c (MQ below (hh_Qc ba oa v5 cA L o1 o2 o4 D (pg_y mi).2.2.1 r) args s (r.2.1.1 - n0) (10000 * (r.2.1.1 - n0)) (hh_A ba)) ba oa v5 cA L o1 o2 o4 D mi n0 r := by
  intro H2 locs2 pc la2 st2 M2 h hd hR hS hn
  generalize (pg_y mi).2.2.1 = t at *
  cases t with
  | none =>
    rcases st2 with _ | ⟨a, st2⟩
    · cases h
      exact W.vret hx rfl hrt (fun t ht hW => ⟨rfl, by rw [ht]; exact hR, hS.F ht⟩) hS.2.2 hd hlocks
    · cases h
  | some ty =>
    cases ty with
    | int =>
      rcases st2 with _ | ⟨a | a | a, _ | ⟨b, st2⟩⟩ <;> cases h
      exact W.iret hx rfl hrt (fun t ht hW => ⟨rfl, by rw [ht]; exact hR, hS.F ht⟩) hS.2.2 hd hlocks
    | long =>
      rcases st2 with _ | ⟨a | a | a, _ | ⟨b, st2⟩⟩ <;> cases h
      exact W.lret hx rfl hrt (fun t ht hW => ⟨rfl, by rw [ht]; exact hR, hS.F ht⟩) hS.2.2 hd hlocks
    | boolean =>
      rcases st2 with _ | ⟨a | a | a, _ | ⟨b, st2⟩⟩ <;> simp only [ck_rc, s_ret] at h
      any_goals (cases h; done)
      split at h
      next ha =>
        cases h
        exact W.zret hx rfl hrt (hh_nz ha) (fun t ht hW => ⟨rfl, by rw [ht]; exact hR, hS.F ht⟩) hS.2.2 hd hlocks
      · cases h
    | byte =>
      rcases st2 with _ | ⟨a | a | a, _ | ⟨b, st2⟩⟩ <;> simp only [ck_rc, s_ret] at h
      any_goals (cases h; done)
      split at h
      next ha =>
        cases h
        exact W.zret hx rfl hrt (hh_nb ha.1 ha.2) (fun t ht hW => ⟨rfl, by rw [ht]; exact hR, hS.F ht⟩) hS.2.2 hd hlocks
      · cases h
    | char =>
      rcases st2 with _ | ⟨a | a | a, _ | ⟨b, st2⟩⟩ <;> simp only [ck_rc, s_ret] at h
      any_goals (cases h; done)
      split at h
      next ha =>
        cases h
        exact W.zret hx rfl hrt (hh_nc ha.1 ha.2) (fun t ht hW => ⟨rfl, by rw [ht]; exact hR, hS.F ht⟩) hS.2.2 hd hlocks
      · cases h
    | object nm =>
      rcases st2 with _ | ⟨a | a | a, _ | ⟨b, st2⟩⟩ <;> simp only [ck_rc, s_ret] at h
      any_goals (cases h; done)
      split at h
      next ha =>
        cases h
        exact W.aret hx rfl hrt (Or.inl ⟨_, rfl⟩) (hh_rv_c h5 a) (fun t ht hW => ⟨rfl, by rw [ht]; exact hR, hS.F ht⟩) hS.2.2 hd hlocks
      · cases h
    | _ => simp [ck_rc, s_ret] at h
end
/-- what the plain machine answers, the machine does -/
def hh_So (d mi b : Nat) (ls : hh_Lo) (st : hh_Sk) (M : hh_Mm) (r : hh_Rs) : Prop :=
  2 ≤ mi → mi < 285 → ∀ (p : Program) (l : Launch) (e : Env) (R : Room) (s : State) (m : MethodId) (args : Array Value) (below : List Frame) (meth : Method) (c : Code) (Q : State → Prop) (ba : Nat) (oa : Nat → Nat) (v5 : Value) (cA : Nat → ClassId) (L : Nat) (o1 o2 o4 : Nat → Int) (D : va_G) (n0 : Nat) (la : Array Slot) (H : Heap) (locs : List Loc),
    hh_X p R s m meth c ba oa v5 cA L o1 o2 o4 D mi n0 d → r.2.1.1 - n0 ≤ R.cells → 10000 * (r.2.1.1 - n0) ≤ R.slots → hh_Rt p l e R s m args below meth c Q ba oa v5 cA L o1 o2 o4 D mi n0 r → hh_L ba oa v5 la ls → ls.length = pg_l mi → hh_R ba oa v5 cA L o1 o2 o4 D M H → va_S (hh_A ba) s.heap H locs → n0 ≤ M.1.1 →
      hh_G p l e R s m args below meth c Q ba oa v5 H locs (M.1.1 - n0) (10000 * (M.1.1 - n0)) (pg_p mi b) la st
theorem hh_p0 {mi : Nat} (h2 : 2 ≤ mi) (h : mi < 285) : pg_p mi 0 = 0 := by
  have h1 := ck_ok mi h2 h
  rw [ck_m, Bool.and_eq_true, Nat.beq_eq] at h1
  exact h1.2
theorem hh_So_met {d m' : Nat} {as : List hh_Av} {M : hh_Mm} {r : hh_Rs} (h2 : 2 ≤ m') (h3 : m' < 284) (hmath : ¬ (272 ≤ m' ∧ m' ≤ 275)) (hlay : (hh_lay as).length ≤ pg_l m') (h : hh_So d m' 0 (hh_ent (pg_l m') as) [] M r) (l : Launch) (ba : Nat) (oa : Nat → Nat) (v5 : Value) (cA : Nat → ClassId) (L : Nat) (hLb : L < 2147483648) (o1 o2 o4 : Nat → Int) (D : va_G) : hh_Ct l ba oa v5 cA L o1 o2 o4 D d m' as M r := by
  obtain ⟨y1, y2, ⟨y0, y3, y4, y5, y6⟩, y7⟩ := my_ok m' h2 (by omega) (by omega) hmath
  unfold hh_Ct
  refine Met.ofW (cc := (pg_y m').2.1) (maxL := pg_l m') (ret := (pg_y m').2.2.1) y0 rfl ?_
  intro p e s m args below meth c s₁ B hml hv
  obtain ⟨rfl, hsz, hR, hO, hK, hT⟩ := hv
  have hown : s.vm.findClass (cn_n (pg_cn m')) = some m.cls := by
    rw [← pg_cn_ok m' h2 (by omega)]
    exact findClass_of_methodNamed B.named
  have h5 := hO.2.2.2.2.2.1
  have X : hh_X p (hh_rm d (r.2.1.1 - M.1.1)) s m meth c ba oa v5 cA L o1 o2 o4 D m' M.1.1 d := by
    refine ⟨⟨B.exec, B.bytes, hml, hown, fun hk => ?_⟩, ⟨hT, hK, hO⟩, ⟨hsz, hR.1.1⟩, ⟨Nat.le_refl _, Nat.le_refl _⟩, hLb⟩
    rw [hk] at y7
    rw [(name_of_methodNamed B.named B.method).1]
    exact y7.2
  have hl := lv_entry (as.map (hh_tv ba oa v5)) (n := pg_l m') (by rw [hh_sl_len h5]; exact hlay)
  have hL := hh_L_entry h5 hlay hl
  have key := h h2 (by omega) p l e (hh_rm d (r.2.1.1 - M.1.1)) s m _ below meth c _ ba oa v5 cA L o1 o2 o4 D M.1.1 _ s.heap [] X (Nat.le_refl _) (Nat.le_refl _) (sd_rets (args := (as.map (hh_tv ba oa v5)).toArray) (below := below) B.exec h5 B.returns B.notSynchronized) hL (hh_ent_len hlay) hR va_S.rf (Nat.le_refl _)
  unfold hh_G at key
  rw [hh_p0 h2 (by omega), Nat.sub_self, Nat.mul_zero] at key
  rw [lg_entry_eq]
  exact key
theorem hh_sound : ∀ d mi b ls st M r, hh_Ev PG d mi b ls st M = some r → hh_So d mi b ls st M r := by
  refine hh_Ev_ind2 PG hh_So (fun E IH d mi b ls st M r hr => ?_)
  intro h2 h3 p l e R s m args below meth c Q ba oa v5 cA L o1 o2 o4 D n0 la H locs X hcells hslots hret hL hlen hR hS hn
  have hLb := X.2.2.2.2
  have hm : ∀ d m b ls st M r, E d m b ls st M = some r → M.1.1 ≤ r.2.1.1 := fun d m b ls st M r h => hh_Ev_mono PG d m b ls st M r (IH d m b ls st M r h).2
  have hCm : ∀ m a M r', hh_cl PG E d m a M = some r' → M.1.1 ≤ r'.2.1.1 := fun m a M r' h => by
    unfold hh_cl at h
    split at h
    · split at h
      · exact hm _ _ _ _ _ _ _ h
      · cases h
    · cases h
  have hC : ∀ M, hh_Ca l ba oa v5 cA L o1 o2 o4 D (hh_cl PG E d) M d := by
    intro M m' as r' h q2 q3
    refine ⟨hCm _ _ _ _ h, ?_⟩
    unfold hh_cl at h
    split at h
    next hrk =>
      split at h
      next hlay =>
        obtain ⟨i1, i2⟩ := IH _ _ _ _ _ _ _ h
        exact ⟨fun hna => hh_Ev_na PG (m := m') (na_ok hna) _ _ _ _ _ _ i2, hlay, ⟨_, i2⟩, fun hmath => ⟨_, hrk, hh_So_met q2 q3 hmath hlay i1 l ba oa v5 cA L hLb o1 o2 o4 D⟩⟩
      · cases h
    · cases h
  have hjm : ∀ n b ls st M, hh_jp PG E d mi (PG.2.2.1 mi) n b ls st M = some r → M.1.1 ≤ r.2.1.1 := by
    intro n
    induction n with
    | zero => intro b ls st M h; simp only [hh_jp, hh_frc_eq] at h; exact hm _ _ _ _ _ _ _ h
    | succ n ih =>
      intro b ls st M h
      simp only [hh_jp, hh_frc_eq] at h
      split at h
      · exact hh_iv_xb hCm (fun b ls st M h => ih b ls st M h) h
      · exact hm _ _ _ _ _ _ _ h
  have hck := fun b => ck_bk (b := b) (ck_ok mi h2 h3)
  have hj : ∀ n b ls2 st2 M2 la2 H2 locs2, hh_jp PG E d mi (PG.2.2.1 mi) n b ls2 st2 M2 = some r → hh_L ba oa v5 la2 ls2 → ls2.length = pg_l mi → hh_R ba oa v5 cA L o1 o2 o4 D M2 H2 → va_S (hh_A ba) s.heap H2 locs2 → n0 ≤ M2.1.1 → hh_G p l e R s m args below meth c Q ba oa v5 H2 locs2 (M2.1.1 - n0) (10000 * (M2.1.1 - n0)) (pg_p mi b) la2 st2 := by
    intro n
    induction n with
    | zero =>
      intro b ls2 st2 M2 la2 H2 locs2 h hL2 hlen2 hR2 hS2 hn2
      simp only [hh_jp, hh_frc_eq] at h
      exact (IH _ _ _ _ _ _ _ h).1 h2 h3 p l e R s m args below meth c Q ba oa v5 cA L o1 o2 o4 D n0 la2 H2 locs2 X hcells hslots hret (hL2.msk _) ((hh_msk_len _ _).trans hlen2) hR2 hS2 hn2
    | succ n ih =>
      intro b ls2 st2 M2 la2 H2 locs2 h hL2 hlen2 hR2 hS2 hn2
      simp only [hh_jp, hh_frc_eq] at h
      split at h
      · exact sd_xb X hcells hslots (hjm n) hCm hC hret (fun b ls2 st2 M2 la2 H2 locs2 => ih b ls2 st2 M2 la2 H2 locs2) _ _ _ _ _ _ _ _ (hck b) h (hL2.msk _) ((hh_msk_len _ _).trans hlen2) hR2 hS2 hn2
      · exact (IH _ _ _ _ _ _ _ h).1 h2 h3 p l e R s m args below meth c Q ba oa v5 cA L o1 o2 o4 D n0 la2 H2 locs2 X hcells hslots hret (hL2.msk _) ((hh_msk_len _ _).trans hlen2) hR2 hS2 hn2
  exact sd_xb X hcells hslots (hjm 40) hCm hC hret (fun b ls2 st2 M2 la2 H2 locs2 => hj 40 b ls2 st2 M2 la2 H2 locs2) _ _ _ _ _ _ _ _ (hck b) hr hL hlen hR hS hn
