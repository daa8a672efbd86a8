/-! THE CLAIM OUT OF ONE WALK OF THE LAW'S BODY. Your part is whole_start (and what it stands on); all else here is the same for every law, but numbers. -/
def R_law : String := "HotHandLaw"
def lw_P (b : Addr) (xs : List Int32) (args : Array Value) (s : State) : Prop := args = #[.ref b] ∧ s.IntsAt b xs ∧ xs.length ≤ 3584 ∧ (Jvm.Cond.and given_1 narrow_1).before args s = true
def lw_Q (_ : Array Value) (s : State) (o : Outcome) (t : State) : Prop := o = .returned (some (.int 1)) ∧ Framed s o t [] 600000 7302250
def lw_Z (below : List Frame) (a : Array Value) (s : State) : State → Prop := fun t => ∃ o, t.status = .running ∧ Ended t below o ∧ lw_Q a s o t
/-- the law's own end, with 1 on the stack, nothing written that was there before, its room as the claim has it -/
theorem lw_ret {p : Program} {l : Launch} {e : Env} {s : State} {m : MethodId} {below : List Frame} {meth : Method} {c : Code} {b : Nat} (hx : p.tables.exec = Jvm.exec) (hb : c.code = code) (hr : meth.sig.returnType = ret) (hlocks : meth.locks = false) {pc : Nat} {H : Heap} {ls : Array Slot} (hdg : decode code pc = .ok (.ireturn, 1)) : W p l e room_1 s m #[Value.ref b] below meth c H [] 600000 7302250 (lw_Z below #[Value.ref b] s) (F0 m pc ls [.int 1]) := by
  intro T hT X
  obtain ⟨fs, hret, hrun, hended, hW, hframe⟩ := X.leave (v := some (.int 1)) (hlocks := hlocks) (fun h => by rw [hr] at h; cases h)
  have hmeth' : T.vm.method? m = some meth := X.method'
  refine ⟨T.setFrames fs, ?_, .returned (some (.int 1)), hrun, hended, rfl, ⟨_, rfl⟩, hW, hframe⟩
  jvm_step X.here [X.here.top, hx, hb, hdg, hmeth', hr, ret, narrow_b1]
  (try refine ⟨rfl, ?_⟩); (try refine ⟨rfl, ?_⟩)
  first | (intro acts; rw [hret _ acts rfl rfl rfl]) | rw [hret _ _ rfl rfl rfl]
  exact Steps.refl _
/-- what holds at the law's entry: the machine, the code, the tables' words (any of lw_tbl by 'hts w (by decide +kernel)'), the script of L ints xs at the cell b, what the Statement gives of the start (any of its parts by flat_of_before) -/
def lw_At (p : Program) (s : State) (m : MethodId) (meth : Method) (c : Code) (b L : Nat) (xs : Nat → Int32) : Prop :=
  p.tables.exec = Jvm.exec ∧ c.code = code ∧ meth.sig.returnType = ret ∧ c.maxLocals = 4 ∧ s.vm.findClass R_law = some m.cls ∧ (∀ w ∈ lw_tbl, w.before #[Value.ref b] s = true) ∧ va_X b L xs s s.heap ∧ b < s.heap.size ∧ meth.locks = false ∧ (Jvm.Cond.and given_1 narrow_1).before #[Value.ref b] s = true
/-! the start: what the Statement gives, as the plain machine's first memory -/
def st_tx : List Int := [104, 105, 116, 32, 104, 97, 114, 100, 101, 114, 32, 103, 117, 97, 114, 100, 101, 100, 32, 104, 97, 114, 100, 32, 103, 117, 97, 114, 100, 32, 115, 116, 97, 116, 101, 32, 114, 117, 110, 32, 109, 105, 115, 115, 32, 112, 108, 97, 99, 101, 32, 104, 105, 116, 115, 32, 115, 104, 97, 114, 101, 32, 114, 117, 110, 115, 32, 97, 102, 116, 101, 114, 32, 108, 111, 110, 103, 101, 115, 116, 32, 112, 97, 105, 114, 115, 32, 102, 105, 114, 115, 116, 32, 112, 97, 115, 115, 32, 105, 102, 32, 97, 110, 100, 32, 111, 114, 32, 110, 111, 116, 32]
def st_o2 (j : Nat) : Int := 10 ^ j
def st_o4 (j : Nat) : Int := st_tx.getD j 0
def st_oa (b t k v : Nat) : Nat → Nat
  | 1 => b
  | 2 => t
  | 3 => k
  | 4 => v
  | _ => 0
def st_sh (L : Nat) : Nat → Nat × Nat × List Nat
  | 1 => (0, L, [])
  | 2 => (3, 17, [])
  | 3 => (90, 2, [4, 0])
  | 4 => (1, 112, [])
  | _ => (99, 0, [])
def st_sv (o1 : Nat → Int) : hh_Sv
  | 1 => o1
  | 2 => st_o2
  | 4 => st_o4
  | _ => fun _ => 0
/-- the first memory -/
def st_M (L : Nat) (o1 : Nat → Int) : hh_Mm := ((8, st_sh L), st_sv o1)
theorem st_sh8 {L k : Nat} (h : 8 ≤ k) : st_sh L k = (99, 0, []) := by
  match k, h with
  | k + 8, _ => rfl
theorem st_wf (L : Nat) (o1 : Nat → Int) : hh_wf L o1 st_o2 st_o4 (st_M L o1) := by
  refine ⟨Nat.le_refl _, fun k hk => st_sh8 hk, ⟨rfl, rfl, rfl, rfl, rfl, rfl, rfl, rfl⟩, fun k h1 h2 => ?_, rfl, rfl, rfl, rfl⟩
  exact absurd h2 (by show ¬ k < 8; omega)
theorem st_arr {s : State} {args : Array Value} {ty : FieldType} (h : (Cond.arrayClass ty).before args s = true) : ∃ cA, ArrOfT s cA ty ∧ s.vm.findClass ("[" ++ ty.toString) = some cA := by
  obtain ⟨cA, kA, comp, h1, h2, h3⟩ := Cond.arrayClass_spec h
  exact ⟨cA, fun n z => ⟨fun k h => (by cases h), kA, h2, comp, h3⟩, h1⟩
theorem st_arq {s : State} {args : Array Value} {C : String} (h : (Cond.arrayOver (.object C)).before args s = true) : ∃ cA, ArrOfT s cA (.object C) ∧ va_RA s cA (.object C) := by
  obtain ⟨comp, c, k, h1, h2, h3, h4, h5⟩ := Cond.arrayOver_spec h
  exact ⟨c, fun n z => ⟨fun k h => (by cases h), k, h3, comp, h4⟩, k, comp, h3, h4, h1, h5⟩
theorem st_tens : ∀ j : Nat, j < 17 → Cond.eq (.elem (.static "HotHand" "TENS" "[J") (.int (Int32.ofNat j))) (.long (Int64.ofInt (st_o2 j))) ∈ flatC (Jvm.Cond.and given_1 narrow_1) := by decide +kernel
theorem st_byt : ∀ j : Nat, j < 112 → Cond.eq (.elem (.field (.string "HotHand$Reader" 72) "java/lang/String" "value" "[B") (.int (Int32.ofNat j))) (.int (Int32.ofInt (st_o4 j))) ∈ flatC (Jvm.Cond.and given_1 narrow_1) := by decide +kernel
theorem st_one {s : State} {args : Array Value} (hg : ∀ c ∈ flatC (Jvm.Cond.and given_1 narrow_1), c.before args s = true) (hts : ∀ w ∈ lw_tbl, w.before args s = true) {A : Nat → Prop} (hA : ∀ a : Nat, a < s.heap.size → ¬ A a) : ∃ t, va_Z "HotHand" "TENS" "[J" (.ref t) A s s.heap ∧ va_T .long t 17 (fun j => .long (Int64.ofInt (st_o2 j))) A s s.heap := by
  obtain ⟨t, h1, h2⟩ := va_Tof (args := args) (s := s) (tm := .static "HotHand" "TENS" "[J") (ty := .long) (N := 17) (f := fun j => .long (Int64.ofInt (st_o2 j))) (A := A) (by decide) (hg _ (by decide +kernel)) (va_eqt (z := 17) (hg _ (by decide +kernel))) (fun j hj => va_eqtl (hg _ (st_tens j hj))) hA
  exact ⟨t, va_Zof (hts (.laysStatic "HotHand" "TENS" "[J") (by decide +kernel)) (hts (.initialized "HotHand") (by decide +kernel)) h1 hA, h2⟩
theorem st_two {s : State} {args : Array Value} (hg : ∀ c ∈ flatC (Jvm.Cond.and given_1 narrow_1), c.before args s = true) (hts : ∀ w ∈ lw_tbl, w.before args s = true) {A : Nat → Prop} (hA : ∀ a : Nat, a < s.heap.size → ¬ A a) : ∃ k v : Nat, va_O "java/lang/String" k A s s.heap ∧ va_OF "java/lang/String" "coder" "B" (.int 0) k A s s.heap ∧ va_OF "java/lang/String" "value" "[B" (.ref v) k A s s.heap ∧ va_T .byte v 112 (fun j => .int (Int32.ofInt (st_o4 j))) A s s.heap ∧ vk_R "HotHand$Reader" 72 "hit harder guarded hard guard state run miss place hits share runs after longest pairs first pass if and or not " k s := by
  obtain ⟨v, h1, h2⟩ := va_Tof (args := args) (s := s) (tm := .field (.string "HotHand$Reader" 72) "java/lang/String" "value" "[B") (ty := .byte) (N := 112) (f := fun j => .int (Int32.ofInt (st_o4 j))) (A := A) (by decide) (hg _ (by decide +kernel)) (va_eqt (z := 112) (hg _ (by decide +kernel))) (fun j hj => va_eqt (hg _ (st_byt j hj))) hA
  have hco : (Term.field (.string "HotHand$Reader" 72) "java/lang/String" "coder" "B").eval args s none [] s = some (.int 0) := va_eqt (z := 0) (hg _ (by decide +kernel))
  have hex : (Cond.exactly (.string "HotHand$Reader" 72) "java/lang/String").before args s = true := hg _ (by decide +kernel)
  obtain ⟨adK, adV, h3, h4⟩ := vk_Sof (args := args) (s := s) (N := 1) (tm := fun _ => .string "HotHand$Reader" 72) (len := [112]) (byt := [st_tx.map Int32.ofInt]) (A := A) (fun i hi => by rw [show i = 0 by omega]; decide) (fun i hi => hex) (fun i hi => hg _ (by decide +kernel)) (fun i hi => hg _ (by decide +kernel)) (fun i hi => by rw [show i = 0 by omega]; exact hg _ (by decide +kernel))
    (fun i hi j hj => by
      rw [show i = 0 by omega] at hj ⊢
      have e : ([st_tx.map Int32.ofInt].getD 0 []).getD j 0 = Int32.ofInt (st_o4 j) := by
        show (st_tx.map Int32.ofInt).getD j 0 = _
        unfold st_o4
        rw [List.getD_eq_getElem?_getD, List.getD_eq_getElem?_getD, List.getElem?_map]
        cases st_tx[j]? <;> rfl
      rw [e]
      exact hg _ (st_byt j hj)) (fun i j hi hj hne => absurd (show i = j by omega) hne) hA
  obtain ⟨h5, h6, h7, h8⟩ := h3.1 0 (by decide)
  have hK := h4 0 (by decide)
  exact ⟨adK 0, v, h5, h6, vk_OFof hK h1 hA, h2, vk_R.of (hts (.stringRef "HotHand$Reader" 72 "hit harder guarded hard guard state run miss place hits share runs after longest pairs first pass if and or not ") (by decide +kernel)) hK⟩
theorem st_K {s : State} {args : Array Value} (hts : ∀ w ∈ lw_tbl, w.before args s = true) : ∃ (D : va_G) (cA : Nat → ClassId), va_K D vwCl (hh_tys cA) s := by
  have hg : ∀ w ∈ lw_g, w.before args s = true := fun w hw => hts w (List.mem_filter.mp hw).1
  have h : ∀ ci : Nat, ∃ (cC : ClassId) (iS : Nat → Nat), ∀ q, vwCl[ci]? = some q → u_Kn s q.1 q.2.1 q.2.2 cC iS := by
    intro ci
    cases hq : vwCl[ci]? with
    | none => exact ⟨0, fun _ => 0, fun q h => by cases h⟩
    | some q =>
      obtain ⟨h1, -, -, h4, -⟩ := cl_ok ci q hq
      obtain ⟨cC, iS, hk⟩ := u_known (ws := lw_g) hg h1 (hg _ h4)
      exact ⟨cC, iS, fun q' h' => by cases h'; exact hk⟩
  obtain ⟨c0, a0, b0⟩ := st_arr (hg _ ar_w.1)
  obtain ⟨c1, a1, b1⟩ := st_arr (hg _ ar_w.2.1)
  obtain ⟨c2, a2, b2⟩ := st_arr (hg _ ar_w.2.2.1)
  obtain ⟨c3, a3, b3⟩ := st_arr (hg _ ar_w.2.2.2)
  obtain ⟨c4, a4⟩ := st_arq (hg _ ao_w.1)
  obtain ⟨c5, a5⟩ := st_arq (hg _ ao_w.2.1)
  obtain ⟨c8, a8⟩ := st_arq (hg _ ao_w.2.2.1)
  obtain ⟨c10, a10⟩ := st_arq (hg _ ao_w.2.2.2)
  refine ⟨(fun c => (h c).choose, fun c => (h c).choose_spec.choose), fun k => match k with
    | 0 => c0
    | 1 => c1
    | 2 => c2
    | 3 => c3
    | 4 => c4
    | 5 => c5
    | 8 => c8
    | _ => c10, fun c q hq => (h c).choose_spec.choose_spec q hq, fun k q hk => ?_⟩
  match k, hk with
  | 0, hk => cases hk; exact ⟨a0, b0⟩
  | 1, hk => cases hk; exact ⟨a1, b1⟩
  | 2, hk => cases hk; exact ⟨a2, b2⟩
  | 3, hk => cases hk; exact ⟨a3, b3⟩
  | 4, hk => cases hk; exact a4
  | 5, hk => cases hk; exact a5
  | 6, hk => cases hk; exact a8
  | 7, hk => cases hk; exact a10
  | k + 8, hk => simp [hh_tys] at hk
/-- the old cells at the start -/
theorem st_O {s : State} {b L : Nat} {xs : Nat → Int32} (hLb : L < 2147483648) (hg : ∀ c ∈ flatC (Jvm.Cond.and given_1 narrow_1), c.before #[Value.ref b] s = true) (hts : ∀ w ∈ lw_tbl, w.before #[Value.ref b] s = true) (hX : va_X b L xs s s.heap) (hb : b < s.heap.size) : ∃ (oa : Nat → Nat) (v5 : Value), oa 1 = b ∧ hh_O s.heap.size oa v5 L (fun j => (xs j).toInt) st_o2 st_o4 s s.heap := by
  have hA : ∀ a : Nat, a < s.heap.size → ¬ hh_A s.heap.size a := fun a h1 h2 => by
    have h2 : s.heap.size ≤ a := h2
    omega
  obtain ⟨t, t1, t2⟩ := st_one hg hts hA
  obtain ⟨k, v, k1, k2, k3, k4, k5⟩ := st_two hg hts hA
  have hz := va_Zof (A := hh_A s.heap.size) (hts (.laysStatic "java/lang/String" "COMPACT_STRINGS" "Z") (by decide +kernel)) (hts (.initialized "java/lang/String") (by decide +kernel)) (va_eqi (z := 1) (hg _ (by decide +kernel))) hA
  have hq := va_Zqof (A := hh_A s.heap.size) (hts (.laysStatic "jdk/internal/util/Preconditions" "SIOOBE_FORMATTER" "Ljava/util/function/BiFunction;") (by decide +kernel)) (hts (.initialized "jdk/internal/util/Preconditions") (by decide +kernel)) (hg _ (by decide +kernel)) hA
  obtain ⟨scr, x1, x2, x3, x4, x5⟩ := hX
  have hT : va_T .int b L (fun j => .int (Int32.ofInt ((xs j).toInt))) (hh_A s.heap.size) s s.heap := by
    refine ⟨scr, x1, x2, x3, Nat.le_of_eq x4.symm, by rw [x4], fun j hj => ?_, hA b hb⟩
    rw [x5 j hj]
    show _ = some (Value.int (Int32.ofInt (xs j).toInt))
    rw [Int32.ofInt_toInt]
  rcases hq with hq | ⟨u, hq⟩
  · exact ⟨st_oa b t k v, .null, rfl, hT, t1, t2, hz, hq, Or.inl rfl, k1, k2, k3, k4, k5⟩
  · exact ⟨st_oa b t k v, .ref u, rfl, hT, t1, t2, hz, hq, Or.inr ⟨u, rfl⟩, k1, k2, k3, k4, k5⟩
/-- the law's contract, of what the plain machine answers -/
theorem st_whole {p : Program} {e : Env} {s : State} {m : MethodId} {below : List Frame} {meth : Method} {c : Code} (l : Launch) {b L : Nat} {xs : Nat → Int32} (hL : L ≤ 3584) (C0 : lw_At p s m meth c b L xs) {d : Nat} (hd : d ≤ 1000) {M1 : hh_Mm} (hM : M1.1.1 ≤ 285) (h : hh_Ev PG d 284 0 (hh_ent 4 [.inr (.inr 1)]) [] (st_M L (fun j => (xs j).toInt)) = some (1, M1)) :
    W p l e room_1 s m #[Value.ref b] below meth c s.heap [] 0 0 (lw_Z below #[Value.ref b] s) (entryFrame m ([Value.ref b] : List Value).toArray 4) := by
  obtain ⟨hx, hb, hr, hml, hown, hts, hX, hbs, hlocks, hgv⟩ := C0
  have hg := flat_of_before _ hgv
  obtain ⟨oa, v5, hoa, hO⟩ := st_O (by omega) hg hts hX hbs
  obtain ⟨D, cA, hK⟩ := st_K hts
  have hT : hh_T s := hh_T.of (a := #[Value.ref b]) (fun w hw => hts w (List.mem_filter.mp hw).1)
  have h5 := hO.2.2.2.2.2.1
  have X : hh_X p room_1 s m meth c s.heap.size oa v5 cA L (fun j => (xs j).toInt) st_o2 st_o4 D 284 8 d := by
    refine ⟨⟨hx, hb, hml, hown, fun q => ?_⟩, ⟨hT, hK, hO⟩, ⟨rfl, Nat.le_refl _⟩, ⟨?_, ?_⟩, by omega⟩
    · exact absurd q (by decide)
    · show d + 1 ≤ 2048
      omega
    · show 64 * (d + 1) ≤ 84000
      omega
  have hR : hh_R s.heap.size oa v5 cA L (fun j => (xs j).toInt) st_o2 st_o4 D (st_M L (fun j => (xs j).toInt)) s.heap := ⟨st_wf L _, fun k q hk => by cases hk⟩
  have hret : hh_Rt p l e room_1 s m #[Value.ref b] below meth c (lw_Z below #[Value.ref b] s) s.heap.size oa v5 cA L (fun j => (xs j).toInt) st_o2 st_o4 D 284 8 (1, M1) := by
    intro H2 locs2 pc la2 st2 M2 h hd hR2 hS2 hn2
    have h : s_ret 4 st2 M2 = some (1, M1) := h
    rcases st2 with _ | ⟨a | a | a, _ | ⟨a2, st2⟩⟩ <;> simp only [s_ret] at h
    any_goals (cases h; done)
    split at h
    next ha =>
      cases h
      refine va_forget (fun q hq => hS2.2.2 q hq) ?_
      refine W.widen (k := 600000) (n := 7302250) (by omega) (by omega) ?_
      rw [hb] at hd
      exact lw_ret hx hb hr hlocks hd
    · cases h
  have hl := lv_entry ([Value.ref b] : List Value) (n := 4) (Nat.le_of_ble_eq_true rfl)
  have ea : ([.inr (.inr 1)] : List hh_Av).map (hh_tv s.heap.size oa v5) = [Value.ref b] := by
    show [hh_rv s.heap.size oa v5 1] = _
    rw [hh_rv_8 (by decide) (by decide)]
    show [Value.ref (oa 1)] = _
    rw [hoa]
  rw [← ea] at hl
  have hLL := hh_L_entry (ba := s.heap.size) (oa := oa) h5 (as := [.inr (.inr 1)]) (n := 4) (by decide) hl
  have key := hh_sound d 284 0 _ _ _ _ h (by decide) (by decide) p l e room_1 s m #[Value.ref b] below meth c _ s.heap.size oa v5 cA L _ st_o2 st_o4 D 8 _ s.heap [] X (by show M1.1.1 - 8 ≤ 600000; omega) (by show 10000 * (M1.1.1 - 8) ≤ 7302250; omega) hret hLL rfl hR va_S.rf (Nat.le_refl _)
  unfold hh_G at key
  rw [hh_p0 (by decide) (by decide)] at key
  rw [lg_entry_eq]
  rw [ea] at key
  exact key
