/-! texts: a rule of a belief; all rules -/
section
variable {L q : Nat} {T : Nat → Int} {n m v w i i2 i3 d e f D : Nat} {F H K G : hh_Sv → Option hh_Rs} {b : Bool} {cs ds : List Cd} {s y z : hh_Sv} {rs fs : List Ru} {r : Ru} {l2 : Int}
noncomputable def bfK (L : Nat) (kk : Nat) : hh_Sv → Option hh_Rs := if kk = 5 then (fun s => (md_ruleTold L 5 (-1) s).bind (fun r4 => if w32 r4.1 = 0 then md_beliefRule_b3 L r4.2.2 else ok L 1 r4.2.2)) else bf3 L (kk : Int)
theorem bfK_ok {kk : Nat} {u : hh_Sv} (h : md_ruleTold L (kk : Int) (-1) s = ok L (zb (b = true)) u) : bfK L kk s = ok L (zb (b = true)) u := by
  unfold bfK
  by_cases e : kk = 5
  · rw [if_pos e]
    subst e
    show (md_ruleTold L ((5 : Nat) : Int) (-1) s).bind _ = _
    rw [h, ok_bind]
    dsimp only
    cases b
    · rw [if_pos (zb_w.mpr (by decide)), md_beliefRule_b3_eq, zb_0 (by decide)]
    · rw [if_neg (fun u => zb_w.mp u rfl), zb_1 rfl]
  · rw [if_neg e]
    show (md_ruleTold L (kk : Int) (-1) s).bind _ = _
    rw [h]
    exact ok_wrap
theorem bel_G {kk : Nat} (h : TK T n m) (hi : i ≤ m) (hk : kk = 0 ∨ kk = 4 ∨ kk = 5) (hw : wc T n (tP T n i) = wq (ru_k kk).toNat) : JG L T n v i d d (md_beliefRule L) (bfK L kk) true (i + 1) [] := by
  have hz : wc T n (tP T n i) = (if kk = 0 then 6842740 else if kk = 4 then 1835627379 else 1885434739) := by
    rw [hw]
    exact (show ∀ kk : Nat, kk < 6 → (kk = 0 ∨ kk = 4 ∨ kk = 5) → wq (ru_k kk).toNat = (if kk = 0 then 6842740 else if kk = 4 then 1835627379 else 1885434739) by decide +kernel) kk (by omega) hk
  refine JG.eq (fun s _ _ => bf_eq) ?_
  rcases hk with hk | hk | hk <;> subst hk
  · exact JG.wordY (K := bfK L 0) (bf1 L) h hi hz (by decide)
  · rw [if_neg (by first | decide | exact wN1 | (rw [w32_id (by decide) (by decide)]; decide)), if_pos rfl] at hz
    refine JG.cat (cs := []) (ds := []) (w := v) (JG.wordN (c := 6842740) (K := bf1 L) (bf3 L 0) h hi (by rw [hz]; decide) ⟨by decide, by decide⟩) (by rw [List.length_nil]; omega) ?_
    exact JG.wordY (K := bfK L 4) (bf2 L) h hi hz (by decide)
  · rw [if_neg (by first | decide | exact wN1 | (rw [w32_id (by decide) (by decide)]; decide)), if_neg (by first | decide | exact wN1 | (rw [w32_id (by decide) (by decide)]; decide))] at hz
    refine JG.cat (cs := []) (ds := []) (w := v) (JG.wordN (c := 6842740) (K := bf1 L) (bf3 L 0) h hi (by rw [hz]; decide) ⟨by decide, by decide⟩) (by rw [List.length_nil]; omega) ?_
    refine JG.cat (cs := []) (ds := []) (w := v) (JG.wordN (c := 1835627379) (K := bf2 L) (bf3 L 4) h hi (by rw [hz]; decide) ⟨by decide, by decide⟩) (by rw [List.length_nil]; omega) ?_
    exact JG.wordY (K := bfK L 5) (md_beliefRule_b3 L) h hi hz (by decide)
theorem bel_Gn (h : TK T n m) (hi : i ≤ m) (h0 : wc T n (tP T n i) ≠ 6842740) (h1 : wc T n (tP T n i) ≠ 1835627379) (h2 : wc T n (tP T n i) ≠ 1885434739) : JG L T n v i d e (md_beliefRule L) K false i cs := by
  refine JG.eq (fun s _ _ => bf_eq) (JG.no (K := K) (e := e) (cs := []) ?_)
  refine JG.cat (cs := []) (ds := []) (w := v) (JG.wordN (c := 6842740) (K := bf1 L) (bf3 L 0) h hi h0 ⟨by decide, by decide⟩) (by rw [List.length_nil]; omega) ?_
  refine JG.cat (cs := []) (ds := []) (w := v) (JG.wordN (c := 1835627379) (K := bf2 L) (bf3 L 4) h hi h1 ⟨by decide, by decide⟩) (by rw [List.length_nil]; omega) ?_
  refine JG.cat (cs := []) (ds := []) (w := v) (JG.wordN (c := 1885434739) (K := md_beliefRule_b3 L) (fun y => (md_ruleTold L 5 (-1) y).bind (fun r4 => if w32 r4.1 = 0 then md_beliefRule_b3 L r4.2.2 else ok L 1 r4.2.2)) h hi h2 ⟨by decide, by decide⟩) (by rw [List.length_nil]; omega) ?_
  exact JG.eq (fun s _ _ => md_beliefRule_b3_eq L s) JG.fl
theorem bel_rule (hq : ru_cell q) (h : TK T n m) (hi : i ≤ m) (h24 : rs.length < 24) (hok : ∀ r ∈ rs, ru_ok r) (hj : 2 * ru_at rs rs.length ≤ tP T n i) : RuJ L q T n m i rs (re_readStatement L q) (fun s => (md_beliefRule L s).bind (fun r2 => if w32 r2.1 = 0 then md_reads_b4 L l2 r2.2.2 else md_reads_b3 L l2 r2.2.2)) l2 := by
  have hf := ru_f_at rs hok
  have hfl := ru_f_len (rs := rs)
  have kq := ru_kd (L := L) hq
  have q0 : wq 0 = 6842740 := wq_v.1
  have q7 : wq 7 = 1835627379 := wq_v.2.2.2.2.2.2.2.1
  have q16 : wq 16 = 1885434739 := wq_v.2.2.2.2.2.2.2.2.2.2.2.2.2.2.2.2.1
  by_cases hP : ∃ kk, (kk = 0 ∨ kk = 4 ∨ kk = 5) ∧ wc T n (tP T n i) = wq (ru_k kk).toNat
  · obtain ⟨kk, hk, hw⟩ := hP
    have hkr : 256 ≤ wq (ru_k kk).toNat ∧ 0 ≤ ru_k kk ∧ ru_k kk < 21 := (show ∀ kk : Nat, kk < 6 → (kk = 0 ∨ kk = 4 ∨ kk = 5) → 256 ≤ wq (ru_k kk).toNat ∧ 0 ≤ ru_k kk ∧ ru_k kk < 21 by decide +kernel) kk (by omega) hk
    obtain ⟨a1, a2, a3, a4, a5, a6⟩ := tP_w h hi hw hkr.1
    have eC : tC T n (tP T n i) = ru_k kk := by
      have := (wx_iff (h.qq hi).1 (w := (ru_k kk).toNat) (by omega)).mpr hw
      unfold tC
      rw [if_pos a1, if_pos a2]
      omega
    have hz : wc T n (tP T n i) = 6842740 ∨ (wc T n (tP T n i) ≠ 6842740 ∧ wc T n (tP T n i) = 1835627379) ∨ (wc T n (tP T n i) ≠ 6842740 ∧ wc T n (tP T n i) ≠ 1835627379 ∧ wc T n (tP T n i) = 1885434739) := by
      rw [hw]
      exact (show ∀ kk : Nat, kk < 6 → (kk = 0 ∨ kk = 4 ∨ kk = 5) → (wq (ru_k kk).toNat = 6842740 ∨ (wq (ru_k kk).toNat ≠ 6842740 ∧ wq (ru_k kk).toNat = 1835627379) ∨ (wq (ru_k kk).toNat ≠ 6842740 ∧ wq (ru_k kk).toNat ≠ 1835627379 ∧ wq (ru_k kk).toNat = 1885434739)) by decide +kernel) kk (by omega) hk
    have eF : ∀ s, CR s T n m i → re_readStatement L q s = (re_take L s).bind (fun r1 => (re_readIf L q 1 r1.2.2).bind (fun r2 => if w32 r2.1 = 0 then ok L 0 r2.2.2 else (ru_add L q r1.1 0 r2.2.2).bind (fun r3 => ok L 1 r3.2.2))) := fun s hc => by
      have e1 : re_readStatement L q s = re_readStatement_b1 L q s := by
        rw [re_readStatement_eq, isW (c := 0) hc 0 (by decide) rfl q0, ok_bind]
        dsimp only
        rcases hz with hz | hz | hz
        · rw [if_neg (fun u => zb_w.mp u hz)]
        · rw [if_pos (zb_w.mpr hz.1), isW (c := 7) hc 7 (by decide) rfl q7, ok_bind]
          dsimp only
          rw [if_neg (fun u => zb_w.mp u hz.2)]
        · rw [if_pos (zb_w.mpr hz.1), isW (c := 7) hc 7 (by decide) rfl q7, ok_bind]
          dsimp only
          rw [if_pos (zb_w.mpr hz.2.1), isW (c := 16) hc 16 (by decide) rfl q16, ok_bind]
          dsimp only
          rw [if_neg (fun u => zb_w.mp u hz.2.2)]
      rw [e1, re_readStatement_b1_eq]
      simp only [if_pos kq]
    have tF := JF.takeV (L := L) (q := q) (T := T) (n := n) (m := m) (v := 0) (i := i) (fun w y => (re_readIf L q 1 y).bind (fun r2 => if w32 r2.1 = 0 then ok L 0 r2.2.2 else (ru_add L q w 0 r2.2.2).bind (fun r3 => ok L 1 r3.2.2))) hq a3
    rw [eC] at tF
    obtain ⟨c1, j1, ds, ⟨o1, o2⟩, o3, o4, o5⟩ := if_ok (L := L) (i := i + 1) hq h (by omega)
    obtain ⟨b, i3, s1, s2, s3, s4⟩ := semi_all (L := L) (l2 := l2) c1 hq h o2
    have uF := JF.bind (K := fun y => (ru_add L q (ru_k kk) ((0 : Nat) : Int) y).bind (fun r3 => ok L 1 r3.2.2)) (s3 _ ds (i + 1) 0 o3 (fun hb => by have := (o5 hb).1; omega))
    have vF : JF L q T n m 0 i (re_readStatement L q) (fun y => (ru_add L q (ru_k kk) ((0 : Nat) : Int) y).bind (fun r => ok L 1 r.2.2)) b i3 ds := JF.eq eF (JF.cat (cs := []) (w := 0) hq tF (by rw [List.length_nil]; omega) uF)
    refine ⟨b, i3, (kk, 0, ds), ⟨by omega, s1.2⟩, fun s hs => cls_rule hq (by omega) h24 hj vF hs, fun s hs hd => ?_, fun hb => ?_⟩
    · obtain ⟨y, y1, y2, y3, y4⟩ := bel_G (L := L) (v := 0) (d := 0) h hi hk hw s (ru_at rs rs.length) hs.1 hd hs.2.2.1 (by omega)
      obtain ⟨w0, w1, w2⟩ := y4 rfl
      rw [if_pos rfl] at y1
      have hy : ∀ a b, ¬ (a = 242 ∧ (b = 12 ∨ b = 13 ∨ b = 14 ∨ b = 32 ∨ b = 33)) → ¬ (256 ≤ a ∧ a ≤ 258 ∧ 4800 + ru_at rs rs.length ≤ b) → y a b = s a b := y2
      obtain ⟨u, u1, u2, u3, u4⟩ := told_N (L := L) (k := (kk : Int)) (j := ru_at rs rs.length) (c := (ru_f rs).length) (by omega) o4 y3 w0 w1 (by omega) (by rw [hy _ _ (by omega) (by omega)]; exact hs.2.1.1)
      have eL : md_beliefRule L s = ok L (zb (c1 = true)) u := by
        rw [y1]
        exact bfK_ok u1
      obtain ⟨z, z1, z2, z3⟩ := s4 u u2
      refine ⟨z, ?_, (y2.fq.tr u3).tr (fun a b x1 _ _ _ => z3 a b (by omega)), z2, fun hb => ?_⟩
      · show (md_beliefRule L s).bind _ = _
        rw [eL, gl_ok]
        exact z1
      · have t := u4 (s2 hb).1
        have t2 : TD s u (kk : Int) ((0 : Nat) : Int) (ru_at rs rs.length) (ru_f rs).length ds := t.fr (fun a b hh => hy a b (by omega) (by omega))
        exact (RGt.td hf (by omega) hs u2 t2).fr z2 (fun a b hh => z3 a b (by omega))
    · obtain ⟨t1, t2, t3⟩ := s2 hb
      obtain ⟨g1, g2, g3⟩ := o5 t1
      exact ⟨by omega, ⟨by show kk ≤ 7; omega, by show 0 ≤ 100; omega, g2, g3, fun z => absurd z (by show ¬ 5 < kk; omega), fun _ => by show 0 ≤ 3; omega⟩, fun _ => by show kk ≤ 5; omega, by show 2 * (_ + ds.length) ≤ _; omega⟩
  · have h0 : wc T n (tP T n i) ≠ 6842740 := fun z => hP ⟨0, Or.inl rfl, by rw [z]; exact q0.symm⟩
    have h7 : wc T n (tP T n i) ≠ 1835627379 := fun z => hP ⟨4, Or.inr (Or.inl rfl), by rw [z]; exact q7.symm⟩
    have h16 : wc T n (tP T n i) ≠ 1885434739 := fun z => hP ⟨5, Or.inr (Or.inr rfl), by rw [z]; exact q16.symm⟩
    refine ⟨false, i, (0, 0, []), ⟨Nat.le_refl _, hi⟩, fun s hs => ?_, fun s hs hd => ?_, fun z => absurd z (by decide)⟩
    · refine ⟨s, ?_, fun _ _ _ _ => rfl, hs.1, fun z => absurd z (by decide)⟩
      rw [re_readStatement_eq, isW (c := 0) hs.1 0 (by decide) rfl q0, ok_bind]
      dsimp only
      rw [if_pos (zb_w.mpr h0), isW (c := 7) hs.1 7 (by decide) rfl q7, ok_bind]
      dsimp only
      rw [if_pos (zb_w.mpr h7), isW (c := 16) hs.1 16 (by decide) rfl q16, ok_bind]
      dsimp only
      rw [if_pos (zb_w.mpr h16), zb_0 (by decide)]
    · obtain ⟨y, y1, y2, y3, y4⟩ := bel_Gn (L := L) (v := 0) (d := 0) (e := 0) (K := fun y => ok L 1 y) (cs := []) h hi h0 h7 h16 s (ru_at rs rs.length) hs.1 hd hs.2.2.1 (by omega)
      rw [if_neg (by first | decide | exact wN1 | (rw [w32_id (by decide) (by decide)]; decide))] at y1
      refine ⟨y, ?_, y2.fq, y3, fun z => absurd z (by decide)⟩
      show (md_beliefRule L s).bind _ = _
      rw [y1, ok_bind]
      dsimp only
      rw [if_pos (by first | decide | exact w32_0' | exact wM1 | (rw [w32_id (by decide) (by decide)]; decide)), md_reads_b4_eq, zb_0 (by decide)]
theorem tK_0 {p : Nat} : tK T n p = 0 ↔ ¬ p < n := by
  unfold tK
  by_cases h : p < n
  · rw [if_pos h]
    refine ⟨fun z => ?_, fun z => absurd h z⟩
    unfold knd at z
    split at z
    · exact absurd z (by decide)
    · split at z <;> exact absurd z (by decide)
  · rw [if_neg h]
    exact ⟨fun _ => h, fun _ => rfl⟩
def Rds (L q : Nat) (T : Nat → Int) (n m i : Nat) (rs : List Ru) (l2 : Int) : Prop := ∃ (b : Bool) (i2 : Nat) (rs2 : List Ru), i2 ≤ m ∧ (∀ s, CRs s q T n m i rs → ∃ y, re_readRules_b1 L l2 q (rs.length : Int) s = ok L (zb (b = true)) y ∧ FR q s y ∧ CR y T n m i2 ∧ (b = true → CRs y q T n m i2 rs2)) ∧ (∀ s, RGt s T n i rs rs.length → s 242 12 = ((tP T n i : Nat) : Int) → ∃ y, md_reads_b1 L l2 1 s = ok L (zb (b = true)) y ∧ FQ s y ∧ y 242 17 = (if b = true then -1 else ((tP T n i2 : Nat) : Int)) ∧ (b = true → RGt y T n i2 rs2 rs2.length)) ∧ (b = true → rs2.length ≤ 24 ∧ (∀ r ∈ rs2, ru_ok r ∧ (l2 = 0 → r.1 ≤ 5)) ∧ ru_at rs2 rs2.length ≤ 300)
/-- the reference ends with a fault -/
theorem rd_bad (h : TK T n m) (hi : i ≤ m) (hr : RG s T n i) : ∃ y, md_reads_b1 L l2 0 s = ok L 0 y ∧ FQ s y ∧ y 242 17 = ((tP T n i : Nat) : Int) := by
  obtain ⟨hT, p, p1, p2, p3⟩ := hr
  obtain ⟨y, y1, y2, y3⟩ := md_blanks_ok (L := L) hT p1 p2
  rw [p3] at y3
  refine ⟨up y 242 17 (y 242 12), ?_, (show FQ s y from fun a b x1 _ _ _ => y2 a b (by omega)).wr (by omega), by rw [up_s]; exact y3⟩
  rw [md_reads_b1_eq, if_pos (by first | decide | exact w32_0' | exact wM1 | (rw [w32_id (by decide) (by decide)]; decide)), md_reads_b7_eq, if_pos (by first | decide | exact w32_0' | exact wM1 | (rw [w32_id (by decide) (by decide)]; decide)), y1, ok_bind]
  dsimp only
  rw [md_reads_b8_eq, if_pos (by first | decide | exact w32_0' | exact wM1 | (rw [w32_id (by decide) (by decide)]; decide)), if_pos (by first | decide | exact w32_0' | exact wM1 | (rw [w32_id (by decide) (by decide)]; decide))]
theorem rds_ok (hq : ru_cell q) (h : TK T n m) (hF : ∀ s l4, w32 l2 = l2 → (re_readRules_b1 L l2 q l4 s = if w32 l4 < 24 then (if 0 ≤ s 24 5 ∧ s 24 5 < 601 then (if w32 (s 26 ((s 24 5).toNat)) = 0 then re_readRules_b5 L s else (F s).bind (fun r => if w32 r.1 = 0 then ok L 0 r.2.2 else re_readRules_b1 L l2 q (l4 + 1) r.2.2)) else none) else re_readRules_b5 L s)) (hG : ∀ s, md_reads_b1 L l2 1 s = if w32 (s 242 12) < w32 (s 242 11) then (if w32 (s 242 15) < 24 then G (up s 242 13 0) else md_reads_b4 L l2 (up s 242 13 0)) else md_reads_b7 L 1 s) (hl : w32 l2 = l2) (rule : ∀ (i : Nat) (rs : List Ru), i ≤ m → rs.length < 24 → (∀ r ∈ rs, ru_ok r) → 2 * ru_at rs rs.length ≤ tP T n i → RuJ L q T n m i rs F G l2) : ∀ (N i : Nat) (rs : List Ru), m - i ≤ N → i ≤ m → rs.length ≤ 24 → (∀ r ∈ rs, ru_ok r ∧ (l2 = 0 → r.1 ≤ 5)) → 2 * ru_at rs rs.length ≤ tP T n i → Rds L q T n m i rs l2 := by
  have h6 := h.1
  have hmn := h.2.1
  have body : ∀ (i : Nat) (rs : List Ru), i ≤ m → rs.length ≤ 24 → (∀ r ∈ rs, ru_ok r ∧ (l2 = 0 → r.1 ≤ 5)) → 2 * ru_at rs rs.length ≤ tP T n i → (∀ (i' : Nat) (rs' : List Ru), i < i' → i' ≤ m → rs'.length ≤ 24 → (∀ r ∈ rs', ru_ok r ∧ (l2 = 0 → r.1 ≤ 5)) → 2 * ru_at rs' rs'.length ≤ tP T n i' → Rds L q T n m i' rs' l2) → Rds L q T n m i rs l2 := by
    intro i rs hi h24 hok hj ih
    have hqi := h.qq hi
    have kind : ∀ s, CR s T n m i → (0 ≤ s 24 5 ∧ s 24 5 < 601) ∧ w32 (s 26 ((s 24 5).toNat)) = tK T n (tP T n i) := fun s hc => by
      obtain ⟨a, b, c', d, e, f, g, k⟩ := hc
      obtain ⟨t1, t2, t3⟩ := d i g
      refine ⟨by omega, ?_⟩
      rw [show (s 24 5).toNat = i by omega, t1]
      exact tK_w
    by_cases hm : i = m
    · have hn : ¬ tP T n i < n := fun z => by have := hqi.2.mpr z; omega
      have k0 : tK T n (tP T n i) = 0 := tK_0.mpr hn
      have b5 : ∀ s, CR s T n m i → re_readRules_b5 L s = ok L 1 s := fun s hc => by
        rw [re_readRules_b5_eq, if_pos (kind s hc).1, if_pos (by rw [(kind s hc).2]; exact k0)]
      refine ⟨true, i, rs, hi, fun s hs => ⟨s, ?_, fun _ _ _ _ => rfl, hs.1, fun _ => hs⟩, fun s hs hs2 => ?_, fun _ => ⟨h24, hok, by omega⟩⟩
      · rw [hF s _ hl, zb_1 rfl]
        by_cases e : rs.length < 24
        · rw [if_pos (by rw [w32_id (by omega) (by omega)]; omega), if_pos (kind s hs.1).1, if_pos (by rw [(kind s hs.1).2]; exact k0)]
          exact b5 s hs.1
        · rw [if_neg (by rw [w32_id (by omega) (by omega)]; omega)]
          exact b5 s hs.1
      · have hr := hs.1
        obtain ⟨⟨t1, t2, t3⟩, p, p1, p2, p3⟩ := hr
        refine ⟨up s 242 17 (-1), ?_, FQ.rf.wr (by omega), by rw [up_s, if_pos rfl], fun _ => ?_⟩
        · rw [hG s, if_neg (by rw [hs2, t1, w32_id (by omega) (by omega), w32_id (by omega) (by omega)]; omega), md_reads_b7_eq, if_neg (by first | decide | exact wN1 | (rw [w32_id (by decide) (by decide)]; decide)), md_reads_b8_eq, if_neg (by first | decide | exact wN1 | (rw [w32_id (by decide) (by decide)]; decide)), if_pos (by first | decide | exact w32_0' | exact wM1 | (rw [w32_id (by decide) (by decide)]; decide)), zb_1 rfl]
        · have fr : ∀ a b, ¬ (a = 242 ∧ b = 17) → up s 242 17 (-1) a b = s a b := fun a b hh => by unfold up; rw [if_neg hh]
          obtain ⟨g1, g2, g3, g4, g5, g6⟩ := hs
          exact ⟨g1.x (fun a b hh => fr a b (by omega)), ru_M.eb (fun a b _ _ => fr a b (by omega)) g2, by rw [fr _ _ (by omega)]; exact g3, by rw [fr _ _ (by omega)]; exact g4, by rw [fr _ _ (by omega)]; exact g5, by rw [fr _ _ (by omega)]; exact g6⟩
    · have hn : tP T n i < n := hqi.2.mp (by omega)
      have k0 : ¬ tK T n (tP T n i) = 0 := fun z => tK_0.mp z hn
      by_cases e : rs.length < 24
      · obtain ⟨b1, j1, r, ⟨o1, o2⟩, o3, o4, o5⟩ := rule i rs hi e (fun r hr => (hok r hr).1) hj
        have dn : ∀ s, RGt s T n i rs rs.length → RGt (up s 242 13 0) T n i rs rs.length := fun s hs => hs.fr (hs.1.x (fun a b hh => by unfold up; rw [if_neg (by omega)])) (fun a b hh => by unfold up; rw [if_neg (by omega)])
        have eG : ∀ s, RGt s T n i rs rs.length → s 242 12 = ((tP T n i : Nat) : Int) → md_reads_b1 L l2 1 s = G (up s 242 13 0) := fun s hs hs2 => by
          obtain ⟨⟨⟨t1, t2, t3⟩, p, p1, p2, p3⟩, g2, g3, g4, g5, g6⟩ := hs
          rw [hG s, if_pos (by rw [hs2, t1, w32_id (by omega) (by omega), w32_id (by omega) (by omega)]; omega), if_pos (by rw [g4, w32_id (by omega) (by omega)]; omega)]
        have eF : ∀ s, CRs s q T n m i rs → re_readRules_b1 L l2 q (rs.length : Int) s = (F s).bind (fun r => if w32 r.1 = 0 then ok L 0 r.2.2 else re_readRules_b1 L l2 q ((rs.length : Int) + 1) r.2.2) := fun s hs => by
          rw [hF s _ hl, if_pos (by rw [w32_id (by omega) (by omega)]; omega), if_pos (kind s hs.1).1, if_neg (by rw [(kind s hs.1).2]; exact k0)]
        cases b1
        · refine ⟨false, j1, [], o2, fun s hs => ?_, fun s hs hs2 => ?_, fun z => absurd z (by decide)⟩
          · obtain ⟨y, y1, y2, y3, y4⟩ := o3 s hs
            refine ⟨y, ?_, y2, y3, fun z => absurd z (by decide)⟩
            rw [eF s hs, y1, ok_bind]
            dsimp only
            rw [if_pos (zb_w.mpr (by decide)), zb_0 (by decide)]
          · obtain ⟨y, y1, y2, y3, y4⟩ := o4 _ (dn s hs) up_s
            obtain ⟨z, z1, z2, z3⟩ := rd_bad (L := L) (l2 := l2) h o2 y3
            refine ⟨z, ?_, ((FQ.rf (s := s)).wr (by omega) : FQ s (up s 242 13 0)).tr (y2.tr z2), by rw [if_neg (by first | decide | exact wN1 | (rw [w32_id (by decide) (by decide)]; decide))]; exact z3, fun z => absurd z (by decide)⟩
            rw [eG s hs hs2, y1, zb_0 (by decide), md_reads_b5_eq, if_pos (by first | decide | exact w32_0' | exact wM1 | (rw [w32_id (by decide) (by decide)]; decide))]
            exact z1
        · obtain ⟨g1, g2, g3, g4⟩ := o5 rfl
          obtain ⟨b2, j2, rs2, x2, x3, x4, x5⟩ := ih j1 (rs ++ [r]) g1 o2 (by rw [List.length_append, List.length_singleton]; omega) (fun x hx => by
            rcases List.mem_append.mp hx with z | z
            · exact hok x z
            · rw [List.mem_singleton.mp z]; exact ⟨g2, g3⟩) (by rw [ru_at_al]; exact g4)
          have el : (((rs ++ [r]).length : Nat) : Int) = (rs.length : Int) + 1 := by rw [List.length_append, List.length_singleton]; rfl
          refine ⟨b2, j2, rs2, x2, fun s hs => ?_, fun s hs hs2 => ?_, x5⟩
          · obtain ⟨y, y1, y2, y3, y4⟩ := o3 s hs
            obtain ⟨z, z1, z2, z3, z4⟩ := x3 y (y4 rfl)
            refine ⟨z, ?_, y2.tr z2, z3, z4⟩
            rw [eF s hs, y1, ok_bind]
            dsimp only
            rw [if_neg (fun u => zb_w.mp u rfl), ← el]
            exact z1
          · obtain ⟨y, y1, y2, y3, y4⟩ := o4 _ (dn s hs) up_s
            have yt := y4 rfl
            have fr : ∀ a b, ¬ (a = 242 ∧ b = 15) → up y 242 15 ((y 242 15) + 1) a b = y a b := fun a b hh => by unfold up; rw [if_neg hh]
            have hr2 : RG (up y 242 15 ((y 242 15) + 1)) T n j1 := y3.x (fun a b hh => fr a b (by omega))
            have hr3 := hr2
            obtain ⟨hT, p, p1, p2, p3⟩ := hr2
            obtain ⟨z, z1, z2, z3⟩ := md_blanks_ok (L := L) hT p1 p2
            rw [p3] at z3
            have hrz : RG z T n j1 := hr3.at (fun a b hh => z2 a b (by omega)) z3 (h.qq o2).1 (tP_rr p2 p3)
            have ez : ∀ a b, ¬ (a = 242 ∧ (b = 12 ∨ b = 15)) → z a b = y a b := fun a b hh => (z2 a b (by omega)).trans (fr a b (by omega))
            obtain ⟨k1, k2, k3, k4, k5, k6⟩ := yt
            have ht : RGt z T n j1 (rs ++ [r]) (rs ++ [r]).length := ⟨hrz, ru_M.eb (fun a b _ _ => ez a b (by omega)) k2, by rw [ez _ _ (by omega)]; exact k3, by rw [z2 _ _ (by omega), up_s, k4, el], by rw [ez _ _ (by omega)]; exact k5, by rw [ez _ _ (by omega)]; exact k6⟩
            obtain ⟨u, u1, u2, u3, u4⟩ := x4 z ht z3
            have fz : FQ y z := ((FQ.rf (s := y)).wr (by omega) : FQ y (up y 242 15 ((y 242 15) + 1))).tr (fun a b x1 _ _ _ => z2 a b (by omega))
            refine ⟨u, ?_, ((FQ.rf (s := s)).wr (by omega) : FQ s (up s 242 13 0)).tr (y2.tr (fz.tr u2)), u3, u4⟩
            rw [eG s hs hs2, y1, zb_1 rfl, md_reads_b5_eq, if_neg (by first | decide | exact wN1 | (rw [w32_id (by decide) (by decide)]; decide)), z1, ok_bind]
            exact u1
      · refine ⟨false, i, [], hi, fun s hs => ⟨s, ?_, fun _ _ _ _ => rfl, hs.1, fun z => absurd z (by decide)⟩, fun s hs hs2 => ?_, fun z => absurd z (by decide)⟩
        · rw [hF s _ hl, if_neg (by rw [w32_id (by omega) (by omega)]; omega), re_readRules_b5_eq, if_pos (kind s hs.1).1, if_neg (by rw [(kind s hs.1).2]; exact k0), zb_0 (by decide)]
        · have hs0 := hs
          obtain ⟨⟨⟨t1, t2, t3⟩, p, p1, p2, p3⟩, g2, g3, g4, g5, g6⟩ := hs
          obtain ⟨z, z1, z2, z3⟩ := rd_bad (L := L) (l2 := l2) (s := up s 242 13 0) h hi (hs0.1.x (fun a b hh => by unfold up; rw [if_neg (by omega)]))
          refine ⟨z, ?_, ((FQ.rf (s := s)).wr (by omega) : FQ s (up s 242 13 0)).tr z2, by rw [if_neg (by first | decide | exact wN1 | (rw [w32_id (by decide) (by decide)]; decide))]; exact z3, fun z => absurd z (by decide)⟩
          rw [hG s, if_pos (by rw [hs2, t1, w32_id (by omega) (by omega), w32_id (by omega) (by omega)]; omega), if_neg (by rw [g4, w32_id (by omega) (by omega)]; omega), md_reads_b4_eq, md_reads_b5_eq, if_pos (by first | decide | exact w32_0' | exact wM1 | (rw [w32_id (by decide) (by decide)]; decide)), zb_0 (by decide)]
          exact z1
  intro N
  induction N with
  | zero => exact fun i rs h1 h2 h3 h4 h5 => body i rs h2 h3 h4 h5 (fun i' rs' z1 z2 => by omega)
  | succ N ihN => exact fun i rs h1 h2 h3 h4 h5 => body i rs h2 h3 h4 h5 (fun i' rs' z1 z2 z3 z4 z5 => ihN i' rs' (by omega) z2 z3 z4 z5)
theorem rds_law (hq : ru_cell q) (h : TK T n m) : Rds L q T n m 0 [] 1 := by
  refine rds_ok (F := re_readRule L q) (G := fun s => (md_lawRule L s).bind (fun r2 => if w32 r2.1 = 0 then md_reads_b4 L 1 r2.2.2 else md_reads_b3 L 1 r2.2.2)) hq h (fun s l4 _ => ?_) (fun s => ?_) w32_1 (fun i rs h1 h2 h3 h4 => law_rule hq h h1 h2 h3 h4 (by decide)) m 0 [] (by omega) (Nat.zero_le _) (by decide) (fun r hr => (by cases hr)) (Nat.zero_le _)
  · rw [re_readRules_b1_eq]
    simp only [if_neg wN1]
  · rw [md_reads_b1_eq, if_neg (by first | decide | exact wN1 | (rw [w32_id (by decide) (by decide)]; decide))]
    simp only [if_neg wN1]
theorem rds_bel (hq : ru_cell q) (h : TK T n m) : Rds L q T n m 0 [] 0 := by
  refine rds_ok (F := re_readStatement L q) (G := fun s => (md_beliefRule L s).bind (fun r2 => if w32 r2.1 = 0 then md_reads_b4 L 0 r2.2.2 else md_reads_b3 L 0 r2.2.2)) hq h (fun s l4 _ => ?_) (fun s => ?_) w32_0' (fun i rs h1 h2 h3 h4 => bel_rule hq h h1 h2 h3 h4) m 0 [] (by omega) (Nat.zero_le _) (by decide) (fun r hr => (by cases hr)) (Nat.zero_le _)
  · rw [re_readRules_b1_eq]
    simp only [if_pos w32_0']
  · rw [md_reads_b1_eq, if_neg (by first | decide | exact wN1 | (rw [w32_id (by decide) (by decide)]; decide))]
    simp only [if_pos w32_0']
end
