/-! texts: a rule of a law, a rule of a belief -/
def RuJ (L q : Nat) (T : Nat → Int) (n m i : Nat) (rs : List Ru) (F G : hh_Sv → Option hh_Rs) (l2 : Int) : Prop := ∃ (b : Bool) (i2 : Nat) (r : Ru), (i ≤ i2 ∧ i2 ≤ m) ∧ (∀ s, CRs s q T n m i rs → ∃ y, F s = ok L (zb (b = true)) y ∧ FR q s y ∧ CR y T n m i2 ∧ (b = true → CRs y q T n m i2 (rs ++ [r]))) ∧ (∀ s, RGt s T n i rs rs.length → s 242 13 = 0 → ∃ y, G s = md_reads_b5 L l2 (zb (b = true)) y ∧ FQ s y ∧ RG y T n i2 ∧ (b = true → RGt y T n i2 (rs ++ [r]) rs.length)) ∧ (b = true → i < i2 ∧ ru_ok r ∧ (l2 = 0 → r.1 ≤ 5) ∧ 2 * (ru_at rs rs.length + r.2.2.length) ≤ tP T n i2)
section
variable {L q : Nat} {T : Nat → Int} {n m v w i i2 i3 d e f D : Nat} {F H K : hh_Sv → Option hh_Rs} {b : Bool} {cs ds : List Cd} {s y z : hh_Sv} {rs fs : List Ru} {r : Ru} {l2 : Int}
theorem ru_M.eb {t : Nat} (g : ∀ a b, 248 ≤ a → a ≤ 258 → y a b = s a b) (h : ru_M s t rs) : ru_M y t rs := by
  have e : ∀ a, 248 ≤ a → a ≤ 258 → y a = s a := fun a h1 h2 => funext (fun b => g a b h1 h2)
  unfold ru_M
  rw [e 248 (by decide) (by decide), e 252 (by decide) (by decide), e 253 (by decide) (by decide), e 254 (by decide) (by decide), e 255 (by decide) (by decide), e 256 (by decide) (by decide), e 257 (by decide) (by decide), e 258 (by decide) (by decide)]
  exact h
theorem RGt.fr {k : Nat} (h : RGt s T n i rs k) (hr : RG y T n i2) (g : ∀ a b, ¬ (a = 242 ∧ (b = 12 ∨ b = 13 ∨ b = 32 ∨ b = 33)) → y a b = s a b) : RGt y T n i2 rs k := by
  obtain ⟨a1, a2, a3, a4, a5, a6⟩ := h
  exact ⟨hr, ru_M.eb (fun a b h1 h2 => g a b (by omega)) a2, by rw [g _ _ (by omega)]; exact a3, by rw [g _ _ (by omega)]; exact a4, by rw [g _ _ (by omega)]; exact a5, by rw [g _ _ (by omega)]; exact a6⟩
theorem RGt.td {k kk x : Nat} (hf : ru_at (ru_f rs) (ru_f rs).length = ru_at rs rs.length) (hk : kk ≤ 5) (h : RGt s T n i rs k) (hr : RG y T n i2) (ht : TD s y (kk : Int) (x : Int) (ru_at rs rs.length) (ru_f rs).length cs) : RGt y T n i2 (rs ++ [(kk, x, cs)]) k := by
  obtain ⟨a1, a2, a3, a4, a5, a6⟩ := h
  obtain ⟨⟨t1, t2⟩, t3, ⟨t4, t5, t6, t7⟩, t8, t9, t10, t11, t12⟩ := ht
  refine ⟨hr, ?_, by rw [t1, ru_at_al], t10.trans a4, ?_, ?_⟩
  · rw [ru_f_y hk]
    rw [← hf] at t2 t6 t7 t9
    exact ru_M_ap (r := (kk, x, cs)) a2 t3 t8 t9 t4 t5 t6 t7 t2
  · rw [t11, a5, ru_l_ap 6 rs, if_neg (show ¬ kk = 6 by omega)]
  · rw [t12, a6, ru_l_ap 7 rs, if_neg (show ¬ kk = 7 by omega)]
theorem semi_all (b1 : Bool) (hq : ru_cell q) (h : TK T n m) (hi : i2 ≤ m) : ∃ (b : Bool) (i3 : Nat), (i2 ≤ i3 ∧ i3 ≤ m) ∧ (b = true → b1 = true ∧ i2 < i3 ∧ tP T n i2 ≤ tP T n i3) ∧ (∀ (F : hh_Sv → Option hh_Rs) (cs : List Cd) (i v : Nat), JF L q T n m v i F (re_readIf_b1 L) b1 i2 cs → (b1 = true → 2 * cs.length + tP T n i ≤ tP T n i2 + v) → JF L q T n m v i F (fun y => ok L 1 y) b i3 cs) ∧ (∀ y, RG y T n i2 → ∃ z, (if b1 = true then md_reads_b3 L l2 y else md_reads_b5 L l2 0 y) = md_reads_b5 L l2 (zb (b = true)) z ∧ RG z T n i3 ∧ ∀ a b, ¬ (a = 242 ∧ b = 12) → z a b = y a b) := by
  cases b1
  · exact ⟨false, i2, ⟨Nat.le_refl _, hi⟩, fun z => absurd z (by decide), fun F cs i v hF _ => JF.no hF, fun y hy => ⟨y, by rw [if_neg (by first | decide | exact wN1 | (rw [w32_id (by decide) (by decide)]; decide)), zb_0 (by decide)], hy, fun _ _ _ => rfl⟩⟩
  · by_cases hs : tP T n i2 < n ∧ T (tP T n i2) = 59
    · obtain ⟨a1, a2, a3, a4⟩ := tP_s h hi hs (by decide)
      refine ⟨true, i2 + 1, ⟨by omega, by omega⟩, fun _ => ⟨rfl, by omega, by omega⟩, fun F cs i v hF hv => ?_, fun y hy => ?_⟩
      · have := JF.cat (w := 0) hq hF (by have := hv rfl; omega) ((semi_F (L := L) (v := 0) hq h hi).1 hs)
        rw [List.append_nil] at this
        exact this
      · obtain ⟨hT, p, p1, p2, p3⟩ := hy
        obtain ⟨z, z1, z2, z3⟩ := md_takesSign_ok (L := L) (c := 59) hT p1 p2 ⟨by decide, by decide⟩
        rw [p3] at z1 z3
        rw [if_pos hs] at z3
        refine ⟨z, ?_, RG.at ⟨hT, p, p1, p2, p3⟩ (fun a b hh => z2 a b (by omega)) z3 (by omega) a2, z2⟩
        rw [if_pos rfl, md_reads_b3_eq, z1, ok_bind]
        dsimp only
        rw [if_neg (fun u => zb_w.mp u hs), zb_1 rfl]
    · refine ⟨false, i2, ⟨Nat.le_refl _, hi⟩, fun z => absurd z (by decide), fun F cs i v hF hv => ?_, fun y hy => ?_⟩
      · exact JF.no (K := fun y => ok L 1 y) (cs := cs ++ []) (JF.cat (w := 0) hq hF (by have := hv rfl; omega) ((semi_F (L := L) (v := 0) hq h hi).2 hs))
      · obtain ⟨hT, p, p1, p2, p3⟩ := hy
        obtain ⟨z, z1, z2, z3⟩ := md_takesSign_ok (L := L) (c := 59) hT p1 p2 ⟨by decide, by decide⟩
        rw [p3] at z1 z3
        rw [if_neg hs] at z3
        refine ⟨z, ?_, RG.at ⟨hT, p, p1, p2, p3⟩ (fun a b hh => z2 a b (by omega)) z3 (h.qq hi).1 (by rw [← p3]; exact rn_rn p2), z2⟩
        rw [if_pos rfl, md_reads_b3_eq, z1, ok_bind]
        dsimp only
        rw [if_pos (zb_w.mpr hs), md_reads_b4_eq, zb_0 (by decide)]
theorem gl_ok : (ok L (zb (b = true)) y).bind (fun r2 => if w32 r2.1 = 0 then md_reads_b4 L l2 r2.2.2 else md_reads_b3 L l2 r2.2.2) = (if b = true then md_reads_b3 L l2 y else md_reads_b5 L l2 0 y) := by
  rw [ok_bind]
  dsimp only
  cases b
  · rw [if_pos (zb_w.mpr (by decide)), if_neg (by first | decide | exact wN1 | (rw [w32_id (by decide) (by decide)]; decide)), md_reads_b4_eq]
  · rw [if_neg (fun u => zb_w.mp u rfl), if_pos rfl]
theorem ok_wrap : (ok L (zb (b = true)) y).bind (fun r6 => if r6.1 = 0 ∨ r6.1 = 1 then ok L r6.1 r6.2.2 else none) = ok L (zb (b = true)) y := by
  rw [ok_bind]
  exact if_pos zb_01
theorem b4_F {kk : Nat} {x : Int} {fl : Int} (hq : ru_cell q) (h : JF L q T n m v i (re_readIf L q fl) (fun y => ok L 1 y) b i2 cs) : JF L q T n m v i (re_readRule_b4 L q (ru_k kk) x q fl) (fun y => (ru_add L q (ru_k kk) x y).bind (fun r => ok L 1 r.2.2)) b i2 cs := by
  have kq := ru_kd (L := L) hq
  refine JF.eq (fun s _ => ?_) (JF.bind (K := fun y => (ru_add L q (ru_k kk) x y).bind (fun r => ok L 1 r.2.2)) h)
  rw [re_readRule_b4_eq]
  simp only [if_pos kq]
theorem told_F {most k : Int} {c : Nat} (h : TK T n m) (hi : i ≤ m) (hmo : 0 ≤ most ∧ most < 1000) (hn : ¬ nOk T n (tP T n i) 0 most = true) (hr : RG s T n i) (hc : c < 24) (h8 : s 248 16 = (c : Int)) : ∃ y, md_ruleTold L k most s = ok L 0 y ∧ RG y T n i ∧ FQ s y := by
  have e8 : 384 + s 248 16 = ((384 + c : Nat) : Int) := by rw [h8]; omega
  have hin : (0 : Int) ≤ ((384 + c : Nat) : Int) ∧ ((384 + c : Nat) : Int) < 408 := by omega
  have fr : ∀ a b, ¬ ((a = 252 ∨ a = 253) ∧ b = 384 + c) → up (up s 252 (384 + c) k) 253 (384 + c) 0 a b = s a b := fun a b hh => by unfold up; rw [if_neg (by omega), if_neg (by omega)]
  have hr2 : RG (up (up s 252 (384 + c) k) 253 (384 + c) 0) T n i := hr.x (fun a b hh => fr a b (by omega))
  obtain ⟨hT, p, p1, p2, p3⟩ := hr2
  obtain ⟨z, z1, z2, z3, z4⟩ := md_takesNumber_ok (L := L) (lo := 0) (hi := most) hT p1 p2 ⟨by decide, by decide⟩ ⟨by omega, by omega⟩
  rw [p3] at z1 z3
  rw [if_neg hn] at z3
  have f1 : FQ s (up (up s 252 (384 + c) k) 253 (384 + c) 0) := ((FQ.rf (s := s)).wr (by omega)).wr (by omega)
  refine ⟨z, ?_, RG.at ⟨hT, p, p1, p2, p3⟩ (fun a b hh => z2 a b (by omega)) z3 (h.qq hi).1 (by rw [← p3]; exact rn_rn p2), f1.tr (fun a b x1 _ _ _ => z2 a b (by omega))⟩
  rw [md_ruleTold_eq, if_pos (by first | decide | exact w32_0' | exact wM1 | (rw [w32_id (by decide) (by decide)]; decide)), e8, if_pos hin, if_pos hin, if_neg (by rw [w32_id (by omega) (by omega)]; omega), Int.toNat_natCast, z1, ok_bind]
  dsimp only
  rw [if_pos (zb_w.mpr hn)]
theorem law_rule (hq : ru_cell q) (h : TK T n m) (hi : i ≤ m) (h24 : rs.length < 24) (hok : ∀ r ∈ rs, ru_ok r) (hj : 2 * ru_at rs rs.length ≤ tP T n i) (hl : l2 ≠ 0) : RuJ L q T n m i rs (re_readRule L q) (fun s => (md_lawRule L s).bind (fun r2 => if w32 r2.1 = 0 then md_reads_b4 L l2 r2.2.2 else md_reads_b3 L l2 r2.2.2)) l2 := by
  have hf := ru_f_at rs hok
  have hfl := ru_f_len (rs := rs)
  by_cases hP : ∃ kk, (kk ≤ 3 ∨ kk = 6 ∨ kk = 7) ∧ wc T n (tP T n i) = wq (ru_k kk).toNat
  · obtain ⟨kk, hk, hw⟩ := hP
    have hkr : 256 ≤ wq (ru_k kk).toNat := (show ∀ kk : Nat, kk < 8 → (kk ≤ 3 ∨ kk = 6 ∨ kk = 7) → 256 ≤ wq (ru_k kk).toNat by decide +kernel) kk (by omega) hk
    have mb := mo_bd kk
    obtain ⟨a1, a2, a3, a4, a5, a6⟩ := tP_w h hi hw hkr
    by_cases hn : nOk T n (tP T n (i + 1)) 0 (mo kk) = true
    · have tF := (law_F (L := L) (q := q) (K := fun y => ok L 1 y) (cs := []) hq h hi hk hw).1 hn
      obtain ⟨b1, b2, b3, b4, b5, b6⟩ := tP_n h (by omega) hn
      obtain ⟨x, hx⟩ : ∃ x : Nat, tC T n (tP T n (i + 1)) = (x : Int) := ⟨(tC T n (tP T n (i + 1))).toNat, by omega⟩
      by_cases hk3 : kk ≤ 3
      · rw [if_pos (by omega), hx] at tF
        obtain ⟨c1, j1, ds, ⟨o1, o2⟩, o3, o4, o5⟩ := if_ok (L := L) (i := i + 1 + 1) hq h (by omega)
        obtain ⟨b, i3, s1, s2, s3, s4⟩ := semi_all (L := L) (l2 := l2) c1 hq h o2
        have uF := b4_F (kk := kk) (x := (x : Int)) hq (s3 _ ds (i + 1 + 1) 0 o3 (fun hb => by have := (o5 hb).1; omega))
        have vF : JF L q T n m 0 i (re_readRule L q) (fun y => (ru_add L q (ru_k kk) (x : Int) y).bind (fun r => ok L 1 r.2.2)) b i3 ds := JF.cat (cs := []) (w := 0) hq tF (by rw [List.length_nil]; omega) uF
        refine ⟨b, i3, (kk, x, ds), ⟨by omega, s1.2⟩, fun s hs => cls_rule hq (by omega) h24 hj vF hs, fun s hs hd => ?_, fun hb => ?_⟩
        · obtain ⟨y, y1, y2, y3, y4⟩ := law_G (L := L) (v := 0) (d := 0) h hi hk3 hw s (ru_at rs rs.length) hs.1 hd hs.2.2.1 (by omega)
          obtain ⟨w0, w1, w2⟩ := y4 rfl
          rw [if_pos rfl] at y1
          have hy : ∀ a b, ¬ (a = 242 ∧ (b = 12 ∨ b = 13 ∨ b = 14 ∨ b = 32 ∨ b = 33)) → ¬ (256 ≤ a ∧ a ≤ 258 ∧ 4800 + ru_at rs rs.length ≤ b) → y a b = s a b := y2
          obtain ⟨u, u1, u2, u3, u4⟩ := told_Y (L := L) (k := (kk : Int)) (most := mo kk) (j := ru_at rs rs.length) (c := (ru_f rs).length) h (by omega) (by omega) ⟨by omega, by omega⟩ hn o4 y3 w0 w1 (by omega) (by rw [hy _ _ (by omega) (by omega)]; exact hs.2.1.1)
          have eL : md_lawRule L s = ok L (zb (c1 = true)) u := by
            rw [y1]
            show (md_ruleTold L (kk : Int) (mo kk) y).bind _ = _
            rw [u1]
            exact ok_wrap
          obtain ⟨z, z1, z2, z3⟩ := s4 u u2
          refine ⟨z, ?_, (y2.fq.tr u3).tr (fun a b x1 _ _ _ => z3 a b (by omega)), z2, fun hb => ?_⟩
          · show (md_lawRule L s).bind _ = _
            rw [eL, gl_ok]
            exact z1
          · have t := u4 (s2 hb).1
            rw [hx] at t
            have t2 : TD s u (kk : Int) (x : Int) (ru_at rs rs.length) (ru_f rs).length ds := t.fr (fun a b hh => hy a b (by omega) (by omega))
            exact (RGt.td hf (by omega) hs u2 t2).fr z2 (fun a b hh => z3 a b (by omega))
        · obtain ⟨t1, t2, t3⟩ := s2 hb
          obtain ⟨g1, g2, g3⟩ := o5 t1
          refine ⟨by omega, ⟨by show kk ≤ 7; omega, by show x ≤ 100; omega, g2, g3, fun z => absurd z (by show ¬ 5 < kk; omega), fun z => ?_⟩, fun z => absurd z hl, by show 2 * (_ + ds.length) ≤ _; omega⟩
          show x ≤ 3
          have hm3 : mo kk = 3 := by
            have z2 : kk = 1 ∨ kk = 2 := z
            rcases z2 with z2 | z2 <;> subst z2 <;> rfl
          omega
      · rw [if_neg (by omega), hx] at tF
        have hm9 : mo kk = 99 := by
          have z2 : kk = 6 ∨ kk = 7 := by omega
          rcases z2 with z2 | z2 <;> subst z2 <;> rfl
        obtain ⟨b, i3, s1, s2, s3, s4⟩ := semi_all (L := L) (i2 := i + 1 + 1) (l2 := l2) true hq h (by omega)
        have o3 : JF L q T n m 0 (i + 1 + 1) (re_readIf L q 0) (re_readIf_b1 L) true (i + 1 + 1) [] := JF.eq (fun s _ => by rw [re_readIf_eq, if_pos (by first | decide | exact w32_0' | exact wM1 | (rw [w32_id (by decide) (by decide)]; decide))]) (JF.rf hq)
        have uF := b4_F (kk := kk) (x := (x : Int)) hq (s3 _ [] (i + 1 + 1) 0 o3 (fun hb => by rw [List.length_nil]; omega))
        have vF : JF L q T n m 0 i (re_readRule L q) (fun y => (ru_add L q (ru_k kk) (x : Int) y).bind (fun r => ok L 1 r.2.2)) b i3 [] := JF.cat (cs := []) (ds := []) (w := 0) hq tF (by rw [List.length_nil]; omega) uF
        refine ⟨b, i3, (kk, x, []), ⟨by omega, s1.2⟩, fun s hs => cls_rule hq (by omega) h24 hj vF hs, fun s hs hd => ?_, fun hb => ?_⟩
        · obtain ⟨y, y1, y2, y3, y4⟩ := law_G6 (L := L) (v := 0) (d := 0) h hi (by omega) hw s (ru_at rs rs.length) hs.1 hd hs.2.2.1 (by omega)
          obtain ⟨w0, w1, w2⟩ := y4 rfl
          rw [if_pos rfl] at y1
          have hy : ∀ a b, ¬ (a = 242 ∧ (b = 12 ∨ b = 13 ∨ b = 14 ∨ b = 32 ∨ b = 33)) → ¬ (256 ≤ a ∧ a ≤ 258 ∧ 4800 + ru_at rs rs.length ≤ b) → y a b = s a b := y2
          rw [hm9] at hn
          obtain ⟨u, u1, u2, u3, u4⟩ := JG.numY (L := L) (v := 0) (d := 0) (fun y => ok L 0 y) (fun x y => if w32 (if kk = 6 then 1 else 0) = 0 then ok L 1 (up y 251 16 x) else ok L 1 (up y 250 16 x)) h (by omega) ⟨by decide, by decide⟩ ⟨by decide, by decide⟩ hn y (ru_at rs rs.length) y3 w0 w1 (by omega)
          obtain ⟨v0, v1, v2⟩ := u4 rfl
          rw [if_pos rfl, hx] at u1
          have hu : ∀ a b, ¬ (a = 242 ∧ (b = 12 ∨ b = 13 ∨ b = 14 ∨ b = 32 ∨ b = 33)) → ¬ (256 ≤ a ∧ a ≤ 258 ∧ 4800 + ru_at rs rs.length ≤ b) → u a b = s a b := fun a b x1 x2 => (u2 a b x1 x2).trans (hy a b x1 x2)
          have cell : ∃ k : Nat, (k = (if kk = 6 then 250 else 251)) ∧ md_lawRule L s = ok L (zb (true = true)) (up u k 16 (x : Int)) := by
            by_cases e6 : kk = 6
            · refine ⟨250, by rw [if_pos e6], ?_⟩
              rw [y1]
              show (md_takesNumber L 0 99 y).bind _ = _
              refine Eq.trans u1 ?_
              rw [if_pos e6, zb_1 rfl]
              exact if_neg wN1
            · refine ⟨251, by rw [if_neg e6], ?_⟩
              rw [y1]
              show (md_takesNumber L 0 99 y).bind _ = _
              refine Eq.trans u1 ?_
              rw [if_neg e6, zb_1 rfl]
              exact if_pos w32_0'
          obtain ⟨k, hkc, eL⟩ := cell
          have hk250 : k = 250 ∨ k = 251 := by rw [hkc]; split <;> decide
          have fw : ∀ a b, ¬ (a = k ∧ b = 16) → up u k 16 (x : Int) a b = u a b := fun a b hh => by unfold up; rw [if_neg hh]
          obtain ⟨z, z1, z2, z3⟩ := s4 (up u k 16 (x : Int)) (u3.x (fun a b hh => fw a b (by omega)))
          refine ⟨z, ?_, ((y2.fq.tr u2.fq).tr ((FQ.rf (s := u)).wr (by omega))).tr (fun a b x1 _ _ _ => z3 a b (by omega)), z2, fun hb => ?_⟩
          · show (md_lawRule L s).bind _ = _
            rw [eL, gl_ok]
            exact z1
          · obtain ⟨g1, g2, g3, g4, g5, g6⟩ := hs
            have v1' : u 242 14 = ((4800 + ru_at rs rs.length : Nat) : Int) := v1
            refine ⟨z2, ?_, ?_, ?_, ?_, ?_⟩
            · rw [ru_f_n (r := (kk, x, [])) (show 5 < kk by omega)]
              obtain ⟨m1, m2⟩ := g2
              have ez : ∀ a b, ¬ (a = 242 ∧ (b = 12 ∨ b = 13 ∨ b = 14 ∨ b = 32 ∨ b = 33)) → ¬ (256 ≤ a ∧ a ≤ 258 ∧ 4800 + ru_at rs rs.length ≤ b) → ¬ (a = k ∧ b = 16) → z a b = s a b := fun a b x1 x2 x3 => by rw [z3 a b (by omega), fw a b x3, hu a b x1 x2]
              refine ⟨by rw [ez _ _ (by omega) (by omega) (by omega)]; exact m1, fun t r hr => ?_⟩
              obtain ⟨p1, p2, p3, p4, p5⟩ := m2 t r hr
              rw [ez _ _ (by omega) (by omega) (by omega), ez _ _ (by omega) (by omega) (by omega), ez _ _ (by omega) (by omega) (by omega), ez _ _ (by omega) (by omega) (by omega)]
              refine ⟨p1, p2, p3, p4, fun j c hc => ?_⟩
              have hin := ru_at_in hr hc
              rw [hf] at hin
              rw [ez _ _ (by omega) (by omega) (by omega), ez _ _ (by omega) (by omega) (by omega), ez _ _ (by omega) (by omega) (by omega)]
              exact p5 j c hc
            · rw [z3 _ _ (by omega), fw _ _ (by omega), v1', ru_at_al]
              rfl
            · rw [z3 _ _ (by omega), fw _ _ (by omega), hu _ _ (by omega) (by omega)]
              exact g4
            · rw [z3 _ _ (by omega), ru_l_ap 6 rs]
              by_cases e6 : kk = 6
              · rw [if_pos e6] at hkc
                rw [hkc, up_s, if_pos e6]
              · rw [if_neg e6] at hkc
                rw [fw _ _ (by omega), hu _ _ (by omega) (by omega), if_neg e6]
                exact g5
            · rw [z3 _ _ (by omega), ru_l_ap 7 rs]
              by_cases e6 : kk = 6
              · rw [if_pos e6] at hkc
                rw [fw _ _ (by omega), hu _ _ (by omega) (by omega), if_neg (show ¬ kk = 7 by omega)]
                exact g6
              · rw [if_neg e6] at hkc
                rw [hkc, up_s, if_pos (show kk = 7 by omega)]
        · obtain ⟨t1, t2, t3⟩ := s2 hb
          exact ⟨by omega, ⟨by show kk ≤ 7; omega, by show x ≤ 100; omega, fun c hc => (by cases hc), Or.inl rfl, fun _ => rfl, fun z => absurd z (by show ¬ (kk = 1 ∨ kk = 2); omega)⟩, fun z => absurd z hl, by show 2 * (_ + 0) ≤ _; omega⟩
    · have tF := (law_F (L := L) (q := q) (K := fun y => (ru_add L q (ru_k 0) ((0 : Nat) : Int) y).bind (fun r => ok L 1 r.2.2)) (cs := []) hq h hi hk hw).2 hn
      refine ⟨false, i + 1, (0, 0, []), ⟨by omega, by omega⟩, fun s hs => ?_, fun s hs hd => ?_, fun z => absurd z (by decide)⟩
      · exact cls_rule (kk := 0) (x := 0) hq (by decide) h24 hj tF hs
      · have fin : ∀ u, md_lawRule L s = ok L 0 u → RG u T n (i + 1) → FQ s u → ∃ y, (fun s => (md_lawRule L s).bind (fun r2 => if w32 r2.1 = 0 then md_reads_b4 L l2 r2.2.2 else md_reads_b3 L l2 r2.2.2)) s = md_reads_b5 L l2 (zb (false = true)) y ∧ FQ s y ∧ RG y T n (i + 1) ∧ (false = true → RGt y T n (i + 1) (rs ++ [(0, 0, [])]) rs.length) := fun u u1 u2 u3 => ⟨u, by
          show (md_lawRule L s).bind _ = _
          rw [u1, ok_bind]
          dsimp only
          rw [if_pos (by first | decide | exact w32_0' | exact wM1 | (rw [w32_id (by decide) (by decide)]; decide)), md_reads_b4_eq, zb_0 (by decide)], u3, u2, fun z => absurd z (by decide)⟩
        by_cases hk3 : kk ≤ 3
        · obtain ⟨y, y1, y2, y3, y4⟩ := law_G (L := L) (v := 0) (d := 0) h hi hk3 hw s (ru_at rs rs.length) hs.1 hd hs.2.2.1 (by omega)
          rw [if_pos rfl] at y1
          obtain ⟨u, u1, u2, u3⟩ := told_F (L := L) (k := (kk : Int)) (c := (ru_f rs).length) h (by omega) ⟨mb.1, by omega⟩ hn y3 (by omega) (by rw [y2 _ _ (by omega) (by omega)]; exact hs.2.1.1)
          refine fin u ?_ u2 (y2.fq.tr u3)
          rw [y1]
          show (md_ruleTold L (kk : Int) (mo kk) y).bind _ = _
          rw [u1, ok_bind]
          exact if_pos (Or.inl rfl)
        · have hm9 : mo kk = 99 := by
            have z2 : kk = 6 ∨ kk = 7 := by omega
            rcases z2 with z2 | z2 <;> subst z2 <;> rfl
          rw [hm9] at hn
          obtain ⟨y, y1, y2, y3, y4⟩ := law_G6 (L := L) (v := 0) (d := 0) h hi (by omega) hw s (ru_at rs rs.length) hs.1 hd hs.2.2.1 (by omega)
          obtain ⟨w0, w1, w2⟩ := y4 rfl
          rw [if_pos rfl] at y1
          obtain ⟨u, u1, u2, u3, u4⟩ := JG.numN (L := L) (v := 0) (d := 0) (fun y => if w32 (if kk = 6 then 1 else 0) = 0 then ok L 1 (up y 251 16 (y 242 33)) else ok L 1 (up y 250 16 (y 242 33))) (K := fun y => ok L 0 y) h (by omega) ⟨by decide, by decide⟩ ⟨by decide, by decide⟩ hn y (ru_at rs rs.length) y3 w0 w1 (by omega)
          rw [if_pos rfl] at u1
          refine fin u ?_ u3 (y2.fq.tr u2.fq)
          rw [y1]
          exact u1
  · have hw : ∀ w, w ≤ 5 → wc T n (tP T n i) ≠ wq w := fun w hw5 z => by
      obtain ⟨kk, hk8, hk1, hk2⟩ := (show ∀ w : Nat, w < 6 → ∃ kk, kk < 8 ∧ (kk ≤ 3 ∨ kk = 6 ∨ kk = 7) ∧ (ru_k kk).toNat = w by decide +kernel) w (by omega)
      exact hP ⟨kk, hk1, by rw [hk2]; exact z⟩
    have hQ : ¬ ((tP T n i < n ∧ isA (T (tP T n i)) = true) ∧ 0 ≤ wx T n (tP T n i) ∧ wx T n (tP T n i) ≤ 5) := fun z => by
      obtain ⟨k, hk⟩ : ∃ k : Nat, wx T n (tP T n i) = (k : Int) := ⟨(wx T n (tP T n i)).toNat, by omega⟩
      exact hw k (by omega) ((wx_iff (h.qq hi).1 (by omega)).mp hk)
    refine ⟨false, i, (0, 0, []), ⟨Nat.le_refl _, hi⟩, fun s hs => ?_, fun s hs hd => ?_, fun z => absurd z (by decide)⟩
    · refine ⟨s, ?_, fun _ _ _ _ => rfl, hs.1, fun z => absurd z (by decide)⟩
      rw [re_readRule_eq, re_isWordOf_ok hs.1 ⟨by decide, by decide⟩ ⟨by decide, by decide⟩, ok_bind]
      dsimp only
      rw [if_pos (zb_w.mpr hQ), zb_0 (by decide)]
    · obtain ⟨y, y1, y2, y3, y4⟩ := law_Gn (L := L) (v := 0) (d := 0) (e := 0) (K := fun y => ok L 1 y) (cs := []) h hi hw s (ru_at rs rs.length) hs.1 hd hs.2.2.1 (by omega)
      rw [if_neg (by first | decide | exact wN1 | (rw [w32_id (by decide) (by decide)]; decide))] at y1
      refine ⟨y, ?_, y2.fq, y3, fun z => absurd z (by decide)⟩
      show (md_lawRule L s).bind _ = _
      rw [y1, ok_bind]
      dsimp only
      rw [if_pos (by first | decide | exact w32_0' | exact wM1 | (rw [w32_id (by decide) (by decide)]; decide)), md_reads_b4_eq, zb_0 (by decide)]
end
