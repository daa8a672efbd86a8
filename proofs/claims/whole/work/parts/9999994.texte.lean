/-! texts: a comparison, both sides -/
def GD1 (T : Nat → Int) (n i i2 e : Nat) (cs : List Cd) : Prop := i < i2 ∧ 2 * cs.length + tP T n i ≤ tP T n i2 ∧ (∀ c ∈ cs, cd_ok c) ∧ ∀ (k : Nat) (l : List Cd), k + e ≤ 40 → cd_d (cs ++ l) k = cd_d l (k + 1)
def GD0 (T : Nat → Int) (n i i2 e : Nat) (cs : List Cd) : Prop := i ≤ i2 ∧ 2 * cs.length + tP T n i ≤ tP T n i2 ∧ (∀ c ∈ cs, cd_ok c) ∧ ∀ (k : Nat) (l : List Cd), k + e ≤ 40 → cd_d (cs ++ l) (k + 1) = cd_d l (k + 1)
theorem cd_num {g a : Nat} {x : Int} (hg : g ≤ 2) (ha : a ≤ 6) (hx : 0 ≤ x ∧ x ≤ 99) : bOr (bOr (iShl (cd_w a) 14) (iShl (cd_g g) 7)) x = cd_n (g, a, x.toNat) := by
  have hw := cd_wr a ha
  have hc : 60 ≤ cd_g g ∧ cd_g g ≤ 62 := (show ∀ g : Nat, g < 3 → 60 ≤ cd_g g ∧ cd_g g ≤ 62 by decide +kernel) g (by omega)
  have e1 : cd_n (g, a, x.toNat) = cd_w a * 16384 + cd_g g * 128 + x := by
    have hh : g = 0 ∨ g = 1 ∨ g = 2 := by omega
    rcases hh with hh | hh | hh <;> subst hh
    · show cd_w a * 16384 + cd_g 0 * 128 + (x.toNat : Int) = _
      omega
    · show cd_w a * 16384 + cd_g 1 * 128 + (x.toNat : Int) = _
      omega
    · show cd_w a * 16384 + cd_g 2 * 128 + (x.toNat : Int) = _
      omega
  rw [iShl_id (b := 14) (k := 14) rfl (by decide), iShl_id (b := 7) (k := 7) rfl (by decide), bOr_comm (a := cd_w a * 2 ^ 14), bOr_add (n := 14) (by omega) (by omega) (by omega) (by omega), show cd_g g * 2 ^ 7 + cd_w a * 2 ^ 14 = (cd_g g + cd_w a * 128) * 2 ^ 7 by omega, bOr_comm, bOr_add (n := 7) (by omega) (by omega) (by omega) (by omega), e1]
  omega
section
variable {L q : Nat} {T : Nat → Int} {n m v w i i2 i3 d e f D : Nat} {F H K : hh_Sv → Option hh_Rs} {b : Bool} {cs ds : List Cd} {s : hh_Sv}
theorem cmp_b2Y {g a : Nat} (hq : ru_cell q) (h : TK T n m) (hi : i ≤ m) (hg : g ≤ 2) (ha : a ≤ 6) (hs : tP T n i < n ∧ T (tP T n i) = cd_g g) (hv : 1 ≤ v) (hn : nOk T n (tP T n (i + 1)) 0 99 = true) : JF L q T n m v i (re_readComparison_b2 L q (cd_w a)) (fun y => ok L 1 y) true (i + 2) [(g, a, (tC T n (tP T n (i + 1))).toNat)] := by
  have hsg : isA (cd_g g) = false ∧ isD (cd_g g) = false := (show ∀ g : Nat, g < 3 → isA (cd_g g) = false ∧ isD (cd_g g) = false by decide +kernel) g (by omega)
  obtain ⟨a1, a2, a3, a4⟩ := tP_s h hi hs hsg
  obtain ⟨b1, b2, b3, b4, b5, b6⟩ := tP_n h (by omega) hn
  have kq := ru_kd (L := L) hq
  refine JF.eq (fun s _ => re_readComparison_b2_eq L q (cd_w a) s) ?_
  have t1 := JF.takeV (L := L) (q := q) (T := T) (n := n) (m := m) (v := v) (i := i) (fun c y => (re_isNumber L 0 99 y).bind (fun r2 => if w32 r2.1 = 0 then ok L 0 r2.2.2 else (re_take L r2.2.2).bind (fun r3 => if kd L q = 26 then (ru_write L q (bOr (bOr (iShl (cd_w a) 14) (iShl c 7)) r3.1) r3.2.2).bind (fun r4 => ok L 1 r4.2.2) else none))) hq a1
  have t2 := JF.takeV (L := L) (q := q) (T := T) (n := n) (m := m) (v := 1) (i := i + 1) (fun x y => (ru_write L q (bOr (bOr (iShl (cd_w a) 14) (iShl (cd_g g) 7)) x) y).bind (fun r4 => ok L 1 r4.2.2)) hq b1
  have t3 := JF.put (L := L) (q := q) (T := T) (n := n) (m := m) (v := 2) (i := i + 1 + 1) (K := fun y => ok L 1 y) (x := (g, a, (tC T n (tP T n (i + 1))).toNat)) hq (Nat.le_refl 2) (cd_num hg ha ⟨b5, b6⟩)
  refine JF.cat hq t1 (w := 1) (by rw [List.length_nil]; omega) ?_
  refine JF.eq (fun y hc => ?_) (JF.cat (w := 2) hq t2 (by rw [List.length_nil]; omega) t3)
  rw [re_isNumber_ok hc ⟨by decide, by decide⟩ ⟨by decide, by decide⟩, ok_bind]
  dsimp only
  rw [if_neg (fun z => zb_w.mp z hn), a4]
  simp only [if_pos kq]
theorem cmp_b2N {g a : Nat} (hq : ru_cell q) (h : TK T n m) (hi : i ≤ m) (hg : g ≤ 2) (hs : tP T n i < n ∧ T (tP T n i) = cd_g g) (hn : ¬ nOk T n (tP T n (i + 1)) 0 99 = true) : JF L q T n m v i (re_readComparison_b2 L q (cd_w a)) K false (i + 1) cs := by
  have hsg : isA (cd_g g) = false ∧ isD (cd_g g) = false := (show ∀ g : Nat, g < 3 → isA (cd_g g) = false ∧ isD (cd_g g) = false by decide +kernel) g (by omega)
  obtain ⟨a1, a2, a3, a4⟩ := tP_s h hi hs hsg
  refine JF.eq (fun s _ => re_readComparison_b2_eq L q (cd_w a) s) ?_
  have t1 := JF.takeV (L := L) (q := q) (T := T) (n := n) (m := m) (v := v) (i := i) (fun c y => (re_isNumber L 0 99 y).bind (fun r2 => if w32 r2.1 = 0 then ok L 0 r2.2.2 else (re_take L r2.2.2).bind (fun r3 => if kd L q = 26 then (ru_write L q (bOr (bOr (iShl (cd_w a) 14) (iShl c 7)) r3.1) r3.2.2).bind (fun r4 => ok L 1 r4.2.2) else none))) hq a1
  refine JF.no (K := fun y => ok L 1 y) (cs := []) (JF.cat hq t1 (w := 0) (by rw [List.length_nil]; omega) (JF.eq (fun y hc => ?_) JF.fl))
  rw [re_isNumber_ok hc ⟨by decide, by decide⟩ ⟨by decide, by decide⟩, ok_bind]
  dsimp only
  rw [if_pos (zb_w.mpr hn)]
theorem cmp_b12Y {g a : Nat} (hD : 2 < D) (h : TK T n m) (hi : i ≤ m) (hg : g ≤ 2) (hv : 1 ≤ v) (hn : nOk T n (tP T n i) 0 99 = true) : JG L T n v i d d (md_single_b12 L D (a : Int) (g : Int)) (fun y => ok L 1 y) true (i + 1) [(g, a, (tC T n (tP T n i)).toNat)] := by
  obtain ⟨b1, b2, b3, b4, b5, b6⟩ := tP_n h (by omega) hn
  refine JG.eq (H := fun s => (md_takesNumber L 0 99 s).bind (fun r => if w32 r.1 = 0 then ok L 0 r.2.2 else (md_puts L (g : Int) (a : Int) (r.2.2 242 33) r.2.2).bind (fun r2 => ok L 1 r2.2.2))) (fun s _ _ => ?_) ?_
  · rw [md_single_b12_eq, if_neg (by rw [w32_id (by omega) (by omega)]; omega), if_pos hD]
    simp only [if_pos (show 1 < D by omega)]
  have t1 := JG.numY (L := L) (T := T) (n := n) (m := m) (v := v) (i := i) (d := d) (fun y => ok L 0 y) (fun x y => (md_puts L (g : Int) (a : Int) x y).bind (fun r2 => ok L 1 r2.2.2)) h hi ⟨by decide, by decide⟩ ⟨by decide, by decide⟩ hn
  have hq2 := h.qq (i := i + 1) (by omega)
  have t2 := JG.put (L := L) (T := T) (n := n) (v := 2) (i := i + 1) (d := d) (K := fun y => ok L 1 y) (x := (g, a, (tC T n (tP T n i)).toNat)) (c1 := (g : Int)) (c2 := (a : Int)) (c3 := tC T n (tP T n i)) (Nat.le_refl 2) h.1 ⟨rfl, rfl, by show tC T n (tP T n i) = (((tC T n (tP T n i)).toNat : Nat) : Int); omega⟩ hq2.1
  exact JG.cat (w := 2) t1 (by rw [List.length_nil]; omega) t2
theorem cmp_b12N {a : Nat} {g : Int} (hD : 2 < D) (h : TK T n m) (hi : i ≤ m) (hg : I32 g ∧ g ≠ -1) (hn : ¬ nOk T n (tP T n i) 0 99 = true) : JG L T n v i d e (md_single_b12 L D (a : Int) g) K false i cs := by
  refine JG.eq (H := fun s => (md_takesNumber L 0 99 s).bind (fun r => if w32 r.1 = 0 then ok L 0 r.2.2 else (md_puts L g (a : Int) (r.2.2 242 33) r.2.2).bind (fun r2 => ok L 1 r2.2.2))) (fun s _ _ => ?_) ?_
  · rw [md_single_b12_eq, if_neg (by rw [hg.1.w]; exact hg.2), if_pos hD]
    simp only [if_pos (show 1 < D by omega)]
  have t1 := JG.numN (L := L) (T := T) (n := n) (m := m) (v := v) (i := i) (d := d) (fun y => (md_puts L g (a : Int) (y 242 33) y).bind (fun r2 => ok L 1 r2.2.2)) (K := fun y => ok L 0 y) h hi ⟨by decide, by decide⟩ ⟨by decide, by decide⟩ hn
  exact JG.no (K := fun y => ok L 1 y) (e := e) (cs := []) (JG.cat (w := 0) t1 (by rw [List.length_nil]; omega) JG.fl)
/-- the signs, class -/
theorem cmp_sC {c : Int} {g : Nat} (h : CR s T n m i) (hg : g ≤ 2) (hs : tP T n i < n ∧ T (tP T n i) = cd_g g) : (re_isSign L 60 s).bind (fun r3 => if w32 r3.1 = 0 then (re_isSign L 62 r3.2.2).bind (fun r4 => if w32 r4.1 = 0 then (re_isSign L 61 r4.2.2).bind (fun r5 => if w32 r5.1 = 0 then ok L 0 r5.2.2 else re_readComparison_b2 L q c r5.2.2) else re_readComparison_b2 L q c r4.2.2) else re_readComparison_b2 L q c r3.2.2) = re_readComparison_b2 L q c s := by
  have e0 := re_isSign_ok (L := L) (c := 60) h (by decide) ⟨by decide, by decide⟩
  have e1 := re_isSign_ok (L := L) (c := 62) h (by decide) ⟨by decide, by decide⟩
  have e2 := re_isSign_ok (L := L) (c := 61) h (by decide) ⟨by decide, by decide⟩
  have hh : g = 0 ∨ g = 1 ∨ g = 2 := by omega
  rw [e0, ok_bind]
  dsimp only
  rcases hh with hh | hh | hh <;> subst hh
  · have h1 : T (tP T n i) = 60 := hs.2
    rw [if_neg (fun z => zb_w.mp z ⟨hs.1, h1⟩)]
  · have h1 : T (tP T n i) = 62 := hs.2
    rw [if_pos (zb_w.mpr (by omega)), e1, ok_bind]
    dsimp only
    rw [if_neg (fun z => zb_w.mp z ⟨hs.1, h1⟩)]
  · have h1 : T (tP T n i) = 61 := hs.2
    rw [if_pos (zb_w.mpr (by omega)), e1, ok_bind]
    dsimp only
    rw [if_pos (zb_w.mpr (by omega)), e2, ok_bind]
    dsimp only
    rw [if_neg (fun z => zb_w.mp z ⟨hs.1, h1⟩)]
theorem cmp_sC0 {c : Int} (h : CR s T n m i) (hs : ¬ (tP T n i < n ∧ (T (tP T n i) = 60 ∨ T (tP T n i) = 62 ∨ T (tP T n i) = 61))) : (re_isSign L 60 s).bind (fun r3 => if w32 r3.1 = 0 then (re_isSign L 62 r3.2.2).bind (fun r4 => if w32 r4.1 = 0 then (re_isSign L 61 r4.2.2).bind (fun r5 => if w32 r5.1 = 0 then ok L 0 r5.2.2 else re_readComparison_b2 L q c r5.2.2) else re_readComparison_b2 L q c r4.2.2) else re_readComparison_b2 L q c r3.2.2) = ok L 0 s := by
  rw [re_isSign_ok (L := L) (c := 60) h (by decide) ⟨by decide, by decide⟩, ok_bind]
  dsimp only
  rw [if_pos (zb_w.mpr (by omega)), re_isSign_ok (L := L) (c := 62) h (by decide) ⟨by decide, by decide⟩, ok_bind]
  dsimp only
  rw [if_pos (zb_w.mpr (by omega)), re_isSign_ok (L := L) (c := 61) h (by decide) ⟨by decide, by decide⟩, ok_bind]
  dsimp only
  rw [if_pos (zb_w.mpr (by omega))]
/-- the signs, reference -/
theorem cmp_sG {a g : Nat} (hD : 2 < D) (h : TK T n m) (hi : i ≤ m) (hg : g ≤ 2) (hs : tP T n i < n ∧ T (tP T n i) = cd_g g) : JG L T n v i d d (fun s => (md_takesSign L 60 s).bind (fun r3 => if w32 r3.1 = 0 then (if 2 < D then md_takesSign L 62 r3.2.2 else none).bind (fun r4 => if w32 r4.1 = 0 then (if 2 < D then md_takesSign L 61 r4.2.2 else none).bind (fun r5 => if w32 r5.1 = 0 then md_single_b12 L D (a : Int) (-1) r5.2.2 else md_single_b12 L D (a : Int) 2 r5.2.2) else md_single_b12 L D (a : Int) 1 r4.2.2) else md_single_b12 L D (a : Int) 0 r3.2.2)) (md_single_b12 L D (a : Int) (g : Int)) true (i + 1) [] := by
  simp only [if_pos hD]
  have x0 : JG L T n v i d d (fun s => (md_takesSign L 61 s).bind (fun r5 => if w32 r5.1 = 0 then md_single_b12 L D (a : Int) (-1) r5.2.2 else md_single_b12 L D (a : Int) 2 r5.2.2)) (md_single_b12 L D (a : Int) 2) true (i + 1) [] ∨ T (tP T n i) ≠ 61 := by
    by_cases z : T (tP T n i) = 61
    · exact Or.inl (JG.signY (fun y => md_single_b12 L D (a : Int) (-1) y) h hi ⟨hs.1, z⟩ (by decide))
    · exact Or.inr z
  have hh : g = 0 ∨ g = 1 ∨ g = 2 := by omega
  rcases hh with hh | hh | hh <;> subst hh
  · exact JG.signY (fun y => (md_takesSign L 62 y).bind (fun r4 => if w32 r4.1 = 0 then (md_takesSign L 61 r4.2.2).bind (fun r5 => if w32 r5.1 = 0 then md_single_b12 L D (a : Int) (-1) r5.2.2 else md_single_b12 L D (a : Int) 2 r5.2.2) else md_single_b12 L D (a : Int) 1 r4.2.2)) (K := md_single_b12 L D (a : Int) 0) h hi hs (by decide)
  · have h1 : T (tP T n i) = 62 := hs.2
    refine JG.cat (w := v) (cs := []) (JG.signN (fun y => md_single_b12 L D (a : Int) 0 y) (K := fun y => (md_takesSign L 62 y).bind (fun r4 => if w32 r4.1 = 0 then (md_takesSign L 61 r4.2.2).bind (fun r5 => if w32 r5.1 = 0 then md_single_b12 L D (a : Int) (-1) r5.2.2 else md_single_b12 L D (a : Int) 2 r5.2.2) else md_single_b12 L D (a : Int) 1 r4.2.2)) h hi (by omega) ⟨by decide, by decide⟩) (by rw [List.length_nil]; omega) ?_
    exact JG.signY (fun y => (md_takesSign L 61 y).bind (fun r5 => if w32 r5.1 = 0 then md_single_b12 L D (a : Int) (-1) r5.2.2 else md_single_b12 L D (a : Int) 2 r5.2.2)) (K := md_single_b12 L D (a : Int) 1) h hi ⟨hs.1, h1⟩ (by decide)
  · have h1 : T (tP T n i) = 61 := hs.2
    refine JG.cat (w := v) (cs := []) (JG.signN (fun y => md_single_b12 L D (a : Int) 0 y) (K := fun y => (md_takesSign L 62 y).bind (fun r4 => if w32 r4.1 = 0 then (md_takesSign L 61 r4.2.2).bind (fun r5 => if w32 r5.1 = 0 then md_single_b12 L D (a : Int) (-1) r5.2.2 else md_single_b12 L D (a : Int) 2 r5.2.2) else md_single_b12 L D (a : Int) 1 r4.2.2)) h hi (by omega) ⟨by decide, by decide⟩) (by rw [List.length_nil]; omega) ?_
    refine JG.cat (w := v) (cs := []) (JG.signN (fun y => md_single_b12 L D (a : Int) 1 y) (K := fun y => (md_takesSign L 61 y).bind (fun r5 => if w32 r5.1 = 0 then md_single_b12 L D (a : Int) (-1) r5.2.2 else md_single_b12 L D (a : Int) 2 r5.2.2)) h hi (by omega) ⟨by decide, by decide⟩) (by rw [List.length_nil]; omega) ?_
    exact x0.elim (fun z => z) (fun z => absurd h1 z)
theorem cmp_sG0 {a : Nat} (hD : 2 < D) (h : TK T n m) (hi : i ≤ m) (hs : ¬ (tP T n i < n ∧ (T (tP T n i) = 60 ∨ T (tP T n i) = 62 ∨ T (tP T n i) = 61))) : JG L T n v i d d (fun s => (md_takesSign L 60 s).bind (fun r3 => if w32 r3.1 = 0 then (if 2 < D then md_takesSign L 62 r3.2.2 else none).bind (fun r4 => if w32 r4.1 = 0 then (if 2 < D then md_takesSign L 61 r4.2.2 else none).bind (fun r5 => if w32 r5.1 = 0 then md_single_b12 L D (a : Int) (-1) r5.2.2 else md_single_b12 L D (a : Int) 2 r5.2.2) else md_single_b12 L D (a : Int) 1 r4.2.2) else md_single_b12 L D (a : Int) 0 r3.2.2)) (fun y => ok L 0 y) true i [] := by
  simp only [if_pos hD]
  refine JG.cat (w := v) (cs := []) (JG.signN (fun y => md_single_b12 L D (a : Int) 0 y) (K := fun y => (md_takesSign L 62 y).bind (fun r4 => if w32 r4.1 = 0 then (md_takesSign L 61 r4.2.2).bind (fun r5 => if w32 r5.1 = 0 then md_single_b12 L D (a : Int) (-1) r5.2.2 else md_single_b12 L D (a : Int) 2 r5.2.2) else md_single_b12 L D (a : Int) 1 r4.2.2)) h hi (by omega) ⟨by decide, by decide⟩) (by rw [List.length_nil]; omega) ?_
  refine JG.cat (w := v) (cs := []) (JG.signN (fun y => md_single_b12 L D (a : Int) 1 y) (K := fun y => (md_takesSign L 61 y).bind (fun r5 => if w32 r5.1 = 0 then md_single_b12 L D (a : Int) (-1) r5.2.2 else md_single_b12 L D (a : Int) 2 r5.2.2)) h hi (by omega) ⟨by decide, by decide⟩) (by rw [List.length_nil]; omega) ?_
  refine JG.cat (w := v) (cs := []) (JG.signN (fun y => md_single_b12 L D (a : Int) 2 y) (K := md_single_b12 L D (a : Int) (-1)) h hi (by omega) ⟨by decide, by decide⟩) (by rw [List.length_nil]; omega) ?_
  refine JG.eq (fun s _ _ => ?_) JG.rf
  rw [md_single_b12_eq, if_pos (by first | decide | exact w32_0' | exact wM1 | (rw [w32_id (by decide) (by decide)]; decide))]
theorem cmp_ok (hq : ru_cell q) (h : TK T n m) (hi : i ≤ m) (hD : 2 < D) : ∃ b i2 cs, (i ≤ i2 ∧ i2 ≤ m) ∧ JF L q T n m 0 i (re_readComparison L q) (fun y => ok L 1 y) b i2 cs ∧ JG L T n 0 i d d (md_single_b7 L D) (fun y => ok L 1 y) b i2 cs ∧ (b = true → GD1 T n i i2 1 cs) := by
  have hn := h.qq hi
  have eG : ∀ s, md_single_b7 L D s = (md_word L s).bind (fun r1 => (md_askedBy L r1.1 r1.2.2).bind (fun r2 => if w32 r2.1 = (-1) then ok L 0 r2.2.2 else (md_takesSign L 60 (up r2.2.2 242 12 (r2.2.2 242 32))).bind (fun r3 => if w32 r3.1 = 0 then (if 2 < D then md_takesSign L 62 r3.2.2 else none).bind (fun r4 => if w32 r4.1 = 0 then (if 2 < D then md_takesSign L 61 r4.2.2 else none).bind (fun r5 => if w32 r5.1 = 0 then md_single_b12 L D r2.1 (-1) r5.2.2 else md_single_b12 L D r2.1 2 r5.2.2) else md_single_b12 L D r2.1 1 r4.2.2) else md_single_b12 L D r2.1 0 r3.2.2))) := fun s => by
    rw [md_single_b7_eq]
    simp only [if_pos hD, if_pos (show 1 < D by omega)]
  by_cases hP : (tP T n i < n ∧ isA (T (tP T n i)) = true) ∧ 3 ≤ wx T n (tP T n i) ∧ wx T n (tP T n i) ≤ 9
  · obtain ⟨a, ha, hw⟩ := cd_wi hP.2
    have hw2 : wc T n (tP T n i) = wq (cd_w a).toNat := (wx_iff hn.1 (by omega)).mp (by omega)
    have hc : 256 ≤ wc T n (tP T n i) := by
      rw [hw2]
      exact (show ∀ a : Nat, a < 7 → 256 ≤ wq (cd_w a).toNat by decide +kernel) a (by omega)
    obtain ⟨a1, a2, a3, a4, a5, a6⟩ := tP_w h hi rfl hc
    have eC : tC T n (tP T n i) = cd_w a := by
      unfold tC
      rw [if_pos a1, if_pos a2, hw]
    have tF := JF.takeV (L := L) (q := q) (T := T) (n := n) (m := m) (v := 0) (i := i) (fun c y => (re_isSign L 60 y).bind (fun r3 => if w32 r3.1 = 0 then (re_isSign L 62 r3.2.2).bind (fun r4 => if w32 r4.1 = 0 then (re_isSign L 61 r4.2.2).bind (fun r5 => if w32 r5.1 = 0 then ok L 0 r5.2.2 else re_readComparison_b2 L q c r5.2.2) else re_readComparison_b2 L q c r4.2.2) else re_readComparison_b2 L q c r3.2.2)) hq a3
    rw [eC] at tF
    have tE : ∀ s, CR s T n m i → re_readComparison L q s = (re_take L s).bind (fun r => (re_isSign L 60 r.2.2).bind (fun r3 => if w32 r3.1 = 0 then (re_isSign L 62 r3.2.2).bind (fun r4 => if w32 r4.1 = 0 then (re_isSign L 61 r4.2.2).bind (fun r5 => if w32 r5.1 = 0 then ok L 0 r5.2.2 else re_readComparison_b2 L q r.1 r5.2.2) else re_readComparison_b2 L q r.1 r4.2.2) else re_readComparison_b2 L q r.1 r3.2.2)) := fun s hc => by
      rw [re_readComparison_eq, re_isWordOf_ok hc ⟨by decide, by decide⟩ ⟨by decide, by decide⟩, ok_bind]
      dsimp only
      rw [if_neg (fun z => zb_w.mp z hP)]
    have tG := JG.ask (L := L) (T := T) (n := n) (m := m) (v := 0) (i := i) (d := d) (fun c y => (md_takesSign L 60 y).bind (fun r3 => if w32 r3.1 = 0 then (if 2 < D then md_takesSign L 62 r3.2.2 else none).bind (fun r4 => if w32 r4.1 = 0 then (if 2 < D then md_takesSign L 61 r4.2.2 else none).bind (fun r5 => if w32 r5.1 = 0 then md_single_b12 L D c (-1) r5.2.2 else md_single_b12 L D c 2 r5.2.2) else md_single_b12 L D c 1 r4.2.2) else md_single_b12 L D c 0 r3.2.2)) h hi ha hw2
    by_cases hS : tP T n (i + 1) < n ∧ (T (tP T n (i + 1)) = 60 ∨ T (tP T n (i + 1)) = 62 ∨ T (tP T n (i + 1)) = 61)
    · obtain ⟨g, hg, hs⟩ : ∃ g, g ≤ 2 ∧ T (tP T n (i + 1)) = cd_g g := by
        rcases hS.2 with z | z | z
        · exact ⟨0, by decide, z⟩
        · exact ⟨1, by decide, z⟩
        · exact ⟨2, by decide, z⟩
      have hs2 : tP T n (i + 1) < n ∧ T (tP T n (i + 1)) = cd_g g := ⟨hS.1, hs⟩
      have hsg : isA (cd_g g) = false ∧ isD (cd_g g) = false := (show ∀ g : Nat, g < 3 → isA (cd_g g) = false ∧ isD (cd_g g) = false by decide +kernel) g (by omega)
      obtain ⟨s1, s2, s3, s4⟩ := tP_s h (by omega) hs2 hsg
      have sG := cmp_sG (L := L) (v := 1) (d := d) (a := a) hD h (by omega) hg hs2
      by_cases hN : nOk T n (tP T n (i + 1 + 1)) 0 99 = true
      · obtain ⟨b1, b2, b3, b4, b5, b6⟩ := tP_n h (by omega) hN
        refine ⟨true, i + 1 + 2, [] ++ [(g, a, (tC T n (tP T n (i + 1 + 1))).toNat)], ⟨by omega, by omega⟩, JF.eq tE (JF.cat hq tF (w := 1) (by rw [List.length_nil]; omega) (JF.eq (fun y hc => cmp_sC hc hg hs2) (cmp_b2Y hq h (by omega) hg ha hs2 (Nat.le_refl 1) hN))), JG.eq (fun s _ _ => eG s) (JG.cat tG (w := 1) (by rw [List.length_nil]; omega) (JG.cat (cs := []) sG (w := 1) (by rw [List.length_nil]; omega) (cmp_b12Y hD h (by omega) hg (Nat.le_refl 1) hN))), fun _ => ⟨by omega, ?_, fun c hc => ?_, fun k l hk => ?_⟩⟩
        · show 2 * 1 + _ ≤ tP T n (i + 1 + 1 + 1)
          omega
        · rw [List.nil_append] at hc
          rw [List.mem_singleton.mp hc]
          exact ⟨by show g ≤ 5; omega, ha, by show (tC T n (tP T n (i + 1 + 1))).toNat ≤ 99; omega⟩
        · show (if g ≤ 2 then (if k < 40 then cd_d l (k + 1) else none) else _) = _
          rw [if_pos hg, if_pos (by omega)]
      · refine ⟨false, i + 1 + 1, [], ⟨by omega, by omega⟩, JF.eq tE (JF.cat (ds := []) hq tF (w := 1) (by rw [List.length_nil]; omega) (JF.eq (fun y hc => cmp_sC hc hg hs2) (cmp_b2N hq h (by omega) hg hs2 hN))), JG.eq (fun s _ _ => eG s) (JG.cat (ds := []) tG (w := 1) (by rw [List.length_nil]; omega) (JG.cat (cs := []) (ds := []) sG (w := 1) (by rw [List.length_nil]; omega) (cmp_b12N hD h (by omega) ⟨⟨by omega, by omega⟩, by omega⟩ hN))), fun z => absurd z (by decide)⟩
    · refine ⟨false, i + 1, [], ⟨by omega, by omega⟩, JF.eq tE (JF.cat (ds := []) hq tF (w := 1) (by rw [List.length_nil]; omega) (JF.eq (fun y hc => cmp_sC0 hc hS) JF.fl)), JG.eq (fun s _ _ => eG s) (JG.cat (ds := []) tG (w := 1) (by rw [List.length_nil]; omega) (JG.cat (cs := []) (ds := []) (cmp_sG0 hD h (by omega) hS) (w := 1) (by rw [List.length_nil]; omega) JG.fl)), fun z => absurd z (by decide)⟩
  · have hw : ∀ a, a ≤ 6 → wc T n (tP T n i) ≠ wq (cd_w a).toNat := fun a ha z => by
      have hc : 256 ≤ wc T n (tP T n i) := by
        rw [z]
        exact (show ∀ a : Nat, a < 7 → 256 ≤ wq (cd_w a).toNat by decide +kernel) a (by omega)
      obtain ⟨a1, a2, a3, a4, a5, a6⟩ := tP_w h hi rfl hc
      have wr := cd_wr a ha
      have := (wx_iff hn.1 (by omega)).mpr z
      exact hP ⟨⟨a1, a2⟩, by omega, by omega⟩
    refine ⟨false, i, [], ⟨by omega, by omega⟩, JF.eq (fun s hc => ?_) JF.fl, JG.eq (fun s _ _ => eG s) (JG.askN (fun c y => (md_takesSign L 60 y).bind (fun r3 => if w32 r3.1 = 0 then (if 2 < D then md_takesSign L 62 r3.2.2 else none).bind (fun r4 => if w32 r4.1 = 0 then (if 2 < D then md_takesSign L 61 r4.2.2 else none).bind (fun r5 => if w32 r5.1 = 0 then md_single_b12 L D c (-1) r5.2.2 else md_single_b12 L D c 2 r5.2.2) else md_single_b12 L D c 1 r4.2.2) else md_single_b12 L D c 0 r3.2.2)) h hi hw), fun z => absurd z (by decide)⟩
    rw [re_readComparison_eq, re_isWordOf_ok hc ⟨by decide, by decide⟩ ⟨by decide, by decide⟩, ok_bind]
    dsimp only
    rw [if_pos (zb_w.mpr hP)]
end
