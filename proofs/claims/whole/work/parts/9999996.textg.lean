/-! texts: one condition, both sides -/
section
variable {L q : Nat} {T : Nat → Int} {n m v w i i2 i3 d e f D : Nat} {F H K : hh_Sv → Option hh_Rs} {b : Bool} {cs ds : List Cd} {s : hh_Sv}
theorem GD1.mono (h : GD1 T n i i2 e cs) (he : e ≤ f) : GD1 T n i i2 f cs := ⟨h.1, h.2.1, h.2.2.1, fun k l hk => h.2.2.2 k l (by omega)⟩
theorem JF.wrap (h : JF L q T n m v i F (fun y => ok L 1 y) b i2 cs) : JF L q T n m v i (fun s => (F s).bind (fun r => if r.1 = 0 ∨ r.1 = 1 then ok L r.1 r.2.2 else none)) (fun y => ok L 1 y) b i2 cs := fun s j hc hj hv => by
  obtain ⟨y, y1, y2, y3, y4⟩ := h s j hc hj hv
  refine ⟨y, ?_, y2, y3, y4⟩
  cases b
  · rw [if_neg (by first | decide | exact wN1 | (rw [w32_id (by decide) (by decide)]; decide))] at y1
    show Option.bind _ _ = _
    rw [y1, ok_bind]
    exact (if_pos (Or.inl rfl)).trans (if_neg (by decide)).symm
  · rw [if_pos rfl] at y1
    show Option.bind _ _ = _
    rw [y1, ok_bind]
    exact (if_pos (Or.inr rfl)).trans (if_pos rfl).symm
theorem JG.dn : JG L T n v i (d + 1) d (fun y => K (up y 242 13 ((y 242 13) - 1))) K true i [] := fun s j hr hd hj hv => by
  refine ⟨up s 242 13 ((s 242 13) - 1), by rw [if_pos rfl], fun a b x1 x2 => ?_, hr.x (fun a b z => ?_), fun _ => ⟨?_, ?_, fun k c hk => by rw [List.getElem?_nil] at hk; cases hk⟩⟩
  · unfold up
    rw [if_neg (by omega)]
  · unfold up
    rw [if_neg (by omega)]
  · rw [up_s, hd]
    omega
  · rw [up_j (by decide)]
    exact hj
theorem sg_not8 (hD : 2 < D) (h : TK T n m) (hi : i ≤ m) (hw : wc T n (tP T n i) = 7237492) : JG L T n v i 8 e (md_single L D) K false i cs := fun s j hr hd hj hv => by
  obtain ⟨y, p, y1, y2, y3, y4, y5, y6⟩ := hr.word (L := L)
  refine ⟨y, ?_, fun a b x1 x2 => y2 a b (by omega), hr.at (fun a b z => y2 a b (by omega)) y3 (h.qq hi).1 (tP_rr y5 y6), fun z => absurd z (by decide)⟩
  rw [md_single_eq, if_pos hD, y1, ok_bind]
  dsimp only
  rw [if_pos (by rw [hw]; exact lcY), if_pos (by omega), md_opens_eq, if_pos (by rw [y2 _ _ (by omega), hd]; exact w32_id (by decide) (by decide)), ok_bind]
  dsimp only
  rw [if_pos (by first | decide | exact w32_0' | exact wM1 | (rw [w32_id (by decide) (by decide)]; decide)), if_neg (by first | decide | exact wN1 | (rw [w32_id (by decide) (by decide)]; decide))]
theorem sg_notY (hD : 2 < D) (hD2 : 4 + 3 * (9 - (d + 1)) < D) (hd8 : d < 8) (h : TK T n m) (hi : i ≤ m) (hw : wc T n (tP T n i) = 7237492) : JG L T n v i d (d + 1) (md_single L D) (fun y => (md_single L (4 + 3 * (9 - (d + 1))) y).bind (fun r3 => if w32 r3.1 = 0 then ok L 0 r3.2.2 else (md_puts L 5 0 0 (up r3.2.2 242 13 ((r3.2.2 242 13) - 1))).bind (fun r4 => ok L 1 r4.2.2))) true (i + 1) [] := fun s j hr hd hj hv => by
  obtain ⟨a1, a2, a3, a4, a5, a6⟩ := tP_w h hi hw (by decide)
  obtain ⟨y, p, y1, y2, y3, y4, y5, y6⟩ := hr.word (L := L)
  have hr1 := rn_le (T := T) (n := n) (g := isA) (p := tP T n i) (by omega)
  have hy : y 242 13 = (d : Int) := by rw [y2 _ _ (by omega)]; exact hd
  have e2 : (up y 242 13 ((y 242 13) + 1)) 242 13 = ((d + 1 : Nat) : Int) := by rw [up_s, hy]; rfl
  have fr : ∀ a b, ¬ (a = 242 ∧ (b = 12 ∨ b = 13 ∨ b = 32)) → (up (up y 242 13 ((y 242 13) + 1)) 242 12 ((up y 242 13 ((y 242 13) + 1)) 242 32)) a b = s a b := fun a b z => by
    rw [← y2 a b (by omega)]
    unfold up
    rw [if_neg (by omega), if_neg (by omega)]
  refine ⟨up (up y 242 13 ((y 242 13) + 1)) 242 12 ((up y 242 13 ((y 242 13) + 1)) 242 32), ?_, fun a b x1 x2 => fr a b (by omega), hr.at (p := rn T n isA (tP T n i)) (fun a b z => fr a b (by omega)) (by rw [up_s, up_j (by decide)]; exact y4) hr1.2 a4, fun _ => ⟨by rw [up_j (by decide)]; exact e2, by rw [fr _ _ (by omega)]; exact hj, fun k c hk => by rw [List.getElem?_nil] at hk; cases hk⟩⟩
  rw [md_single_eq, if_pos hD, y1, ok_bind]
  dsimp only
  rw [if_pos (by rw [hw]; exact lcY), if_pos (by omega), md_opens_eq, if_neg (by rw [hy, w32_id (by omega) (by omega)]; omega), ok_bind]
  dsimp only
  rw [if_neg (by first | decide | exact wN1 | (rw [w32_id (by decide) (by decide)]; decide)), if_pos (by rw [e2]; omega), if_pos rfl, show 4 + 3 * (9 - (up y 242 13 ((y 242 13) + 1)) 242 13).toNat = 4 + 3 * (9 - (d + 1)) by rw [e2]; omega]
  simp only [if_pos (show 1 < D by omega)]
theorem sg_par (hr : RG s T n i) (hD : 2 < D) (h : TK T n m) (hi : i ≤ m) (hs : tP T n i < n ∧ T (tP T n i) = 40) : ∃ y, (∀ a b, ¬ (a = 242 ∧ (b = 12 ∨ b = 32)) → y a b = s a b) ∧ y 242 12 = ((tP T n i : Nat) : Int) ∧ rn T n isB (tP T n i) = tP T n i ∧ md_single L D s = (md_opens L y).bind (fun r5 => if w32 r5.1 = 0 then ok L 0 r5.2.2 else (if 6 + 3 * (9 - (r5.2.2 242 13)).toNat < D then md_any L (6 + 3 * (9 - (r5.2.2 242 13)).toNat) (up r5.2.2 242 12 ((r5.2.2 242 12) + 1)) else none).bind (fun r6 => if w32 r6.1 = 0 then ok L 0 r6.2.2 else (md_takesSign L 41 r6.2.2).bind (fun r7 => if w32 r7.1 = 0 then ok L 0 r7.2.2 else ok L 1 (up r7.2.2 242 13 ((r7.2.2 242 13) - 1))))) := by
  have h6 := h.1
  obtain ⟨y, p, y1, y2, y3, y4, y5, y6⟩ := hr.word (L := L)
  obtain ⟨⟨t1, t2, t3⟩, p0, p1, p2, p3⟩ := hr
  have hw : wc T n (tP T n i) = 0 := wc_0 (fun z => by rw [hs.2] at z; exact absurd z.2 (by decide))
  refine ⟨y, y2, y3, tP_rr y5 y6, ?_⟩
  have ec : w32 (y 261 (y 242 12).toNat) = 40 := by
    rw [y3, Int.toNat_natCast, y2 _ _ (by omega), (t3 _ hs.1).1, hs.2]
    exact w32_id (by decide) (by decide)
  rw [md_single_eq, if_pos hD, y1, ok_bind]
  dsimp only
  rw [if_neg (by rw [hw]; exact lcN ⟨by decide, by decide⟩ ⟨by decide, by decide⟩ (by decide)), if_pos (by rw [y3, y2 _ _ (by omega), t1, w32_id (by omega) (by omega), w32_id (by omega) (by omega)]; omega), if_pos (by omega), if_pos ec, if_pos (by omega)]
  simp only [if_pos hD]
theorem sg_par8 (hD : 2 < D) (h : TK T n m) (hi : i ≤ m) (hs : tP T n i < n ∧ T (tP T n i) = 40) : JG L T n v i 8 e (md_single L D) K false i cs := fun s j hr hd hj hv => by
  obtain ⟨y, y2, y3, y4, y5⟩ := sg_par (L := L) hr hD h hi hs
  refine ⟨y, ?_, fun a b x1 x2 => y2 a b (by omega), hr.at (fun a b z => y2 a b (by omega)) y3 (h.qq hi).1 y4, fun z => absurd z (by decide)⟩
  rw [y5, md_opens_eq, if_pos (by rw [y2 _ _ (by omega), hd]; exact w32_id (by decide) (by decide)), ok_bind]
  dsimp only
  rw [if_pos (by first | decide | exact w32_0' | exact wM1 | (rw [w32_id (by decide) (by decide)]; decide)), if_neg (by first | decide | exact wN1 | (rw [w32_id (by decide) (by decide)]; decide))]
theorem sg_parY (hD : 2 < D) (hD2 : 6 + 3 * (9 - (d + 1)) < D) (hd8 : d < 8) (h : TK T n m) (hi : i ≤ m) (hs : tP T n i < n ∧ T (tP T n i) = 40) : JG L T n v i d (d + 1) (md_single L D) (fun y => (md_any L (6 + 3 * (9 - (d + 1))) y).bind (fun r6 => if w32 r6.1 = 0 then ok L 0 r6.2.2 else (md_takesSign L 41 r6.2.2).bind (fun r7 => if w32 r7.1 = 0 then ok L 0 r7.2.2 else ok L 1 (up r7.2.2 242 13 ((r7.2.2 242 13) - 1))))) true (i + 1) [] := fun s j hr hd hj hv => by
  obtain ⟨a1, a2, a3, a4⟩ := tP_s h hi hs (by decide)
  obtain ⟨y, y2, y3, y4, y5⟩ := sg_par (L := L) hr hD h hi hs
  have hy : y 242 13 = (d : Int) := by rw [y2 _ _ (by omega)]; exact hd
  have e2 : (up y 242 13 ((y 242 13) + 1)) 242 13 = ((d + 1 : Nat) : Int) := by rw [up_s, hy]; rfl
  have fr : ∀ a b, ¬ (a = 242 ∧ (b = 12 ∨ b = 13 ∨ b = 32)) → (up (up y 242 13 ((y 242 13) + 1)) 242 12 ((up y 242 13 ((y 242 13) + 1)) 242 12 + 1)) a b = s a b := fun a b z => by
    rw [← y2 a b (by omega)]
    unfold up
    rw [if_neg (by omega), if_neg (by omega)]
  refine ⟨up (up y 242 13 ((y 242 13) + 1)) 242 12 ((up y 242 13 ((y 242 13) + 1)) 242 12 + 1), ?_, fun a b x1 x2 => fr a b (by omega), hr.at (p := tP T n i + 1) (fun a b z => fr a b (by omega)) (by rw [up_s, up_j (by decide), y3]; rfl) (by omega) a2, fun _ => ⟨by rw [up_j (by decide)]; exact e2, by rw [fr _ _ (by omega)]; exact hj, fun k c hk => by rw [List.getElem?_nil] at hk; cases hk⟩⟩
  rw [y5, md_opens_eq, if_neg (by rw [hy, w32_id (by omega) (by omega)]; omega), ok_bind]
  dsimp only
  rw [if_neg (by first | decide | exact wN1 | (rw [w32_id (by decide) (by decide)]; decide)), if_pos (by rw [e2]; omega), if_pos rfl, show 6 + 3 * (9 - (up y 242 13 ((y 242 13) + 1)) 242 13).toNat = 6 + 3 * (9 - (d + 1)) by rw [e2]; omega]
theorem sg_oth (hD : 2 < D) (h : TK T n m) (hi : i ≤ m) (hw : wc T n (tP T n i) ≠ 7237492) (hs : ¬ (tP T n i < n ∧ T (tP T n i) = 40)) : JG L T n v i d d (md_single L D) (md_single_b7 L D) true i [] := fun s j hr hd hj hv => by
  have h6 := h.1
  have hq := (h.qq hi).1
  have hb := wc_bd (T := T) (n := n) (q := tP T n i) hq
  obtain ⟨y, p, y1, y2, y3, y4, y5, y6⟩ := hr.word (L := L)
  refine ⟨y, ?_, fun a b x1 x2 => y2 a b (by omega), hr.at (fun a b z => y2 a b (by omega)) y3 hq (tP_rr y5 y6), fun _ => ⟨by rw [y2 _ _ (by omega)]; exact hd, by rw [y2 _ _ (by omega)]; exact hj, fun k c hk => by rw [List.getElem?_nil] at hk; cases hk⟩⟩
  obtain ⟨⟨t1, t2, t3⟩, p0, p1, p2, p3⟩ := hr
  rw [md_single_eq, if_pos hD, y1, ok_bind, if_pos rfl]
  dsimp only
  rw [if_neg (lcN ⟨by omega, by omega⟩ ⟨by decide, by decide⟩ hw)]
  by_cases hn : tP T n i < n
  · have t4 := t3 _ hn
    have ec : w32 (y 261 (y 242 12).toNat) = T (tP T n i) := by
      rw [y3, Int.toNat_natCast, y2 _ _ (by omega), t4.1]
      exact w32_id (by omega) (by omega)
    rw [if_pos (by rw [y3, y2 _ _ (by omega), t1, w32_id (by omega) (by omega), w32_id (by omega) (by omega)]; omega), if_pos (by omega), if_neg (by rw [ec]; exact fun z => hs ⟨hn, z⟩)]
  · rw [if_neg (by rw [y3, y2 _ _ (by omega), t1, w32_id (by omega) (by omega), w32_id (by omega) (by omega)]; omega)]
theorem one_step (hq : ru_cell q) (h : TK T n m) (hi : i ≤ m) (hd : d ≤ 8) (ih : ∀ i' d', i < i' → i' ≤ m → d' ≤ 8 → One L q T n m d' i') : One L q T n m d i := by
  have kq := ru_kd (L := L) hq
  have ev : wq 20 = 7237492 := wq_v.2.2.2.2.2.2.2.2.2.2.2.2.2.2.2.2.2.2.2.2
  have e9 : ((9 : Int) - ((d : Int) + 1)).toNat = 9 - (d + 1) := by omega
  have hD : 2 < 4 + 3 * (9 - d) := by omega
  have w8 : w32 (d : Int) = (d : Int) := w32_id (by omega) (by omega)
  by_cases hw : wc T n (tP T n i) = 7237492
  · obtain ⟨a1, a2, a3, a4, a5, a6⟩ := tP_w h hi hw (by decide)
    have eF : ∀ s, CR s T n m i → re_readOne L (3 + 2 * (9 - d)) q (d : Int) s = re_readOne_b1 L (3 + 2 * (9 - d)) q (d : Int) 1 s := fun s hc => by
      rw [re_readOne_eq, if_pos (by omega), isW (c := 20) hc 20 (by decide) rfl ev, ok_bind]
      dsimp only
      rw [if_neg (fun z => zb_w.mp z hw), zb_1 hw]
    by_cases h8 : d = 8
    · subst h8
      refine ⟨false, i, [], ⟨Nat.le_refl i, hi⟩, JF.eq eF (JF.eq (fun s _ => ?_) JF.fl), sg_not8 hD h hi hw, fun z => absurd z (by decide)⟩
      rw [re_readOne_b1_eq, if_neg (by first | decide | exact wN1 | (rw [w32_id (by decide) (by decide)]; decide))]
    · have eF2 : ∀ s, re_readOne_b1 L (3 + 2 * (9 - d)) q (d : Int) 1 s = (re_take L s).bind (fun r1 => (re_readOne L (3 + 2 * (9 - (d + 1))) q ((d : Int) + 1) r1.2.2).bind (fun r5 => if w32 r5.1 = 0 then ok L 0 r5.2.2 else (ru_write L q 20 r5.2.2).bind (fun r6 => ok L 1 r6.2.2))) := fun s => by
        rw [re_readOne_b1_eq, if_pos (by rw [w8]; omega), if_pos (by omega)]
        simp only [if_neg wN1, e9, if_pos kq, if_pos (show 1 < 3 + 2 * (9 - d) by omega), if_pos (show 3 + 2 * (9 - (d + 1)) < 3 + 2 * (9 - d) by omega)]
      obtain ⟨b1, j1, c1, ⟨o1, o2⟩, o3, o4, o5⟩ := ih (i + 1) (d + 1) (by omega) (by omega) (by omega)
      have o3' : JF L q T n m 0 (i + 1) (re_readOne L (3 + 2 * (9 - (d + 1))) q ((d : Int) + 1)) (fun y => ok L 1 y) b1 j1 c1 := o3
      have tF := JF.take (L := L) (q := q) (T := T) (n := n) (m := m) (v := 0) (i := i) (K := fun y => (re_readOne L (3 + 2 * (9 - (d + 1))) q ((d : Int) + 1) y).bind (fun r5 => if w32 r5.1 = 0 then ok L 0 r5.2.2 else (ru_write L q 20 r5.2.2).bind (fun r6 => ok L 1 r6.2.2))) hq a3
      have tG := sg_notY (L := L) (v := 0) (d := d) hD (by omega) (by omega) h hi hw
      have uF := JF.bind (K := fun y => (ru_write L q 20 y).bind (fun r6 => ok L 1 r6.2.2)) (JF.mono (w := 2) (by omega) o3')
      have uG := JG.bind (K := fun y => (md_puts L 5 0 0 (up y 242 13 ((y 242 13) - 1))).bind (fun r4 => ok L 1 r4.2.2)) (JG.mono (w := 2) (by omega) o4)
      cases b1
      · exact ⟨false, j1, [], ⟨by omega, o2⟩, JF.eq eF (JF.eq (fun s _ => eF2 s) (JF.cat (ds := []) hq tF (w := 2) (by rw [List.length_nil]; omega) (JF.no uF))), JG.cat (ds := []) tG (w := 2) (by rw [List.length_nil]; omega) (JG.no uG), fun z => absurd z (by decide)⟩
      · have g1 := o5 rfl
        have gl := g1.2.1
        have gt := g1.1
        have hj1 := h.qq o2
        have pF := JF.put (L := L) (q := q) (T := T) (n := n) (m := m) (v := 2) (i := j1) (K := fun y => ok L 1 y) (x := ((5, 0, 0) : Cd)) (c := 20) hq (Nat.le_refl 2) rfl
        have pG0 := JG.put (L := L) (T := T) (n := n) (v := 2) (i := j1) (d := d) (K := fun y => ok L 1 y) (x := ((5, 0, 0) : Cd)) (c1 := 5) (c2 := 0) (c3 := 0) (Nat.le_refl 2) h.1 ⟨rfl, rfl, rfl⟩ hj1.1
        have pG : JG L T n 2 j1 (d + 1) d (fun y => (md_puts L 5 0 0 (up y 242 13 ((y 242 13) - 1))).bind (fun r4 => ok L 1 r4.2.2)) (fun y => ok L 1 y) true j1 [((5, 0, 0) : Cd)] := JG.cat (cs := []) (ds := [((5, 0, 0) : Cd)]) (w := 2) (JG.dn (K := fun y => (md_puts L 5 0 0 y).bind (fun r4 => ok L 1 r4.2.2))) (by rw [List.length_nil]; omega) pG0
        refine ⟨true, j1, [] ++ (c1 ++ [(5, 0, 0)]), ⟨by omega, o2⟩, JF.eq eF (JF.eq (fun s _ => eF2 s) (JF.cat hq tF (w := 2) (by rw [List.length_nil]; omega) (JF.cat hq uF (w := 2) (by omega) pF))), JG.cat tG (w := 2) (by rw [List.length_nil]; omega) (JG.cat uG (w := 2) (by omega) pG), fun _ => ⟨by omega, ?_, fun c hc => ?_, fun k l hk => ?_⟩⟩
        · rw [List.nil_append, List.length_append, List.length_singleton]
          omega
        · rw [List.nil_append] at hc
          rcases List.mem_append.mp hc with z | z
          · exact g1.2.2.1 c z
          · rw [List.mem_singleton.mp z]
            exact ⟨by decide, by decide, by decide⟩
        · rw [List.nil_append, List.append_assoc, g1.2.2.2 k _ (by omega)]
          show (if 1 ≤ k + 1 then cd_d l (k + 1) else none) = _
          rw [if_pos (by omega)]
  · by_cases hs : tP T n i < n ∧ T (tP T n i) = 40
    · obtain ⟨a1, a2, a3, a4⟩ := tP_s h hi hs (by decide)
      have eF : ∀ s, CR s T n m i → re_readOne L (3 + 2 * (9 - d)) q (d : Int) s = re_readOne_b1 L (3 + 2 * (9 - d)) q (d : Int) 0 s := fun s hc => by
        rw [re_readOne_eq, if_pos (by omega), isW (c := 20) hc 20 (by decide) rfl ev, ok_bind]
        dsimp only
        rw [if_pos (zb_w.mpr hw), if_pos (by omega), re_isSign_ok hc (by decide) ⟨by decide, by decide⟩, ok_bind]
        dsimp only
        rw [if_neg (fun z => zb_w.mp z hs), zb_0 hw]
      by_cases h8 : d = 8
      · subst h8
        refine ⟨false, i, [], ⟨Nat.le_refl i, hi⟩, JF.eq eF (JF.eq (fun s _ => ?_) JF.fl), sg_par8 hD h hi hs, fun z => absurd z (by decide)⟩
        rw [re_readOne_b1_eq, if_neg (by first | decide | exact wN1 | (rw [w32_id (by decide) (by decide)]; decide))]
      · have eF2 : ∀ s, re_readOne_b1 L (3 + 2 * (9 - d)) q (d : Int) 0 s = (re_take L s).bind (fun r1 => (re_readAny L (4 + 2 * (9 - (d + 1))) q ((d : Int) + 1) r1.2.2).bind (fun r2 => if w32 r2.1 = 0 then ok L 0 r2.2.2 else (re_isSign L 41 r2.2.2).bind (fun r3 => if w32 r3.1 = 0 then ok L 0 r3.2.2 else (re_take L r3.2.2).bind (fun r4 => ok L 1 r4.2.2)))) := fun s => by
          rw [re_readOne_b1_eq, if_pos (by rw [w8]; omega), if_pos (by omega)]
          simp only [if_pos w32_0', e9, if_pos (show 1 < 3 + 2 * (9 - d) by omega), if_pos (show 4 + 2 * (9 - (d + 1)) < 3 + 2 * (9 - d) by omega)]
        obtain ⟨b1, j1, c1, ⟨o1, o2⟩, o3, o4, o5⟩ := an_ok (p := i + 1) (i := i + 1) (d := d + 1) (L := L) hq h (by omega) (fun i' z1 z2 => ih i' (d + 1) (by omega) z2 (by omega)) (Nat.le_refl _) (by omega)
        have o3' : JF L q T n m 0 (i + 1) (re_readAny L (4 + 2 * (9 - (d + 1))) q ((d : Int) + 1)) (fun y => ok L 1 y) b1 j1 c1 := o3
        have tF := JF.take (L := L) (q := q) (T := T) (n := n) (m := m) (v := 0) (i := i) (K := fun y => (re_readAny L (4 + 2 * (9 - (d + 1))) q ((d : Int) + 1) y).bind (fun r2 => if w32 r2.1 = 0 then ok L 0 r2.2.2 else (re_isSign L 41 r2.2.2).bind (fun r3 => if w32 r3.1 = 0 then ok L 0 r3.2.2 else (re_take L r3.2.2).bind (fun r4 => ok L 1 r4.2.2)))) hq a1
        have tG := sg_parY (L := L) (v := 0) (d := d) hD (by omega) (by omega) h hi hs
        have uF := JF.bind (K := fun y => (re_isSign L 41 y).bind (fun r3 => if w32 r3.1 = 0 then ok L 0 r3.2.2 else (re_take L r3.2.2).bind (fun r4 => ok L 1 r4.2.2))) o3'
        have uG := JG.bind (K := fun y => (md_takesSign L 41 y).bind (fun r7 => if w32 r7.1 = 0 then ok L 0 r7.2.2 else ok L 1 (up r7.2.2 242 13 ((r7.2.2 242 13) - 1)))) o4
        cases b1
        · exact ⟨false, j1, [], ⟨by omega, o2⟩, JF.eq eF (JF.eq (fun s _ => eF2 s) (JF.cat (ds := []) hq tF (w := 0) (by rw [List.length_nil]; omega) (JF.no uF))), JG.cat (ds := []) tG (w := 0) (by rw [List.length_nil]; omega) (JG.no uG), fun z => absurd z (by decide)⟩
        · have g1 := o5 rfl
          have gl := g1.2.1
          have gt := g1.1
          by_cases hz : tP T n j1 < n ∧ T (tP T n j1) = 41
          · obtain ⟨f1, f2, f3, f4⟩ := tP_s h o2 hz (by decide)
            have vF : JF L q T n m 0 j1 (fun y => (re_isSign L 41 y).bind (fun r3 => if w32 r3.1 = 0 then ok L 0 r3.2.2 else (re_take L r3.2.2).bind (fun r4 => ok L 1 r4.2.2))) (fun y => ok L 1 y) true (j1 + 1) [] := JF.eq (fun s hc => by
              rw [re_isSign_ok hc (by decide) ⟨by decide, by decide⟩, ok_bind]
              dsimp only
              rw [if_neg (fun z => zb_w.mp z hz)]) (JF.take (K := fun y => ok L 1 y) hq f1)
            have vG0 := JG.signY (L := L) (T := T) (n := n) (m := m) (v := 0) (i := j1) (d := d + 1) (c := 41) (K := fun y => ok L 1 (up y 242 13 ((y 242 13) - 1))) (fun y => ok L 0 y) h o2 hz (by decide)
            have vG : JG L T n 0 j1 (d + 1) d (fun y => (md_takesSign L 41 y).bind (fun r7 => if w32 r7.1 = 0 then ok L 0 r7.2.2 else ok L 1 (up r7.2.2 242 13 ((r7.2.2 242 13) - 1)))) (fun y => ok L 1 y) true (j1 + 1) [] := JG.cat (cs := []) (ds := []) (w := 0) vG0 (by rw [List.length_nil]; omega) (JG.dn (K := fun y => ok L 1 y))
            refine ⟨true, j1 + 1, [] ++ (c1 ++ []), ⟨by omega, by omega⟩, JF.eq eF (JF.eq (fun s _ => eF2 s) (JF.cat hq tF (w := 0) (by rw [List.length_nil]; omega) (JF.cat hq uF (w := 0) (by omega) vF))), JG.cat tG (w := 0) (by rw [List.length_nil]; omega) (JG.cat uG (w := 0) (by omega) vG), fun _ => ?_⟩
            rw [List.nil_append, List.append_nil]
            exact ⟨by omega, by omega, g1.2.2.1, fun k l hk => g1.2.2.2 k l (by omega)⟩
          · have vF : JF L q T n m 0 j1 (fun y => (re_isSign L 41 y).bind (fun r3 => if w32 r3.1 = 0 then ok L 0 r3.2.2 else (re_take L r3.2.2).bind (fun r4 => ok L 1 r4.2.2))) (fun y => ok L 1 y) false j1 [] := JF.eq (fun s hc => by
              rw [re_isSign_ok hc (by decide) ⟨by decide, by decide⟩, ok_bind]
              dsimp only
              rw [if_pos (zb_w.mpr hz)]) JF.fl
            have vG0 := JG.signN (L := L) (T := T) (n := n) (m := m) (v := 0) (i := j1) (d := d + 1) (c := 41) (K := fun y => ok L 0 y) (fun y => ok L 1 (up y 242 13 ((y 242 13) - 1))) h o2 hz ⟨by decide, by decide⟩
            have vG : JG L T n 0 j1 (d + 1) d (fun y => (md_takesSign L 41 y).bind (fun r7 => if w32 r7.1 = 0 then ok L 0 r7.2.2 else ok L 1 (up r7.2.2 242 13 ((r7.2.2 242 13) - 1)))) (fun y => ok L 1 y) false j1 [] := JG.cat (cs := []) (ds := []) (w := 0) vG0 (by rw [List.length_nil]; omega) JG.fl
            exact ⟨false, j1, [] ++ (c1 ++ []), ⟨by omega, o2⟩, JF.eq eF (JF.eq (fun s _ => eF2 s) (JF.cat hq tF (w := 0) (by rw [List.length_nil]; omega) (JF.cat hq uF (w := 0) (by omega) vF))), JG.cat tG (w := 0) (by rw [List.length_nil]; omega) (JG.cat uG (w := 0) (by omega) vG), fun z => absurd z (by decide)⟩
    · obtain ⟨b1, j1, c1, o1, o3, o4, o5⟩ := cmp_ok (L := L) (q := q) (d := d) (D := 4 + 3 * (9 - d)) hq h hi hD
      refine ⟨b1, j1, c1, o1, JF.eq (fun s hc => ?_) (JF.wrap o3), JG.cat (cs := []) (w := 0) (sg_oth hD h hi hw hs) (by rw [List.length_nil]; omega) o4, fun hb => (o5 hb).mono (by omega)⟩
      rw [re_readOne_eq, if_pos (by omega), isW (c := 20) hc 20 (by decide) rfl ev, ok_bind]
      dsimp only
      rw [if_pos (zb_w.mpr hw), if_pos (by omega), re_isSign_ok hc (by decide) ⟨by decide, by decide⟩, ok_bind]
      dsimp only
      rw [if_pos (zb_w.mpr hs), if_pos (by omega)]
theorem one_ok (hq : ru_cell q) (h : TK T n m) : ∀ (N i d : Nat), m - i ≤ N → i ≤ m → d ≤ 8 → One L q T n m d i
  | 0, i, d, hN, hi, hd => one_step hq h hi hd (fun i' d' z1 z2 _ => by omega)
  | N + 1, i, d, hN, hi, hd => one_step hq h hi hd (fun i' d' z1 z2 z3 => one_ok hq h N i' d' (by omega) z2 z3)
theorem any_ok (hq : ru_cell q) (h : TK T n m) (hi : i ≤ m) : Any L q T n m 0 i := an_ok (p := 0) hq h (by decide) (fun i' _ z2 => one_ok hq h m i' 0 (by omega) z2 (by decide)) (Nat.zero_le _) hi
end
