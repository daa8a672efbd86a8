/-! texts: all terms of a measure -/
def Cev (M c : Nat) (ev : Nat → MV) (s : hh_Sv) : Prop := ∀ j, j < c → s (171 + 6 * M) j = (ev j).2.1 ∧ s (172 + 6 * M) j = me_k (ev j).1 ∧ s (173 + 6 * M) j = (ev j).2.2.2.2.1 ∧ s (174 + 6 * M) j = (ev j).2.2.2.2.2.1 ∧ s (175 + 6 * M) j = (ev j).2.2.2.2.2.2
def Rev (c : Nat) (ev : Nat → MV) (s : hh_Sv) : Prop := ∀ j, j < c → s 264 (48 + j) = (ev j).2.1 ∧ s 265 (48 + j) = ((ev j).1 : Int) ∧ s 266 (48 + j) = (ev j).2.2.1 ∧ s 267 (48 + j) = (ev j).2.2.2.1
def FMc (M : Nat) (s y : hh_Sv) : Prop := ∀ a b', ¬ (a = 24 ∧ b' = 5) → ¬ (170 + 6 * M ≤ a ∧ a ≤ 175 + 6 * M) → y a b' = s a b'
def FMr (s y : hh_Sv) : Prop := ∀ a b', ¬ (a = 242 ∧ (b' = 12 ∨ b' = 32 ∨ b' = 33)) → ¬ (a = 263 ∧ b' = 12) → ¬ (264 ≤ a ∧ a ≤ 267 ∧ 48 ≤ b') → y a b' = s a b'
section
variable {L M : Nat} {T : Nat → Int} {n m i i2 c p k : Nat} {s y z : hh_Sv} {sg : Int} {ev : Nat → MV}
theorem FMc.tr (h1 : FMc M s y) (h2 : FMc M y z) : FMc M s z := fun a b x1 x2 => (h2 a b x1 x2).trans (h1 a b x1 x2)
theorem FMr.tr (h1 : FMr s y) (h2 : FMr y z) : FMr s z := fun a b x1 x2 x3 => (h2 a b x1 x2 x3).trans (h1 a b x1 x2 x3)
theorem CR.nx (h : CR s T n m i) (hi : i < m) : CR (up s 24 5 ((s 24 5) + 1)) T n m (i + 1) := by
  obtain ⟨a, b, c', d, e, f, g, k⟩ := h
  have fr : ∀ x z, ¬ (x = 24 ∧ z = 5) → up s 24 5 (s 24 5 + 1) x z = s x z := fun x z hn => by unfold up; rw [if_neg hn]
  refine ⟨a, b, c', fun j hj => ?_, e, by rw [up_s, f]; rfl, by omega, k⟩
  unfold Tok
  rw [fr _ _ (by omega), fr _ _ (by omega), fr _ _ (by omega)]
  exact d j hj
theorem RG.sgY {cc : Int} (h : TK T n m) (hi : i ≤ m) (hr : RG s T n i) (hw : tP T n i < n ∧ T (tP T n i) = cc) (hc : isA cc = false ∧ isD cc = false) : ∃ y, md_takesSign L cc s = ok L 1 y ∧ FX s y ∧ RG y T n (i + 1) := by
  have hr0 := hr
  obtain ⟨hT, p, p1, p2, p3⟩ := hr
  obtain ⟨a1, a2, a3, a4⟩ := tP_s h hi hw hc
  have ch := h.2.2.2.2 _ hw.1
  obtain ⟨y, y1, y2, y3⟩ := md_takesSign_ok (L := L) (c := cc) hT p1 p2 ⟨by omega, by omega⟩
  rw [p3] at y1 y3
  rw [if_pos hw] at y3
  exact ⟨y, by rw [y1, zb_1 hw], fun a b hh => y2 a b (by omega), hr0.at (fun a b z => y2 a b (by omega)) y3 (by omega) a2⟩
theorem RG.sgN {cc : Int} (h : TK T n m) (hi : i ≤ m) (hr : RG s T n i) (hw : ¬ (tP T n i < n ∧ T (tP T n i) = cc)) (hc : I32 cc) : ∃ y, md_takesSign L cc s = ok L 0 y ∧ FX s y ∧ RG y T n i := by
  have hr0 := hr
  obtain ⟨hT, p, p1, p2, p3⟩ := hr
  obtain ⟨y, y1, y2, y3⟩ := md_takesSign_ok (L := L) (c := cc) hT p1 p2 hc
  rw [p3] at y1 y3
  rw [if_neg hw] at y3
  exact ⟨y, by rw [y1, zb_0 hw], fun a b hh => y2 a b (by omega), hr0.at (fun a b z => y2 a b (by omega)) y3 (h.qq hi).1 (by rw [← p3]; exact rn_rn p2)⟩
def MsJ (L M : Nat) (T : Nat → Int) (n m c i : Nat) (sg : Int) (ev : Nat → MV) : Prop := ∃ (b : Bool) (i2 c2 : Nat) (ev2 : Nat → MV), i2 ≤ m ∧ (∀ s, CR s T n m i → s (170 + 6 * M) 0 = (c : Int) → Cev M c ev s → ∃ y, re_readMeasure_b1 L (170 + 6 * M) sg ((c + 1 : Nat) : Int) s = ok L (zb (b = true)) y ∧ FMc M s y ∧ CR y T n m i2 ∧ (b = true → y (170 + 6 * M) 0 = (c2 : Int) ∧ Cev M c2 ev2 y)) ∧ (∀ s, RG s T n i → s 263 12 = (c : Int) → Rev c ev s → ∃ y, md_measureTold_b1 L 48 sg (c : Int) s = ok L (zb (b = true)) y ∧ FMr s y ∧ RG y T n i2 ∧ (b = true → y 263 12 = (c2 : Int) ∧ Rev c2 ev2 y)) ∧ (b = true → (1 ≤ c2 ∧ c2 ≤ 4) ∧ ∀ j, j < c2 → mv_ok (ev2 j))
theorem ms_ok (h : TK T n m) (hM : M < 12) : ∀ (N c i : Nat) (sg : Int) (ev : Nat → MV), c + N = 3 → i ≤ m → (sg = 1 ∨ sg = -1) → (∀ j, j < c → mv_ok (ev j)) → MsJ L M T n m c i sg ev := by
  have h6 := h.1
  have hmn := h.2.1
  have body : ∀ (c i : Nat) (sg : Int) (ev : Nat → MV), c ≤ 3 → i ≤ m → (sg = 1 ∨ sg = -1) → (∀ j, j < c → mv_ok (ev j)) → (c < 3 → ∀ (i' : Nat) (sg' : Int) (ev' : Nat → MV), i' ≤ m → (sg' = 1 ∨ sg' = -1) → (∀ j, j < c + 1 → mv_ok (ev' j)) → MsJ L M T n m (c + 1) i' sg' ev') → MsJ L M T n m c i sg ev := by
    intro c i sg ev hc hi hsg hev ih
    have sgw : w32 sg = sg := w32_id (by omega) (by omega)
    obtain ⟨b1, j1, e, ⟨o1, o2⟩, o3, o4, o5⟩ := tm1 (L := L) (c := c) (p := 48 + c) (sg := sg) h hi hM (by omega) (by omega) hsg
    have hl4 : w32 ((c + 1 : Nat) : Int) = ((c + 1 : Nat) : Int) := w32_id (by omega) (by omega)
    have e48 : 48 + (c : Int) = ((48 + c : Nat) : Int) := by omega
    cases b1
    · refine ⟨false, j1, 0, ev, o2, fun s hcr h0 hv => ?_, fun s hr h0 hv => ?_, fun z => absurd z (by decide)⟩
      · obtain ⟨y, y1, y2, y3, y4⟩ := o3 s hcr h0
        refine ⟨y, ?_, y2, y3, fun z => absurd z (by decide)⟩
        rw [re_readMeasure_b1_eq, if_neg (by rw [hl4]; omega), y1, ok_bind]
        dsimp only
        rw [if_pos (zb_w.mpr (show ¬ (false = true) by decide)), zb_0 (by decide)]
      · obtain ⟨y, y1, y2, y3, y4⟩ := o4 s hr trivial
        refine ⟨y, ?_, fun a b' x1 x2 x3 => y2 a b' x1 (by omega), y3, fun z => absurd z (by decide)⟩
        rw [md_measureTold_b1_eq, if_pos (by rw [w32_id (by omega) (by omega)]; omega), if_neg (by rw [sgw]; omega), e48, y1, ok_bind]
        dsimp only
        rw [if_pos (zb_w.mpr (show ¬ (false = true) by decide)), zb_0 (by decide)]
    · have eok := o5 rfl
      have hev2 : ∀ j, j < c + 1 → mv_ok ((fun j => if j = c then e else ev j) j) := fun j hj => by
        by_cases ej : j = c
        · show mv_ok (if j = c then e else ev j)
          rw [if_pos ej]; exact eok
        · show mv_ok (if j = c then e else ev j)
          rw [if_neg ej]; exact hev j (by omega)
      have cls : ∀ s, CR s T n m i → s (170 + 6 * M) 0 = (c : Int) → Cev M c ev s → ∃ y, FMc M s y ∧ CR y T n m j1 ∧ y (170 + 6 * M) 0 = ((c + 1 : Nat) : Int) ∧ Cev M (c + 1) (fun j => if j = c then e else ev j) y ∧ re_readMeasure_b1 L (170 + 6 * M) sg ((c + 1 : Nat) : Int) s = (if tK T n (tP T n j1) = 0 then ok L 1 y else (re_isSign L 43 y).bind (fun r2 => if w32 r2.1 = 0 then (re_isSign L 45 r2.2.2).bind (fun r3 => if w32 r3.1 = 0 then re_readMeasure_b6 L (170 + 6 * M) ((c + 1 : Nat) : Int) 0 r3.2.2 else re_readMeasure_b6 L (170 + 6 * M) ((c + 1 : Nat) : Int) (-1) r3.2.2) else re_readMeasure_b6 L (170 + 6 * M) ((c + 1 : Nat) : Int) 1 r2.2.2)) := by
        intro s hcr h0 hv
        obtain ⟨y, y1, y2, y3, y4⟩ := o3 s hcr h0
        obtain ⟨m1, ⟨m2, m3, m4, m5, m6⟩, m7⟩ := y4 rfl
        have y3' := y3
        obtain ⟨ca, cb, cc, cd, ce, cf, cg, ck⟩ := y3'
        obtain ⟨t1, t2, t3⟩ := cd j1 cg
        have kin : (0 : Int) ≤ y 24 5 ∧ y 24 5 < 601 := by omega
        have kt : w32 (y 26 ((y 24 5).toNat)) = tK T n (tP T n j1) := by
          rw [show (y 24 5).toNat = j1 by omega, t1]
          exact tK_w
        refine ⟨y, y2, y3, m1, fun j hj => ?_, ?_⟩
        · by_cases ej : j = c
          · rw [show (fun j => if j = c then e else ev j) j = e from if_pos ej, ej]
            exact ⟨m2, m3, m4, m5, m6⟩
          · rw [show (fun j => if j = c then e else ev j) j = ev j from if_neg ej, m7 _ j (by omega) (by omega) ej, m7 _ j (by omega) (by omega) ej, m7 _ j (by omega) (by omega) ej, m7 _ j (by omega) (by omega) ej, m7 _ j (by omega) (by omega) ej]
            exact hv j (by omega)
        · rw [re_readMeasure_b1_eq, if_neg (by rw [hl4]; omega), y1, ok_bind]
          dsimp only
          rw [if_neg (fun u => zb_w.mp u rfl), if_pos kin]
          by_cases e0 : tK T n (tP T n j1) = 0
          · rw [if_pos (by rw [kt]; exact e0), if_pos e0]
          · rw [if_neg (by rw [kt]; exact e0), if_neg e0]
      have ref : ∀ s, RG s T n i → s 263 12 = (c : Int) → Rev c ev s → ∃ z, FMr s z ∧ RG z T n j1 ∧ z 263 12 = ((c + 1 : Nat) : Int) ∧ Rev (c + 1) (fun j => if j = c then e else ev j) z ∧ md_measureTold_b1 L 48 sg (c : Int) s = (if tP T n j1 = n then ok L 1 z else if c < 3 then (md_takesSign L 43 z).bind (fun r3 => if w32 r3.1 = 0 then (md_takesSign L 45 r3.2.2).bind (fun r4 => if w32 r4.1 = 0 then md_measureTold_b6 L 48 (c : Int) 0 r4.2.2 else md_measureTold_b6 L 48 (c : Int) (-1) r4.2.2) else md_measureTold_b6 L 48 (c : Int) 1 r3.2.2) else md_measureTold_b1 L 48 sg ((c : Int) + 1) z) := by
        intro s hr h0 hv
        obtain ⟨y, y1, y2, y3, y4⟩ := o4 s hr trivial
        obtain ⟨m1, m2, m3, m4⟩ := y4 rfl
        have y263 : y 263 12 = (c : Int) := by rw [y2 _ _ (by omega) (by omega)]; exact h0
        have fr : ∀ a b', ¬ (a = 263 ∧ b' = 12) → up y 263 12 ((y 263 12) + 1) a b' = y a b' := fun a b' hh => by unfold up; rw [if_neg hh]
        have hr2 : RG (up y 263 12 ((y 263 12) + 1)) T n j1 := y3.x (fun a b hh => fr a b (by omega))
        have hr3 := hr2
        obtain ⟨hT, p, p1, p2, p3⟩ := hr2
        obtain ⟨z, z1, z2, z3⟩ := md_blanks_ok (L := L) hT p1 p2
        rw [p3] at z3
        have ez : ∀ a b', ¬ (a = 242 ∧ b' = 12) → ¬ (a = 263 ∧ b' = 12) → z a b' = y a b' := fun a b' x1 x2 => (z2 a b' x1).trans (fr a b' x2)
        have z11 : z 242 11 = (n : Int) := by rw [z2 _ _ (by omega)]; exact hT.1
        have hj1 := h.qq o2
        refine ⟨z, fun a b' x1 x2 x3 => by rw [ez a b' (by omega) x2, y2 a b' x1 (by omega)], hr3.at (fun a b hh => z2 a b (by omega)) z3 hj1.1 (tP_rr p2 p3), ?_, fun j hj => ?_, ?_⟩
        · rw [z2 _ _ (by omega), up_s, y263]; rfl
        · by_cases ej : j = c
          · rw [show (fun j => if j = c then e else ev j) j = e from if_pos ej, ej, ez _ _ (by omega) (by omega), ez _ _ (by omega) (by omega), ez _ _ (by omega) (by omega), ez _ _ (by omega) (by omega)]
            exact ⟨m1, m2, m3, m4⟩
          · rw [show (fun j => if j = c then e else ev j) j = ev j from if_neg ej, ez _ _ (by omega) (by omega), ez _ _ (by omega) (by omega), ez _ _ (by omega) (by omega), ez _ _ (by omega) (by omega), y2 _ _ (by omega) (by omega), y2 _ _ (by omega) (by omega), y2 _ _ (by omega) (by omega), y2 _ _ (by omega) (by omega)]
            exact hv j (by omega)
        · rw [md_measureTold_b1_eq, if_pos (by rw [w32_id (by omega) (by omega)]; omega), if_neg (by rw [sgw]; omega), e48, y1, ok_bind]
          dsimp only
          rw [if_neg (fun u => zb_w.mp u rfl), if_pos (by decide), if_pos (by decide), z1, ok_bind]
          dsimp only
          by_cases en : tP T n j1 = n
          · rw [if_pos (by rw [z3, z11, en]), if_pos en]
          · rw [if_neg (by rw [z3, z11, w32_id (by omega) (by omega), w32_id (by omega) (by omega)]; omega), if_neg en]
            by_cases ec : c < 3
            · rw [if_pos (by rw [w32_id (by omega) (by omega)]; omega), if_pos ec]
            · rw [if_neg (by rw [w32_id (by omega) (by omega)]; omega), if_neg ec]
      have hj1 := h.qq o2
      by_cases en : tP T n j1 = n
      · have k0 : tK T n (tP T n j1) = 0 := tK_0.mpr (by omega)
        refine ⟨true, j1, c + 1, (fun j => if j = c then e else ev j), o2, fun s hcr h0 hv => ?_, fun s hr h0 hv => ?_, fun _ => ⟨by omega, hev2⟩⟩
        · obtain ⟨y, y1, y2, y3, y4, y5⟩ := cls s hcr h0 hv
          exact ⟨y, by rw [y5, if_pos k0, zb_1 rfl], y1, y2, fun _ => ⟨y3, y4⟩⟩
        · obtain ⟨z, z1, z2, z3, z4, z5⟩ := ref s hr h0 hv
          exact ⟨z, by rw [z5, if_pos en, zb_1 rfl], z1, z2, fun _ => ⟨z3, z4⟩⟩
      · have k0 : ¬ tK T n (tP T n j1) = 0 := fun z => by have := tK_0.mp z; omega
        have hlt : j1 < m := hj1.2.mpr (by omega)
        -- what the sign is
        have sgn : ∀ y, CR y T n m j1 → ∃ g : Int, (g = 0 ∨ g = 1 ∨ g = -1) ∧ (g = 1 ↔ T (tP T n j1) = 43) ∧ (g = -1 ↔ T (tP T n j1) = 45) ∧ (re_isSign L 43 y).bind (fun r2 => if w32 r2.1 = 0 then (re_isSign L 45 r2.2.2).bind (fun r3 => if w32 r3.1 = 0 then re_readMeasure_b6 L (170 + 6 * M) ((c + 1 : Nat) : Int) 0 r3.2.2 else re_readMeasure_b6 L (170 + 6 * M) ((c + 1 : Nat) : Int) (-1) r3.2.2) else re_readMeasure_b6 L (170 + 6 * M) ((c + 1 : Nat) : Int) 1 r2.2.2) = re_readMeasure_b6 L (170 + 6 * M) ((c + 1 : Nat) : Int) g y := by
          intro y hy
          rw [re_isSign_ok hy (by decide) ⟨by decide, by decide⟩, ok_bind]
          dsimp only
          by_cases s1 : T (tP T n j1) = 43
          · exact ⟨1, by omega, by omega, by omega, by rw [if_neg (fun u => zb_w.mp u ⟨by omega, s1⟩)]⟩
          · rw [if_pos (zb_w.mpr (fun u => s1 u.2)), re_isSign_ok hy (by decide) ⟨by decide, by decide⟩, ok_bind]
            dsimp only
            by_cases s2 : T (tP T n j1) = 45
            · exact ⟨-1, by omega, by omega, by omega, by rw [if_neg (fun u => zb_w.mp u ⟨by omega, s2⟩)]⟩
            · exact ⟨0, by omega, by omega, by omega, by rw [if_pos (zb_w.mpr (fun u => s2 u.2))]⟩
        by_cases ec : c < 3
        · by_cases s1 : T (tP T n j1) = 43 ∨ T (tP T n j1) = 45
          · rcases s1 with hg2 | hg2
            · obtain ⟨b2, i2, c2, ev2, x1, x2, x3, x4⟩ := ih ec (j1 + 1) 1 (fun j => if j = c then e else ev j) (by omega) (Or.inl rfl) hev2
              refine ⟨b2, i2, c2, ev2, x1, fun s hcr h0 hv => ?_, fun s hr h0 hv => ?_, x4⟩
              · obtain ⟨y, y1, y2, y3, y4, y5⟩ := cls s hcr h0 hv
                obtain ⟨g', q1, q2, q3, q4⟩ := sgn y y2
                have eg : g' = 1 := q2.mpr hg2
                have fr : ∀ a b', ¬ (a = 24 ∧ b' = 5) → up y 24 5 ((y 24 5) + 1) a b' = y a b' := fun a b' hh => by unfold up; rw [if_neg hh]
                obtain ⟨z, z1, z2, z3, z4⟩ := x2 (up y 24 5 ((y 24 5) + 1)) (y2.nx hlt) (by rw [fr _ _ (by omega)]; exact y3) (fun j hj => by rw [fr _ _ (by omega), fr _ _ (by omega), fr _ _ (by omega), fr _ _ (by omega), fr _ _ (by omega)]; exact y4 j hj)
                refine ⟨z, ?_, y1.tr (FMc.tr (fun a b' h1 _ => fr a b' h1) z2), z3, z4⟩
                rw [y5, if_neg k0, q4, eg, re_readMeasure_b6_eq, if_neg wN1, if_neg (by rw [hl4]; omega)]
                exact z1
              · obtain ⟨z, z1, z2, z3, z4, z5⟩ := ref s hr h0 hv
                obtain ⟨u, u1, u2, u3⟩ := z2.sgY (L := L) h o2 ⟨by omega, hg2⟩ (by decide)
                obtain ⟨y, y1, y2, y3, y4⟩ := x3 u u3 (by rw [u2 _ _ (by omega)]; exact z3) (fun j hj => by rw [u2 _ _ (by omega), u2 _ _ (by omega), u2 _ _ (by omega), u2 _ _ (by omega)]; exact z4 j hj)
                refine ⟨y, ?_, z1.tr (FMr.tr (fun a b' h1 _ _ => u2 a b' h1) y2), y3, y4⟩
                rw [z5, if_neg en, if_pos ec, u1, ok_bind]
                dsimp only
                rw [if_neg wN1, md_measureTold_b6_eq]
                exact y1
            · obtain ⟨b2, i2, c2, ev2, x1, x2, x3, x4⟩ := ih ec (j1 + 1) (-1) (fun j => if j = c then e else ev j) (by omega) (Or.inr rfl) hev2
              have hg3 : T (tP T n j1) ≠ 43 := by omega
              refine ⟨b2, i2, c2, ev2, x1, fun s hcr h0 hv => ?_, fun s hr h0 hv => ?_, x4⟩
              · obtain ⟨y, y1, y2, y3, y4, y5⟩ := cls s hcr h0 hv
                obtain ⟨g', q1, q2, q3, q4⟩ := sgn y y2
                have eg : g' = -1 := q3.mpr hg2
                have fr : ∀ a b', ¬ (a = 24 ∧ b' = 5) → up y 24 5 ((y 24 5) + 1) a b' = y a b' := fun a b' hh => by unfold up; rw [if_neg hh]
                obtain ⟨z, z1, z2, z3, z4⟩ := x2 (up y 24 5 ((y 24 5) + 1)) (y2.nx hlt) (by rw [fr _ _ (by omega)]; exact y3) (fun j hj => by rw [fr _ _ (by omega), fr _ _ (by omega), fr _ _ (by omega), fr _ _ (by omega), fr _ _ (by omega)]; exact y4 j hj)
                refine ⟨z, ?_, y1.tr (FMc.tr (fun a b' h1 _ => fr a b' h1) z2), z3, z4⟩
                rw [y5, if_neg k0, q4, eg, re_readMeasure_b6_eq, if_neg (by rw [wM1]; decide), if_neg (by rw [hl4]; omega)]
                exact z1
              · obtain ⟨z, z1, z2, z3, z4, z5⟩ := ref s hr h0 hv
                obtain ⟨v, v1, v2, v3⟩ := z2.sgN (L := L) (cc := 43) h o2 (fun q => hg3 q.2) ⟨by decide, by decide⟩
                obtain ⟨u, u1, u2, u3⟩ := v3.sgY (L := L) h o2 ⟨by omega, hg2⟩ (by decide)
                have uv := v2.tr u2
                obtain ⟨y, y1, y2, y3, y4⟩ := x3 u u3 (by rw [uv _ _ (by omega)]; exact z3) (fun j hj => by rw [uv _ _ (by omega), uv _ _ (by omega), uv _ _ (by omega), uv _ _ (by omega)]; exact z4 j hj)
                refine ⟨y, ?_, z1.tr (FMr.tr (fun a b' h1 _ _ => uv a b' h1) y2), y3, y4⟩
                rw [z5, if_neg en, if_pos ec, v1, ok_bind]
                dsimp only
                rw [if_pos w32_0', u1, ok_bind]
                dsimp only
                rw [if_neg wN1, md_measureTold_b6_eq]
                exact y1
          · refine ⟨false, j1, 0, ev, o2, fun s hcr h0 hv => ?_, fun s hr h0 hv => ?_, fun z => absurd z (by decide)⟩
            · obtain ⟨y, y1, y2, y3, y4, y5⟩ := cls s hcr h0 hv
              obtain ⟨g', q1, q2, q3, q4⟩ := sgn y y2
              have eg : g' = 0 := by omega
              refine ⟨y, ?_, y1, y2, fun z => absurd z (by decide)⟩
              rw [y5, if_neg k0, q4, eg, re_readMeasure_b6_eq, if_pos w32_0', zb_0 (by decide)]
            · obtain ⟨z, z1, z2, z3, z4, z5⟩ := ref s hr h0 hv
              obtain ⟨v, v1, v2, v3⟩ := z2.sgN (L := L) (cc := 43) h o2 (fun q => s1 (Or.inl q.2)) ⟨by decide, by decide⟩
              obtain ⟨u, u1, u2, u3⟩ := v3.sgN (L := L) (cc := 45) h o2 (fun q => s1 (Or.inr q.2)) ⟨by decide, by decide⟩
              have uv := v2.tr u2
              refine ⟨u, ?_, z1.tr (fun a b' h1 _ _ => uv a b' h1), u3, fun z => absurd z (by decide)⟩
              rw [z5, if_neg en, if_pos ec, v1, ok_bind]
              dsimp only
              rw [if_pos w32_0', u1, ok_bind]
              dsimp only
              rw [if_pos w32_0', md_measureTold_b6_eq, md_measureTold_b1_eq, if_pos (by rw [w32_id (by omega) (by omega)]; omega), if_pos w32_0', zb_0 (by decide)]
        · refine ⟨false, j1, 0, ev, o2, fun s hcr h0 hv => ?_, fun s hr h0 hv => ?_, fun z => absurd z (by decide)⟩
          · obtain ⟨y, y1, y2, y3, y4, y5⟩ := cls s hcr h0 hv
            obtain ⟨g', q1, q2, q3, q4⟩ := sgn y y2
            refine ⟨y, ?_, y1, y2, fun z => absurd z (by decide)⟩
            rw [y5, if_neg k0, q4, re_readMeasure_b6_eq, zb_0 (by decide)]
            by_cases e0 : w32 g' = 0
            · rw [if_pos e0]
            · rw [if_neg e0, if_pos (by rw [hl4]; omega)]
          · obtain ⟨z, z1, z2, z3, z4, z5⟩ := ref s hr h0 hv
            refine ⟨z, ?_, z1, z2, fun z => absurd z (by decide)⟩
            rw [z5, if_neg en, if_neg ec, md_measureTold_b1_eq, if_neg (by rw [w32_id (by omega) (by omega)]; omega), zb_0 (by decide)]
  intro N
  induction N with
  | zero => exact fun c i sg ev h1 h2 h3 h4 => body c i sg ev (by omega) h2 h3 h4 (fun z => by omega)
  | succ N ihN => exact fun c i sg ev h1 h2 h3 h4 => body c i sg ev (by omega) h2 h3 h4 (fun _ i' sg' ev' y1 y2 y3 => ihN (c + 1) i' sg' ev' (by omega) y1 y2 y3)
end
