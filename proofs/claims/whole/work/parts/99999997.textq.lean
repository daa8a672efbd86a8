/-! texts: terms of a measure -/
def MA (M c : Nat) (s y : hh_Sv) (k t o n1 n2 : Int) : Prop := y (170 + 6 * M) 0 = ((c + 1 : Nat) : Int) ∧ (y (171 + 6 * M) c = t ∧ y (172 + 6 * M) c = k ∧ y (173 + 6 * M) c = o ∧ y (174 + 6 * M) c = n1 ∧ y (175 + 6 * M) c = n2) ∧ ∀ a j, 171 + 6 * M ≤ a → a ≤ 175 + 6 * M → j ≠ c → y a j = s a j
def CM (L M : Nat) (T : Nat → Int) (n m c i : Nat) (F : hh_Sv → Option hh_Rs) (b : Bool) (i2 : Nat) (k t o n1 n2 : Int) : Prop := ∀ s, CR s T n m i → s (170 + 6 * M) 0 = (c : Int) → ∃ y, F s = ok L (zb (b = true)) y ∧ (∀ a b', ¬ (a = 24 ∧ b' = 5) → ¬ (170 + 6 * M ≤ a ∧ a ≤ 175 + 6 * M) → y a b' = s a b') ∧ CR y T n m i2 ∧ (b = true → MA M c s y k t o n1 n2)
def RMt (L : Nat) (T : Nat → Int) (n p i : Nat) (P : hh_Sv → Prop) (G : hh_Sv → Option hh_Rs) (b : Bool) (i2 : Nat) (t k o nn : Int) : Prop := ∀ s, RG s T n i → P s → ∃ y, G s = ok L (zb (b = true)) y ∧ (∀ a b', ¬ (a = 242 ∧ (b' = 12 ∨ b' = 32 ∨ b' = 33)) → ¬ (264 ≤ a ∧ a ≤ 267 ∧ b' = p) → y a b' = s a b') ∧ RG y T n i2 ∧ (b = true → y 264 p = t ∧ y 265 p = k ∧ y 266 p = o ∧ y 267 p = nn)
theorem me_kr : ∀ k, k ≤ 6 → 9 ≤ me_k k ∧ me_k k ≤ 15 ∧ (me_k k = 12 ↔ k = 1) ∧ (me_k k = 14 ↔ k = 5) ∧ (me_k k < 12 ↔ k = 0 ∨ k = 2 ∨ k = 4) ∧ 256 ≤ wq (me_k k).toNat := fun k hk => (show ∀ k : Nat, k < 7 → 9 ≤ me_k k ∧ me_k k ≤ 15 ∧ (me_k k = 12 ↔ k = 1) ∧ (me_k k = 14 ↔ k = 5) ∧ (me_k k < 12 ↔ k = 0 ∨ k = 2 ∨ k = 4) ∧ 256 ≤ wq (me_k k).toNat by decide +kernel) k (by omega)
section
variable {L M : Nat} {T : Nat → Int} {n m i i2 c p k : Nat} {s : hh_Sv} {sg x t o o1 n1 : Int}
theorem me_add_ok {kk n2 : Int} (hM : M < 12) (hc : c < 4) (h0 : s (170 + 6 * M) 0 = (c : Int)) (ho : o = 0 ∨ o = 1) (hn : n1 = 0 ∨ n1 = 1) : ∃ y, me_add L (170 + 6 * M) kk t o n1 n2 s = ok L 0 y ∧ MA M c s y kk t o n1 n2 ∧ ∀ a b', ¬ (170 + 6 * M ≤ a ∧ a ≤ 175 + 6 * M) → y a b' = s a b' := by
  obtain ⟨k1, k2, ⟨p1, p2, p3, p4, p5⟩, ⟨q1, q2, q3, q4, q5⟩, ⟨l1, l2, l3, l4, l5⟩⟩ := me_shL (L := L) (i := M) hM
  have r1 : ∀ a1 : Int, up s (172 + 6 * M) c a1 (170 + 6 * M) 0 = (c : Int) := fun a1 => by rw [up_k (by omega)]; exact h0
  have r2 : ∀ a1 a2 : Int, up (up s (172 + 6 * M) c a1) (171 + 6 * M) c a2 (170 + 6 * M) 0 = (c : Int) := fun a1 a2 => by rw [up_k (by omega)]; exact r1 a1
  have r3 : ∀ a1 a2 a3 : Int, up (up (up s (172 + 6 * M) c a1) (171 + 6 * M) c a2) (173 + 6 * M) c a3 (170 + 6 * M) 0 = (c : Int) := fun a1 a2 a3 => by rw [up_k (by omega)]; exact r2 a1 a2
  have r4 : ∀ a1 a2 a3 a4 : Int, up (up (up (up s (172 + 6 * M) c a1) (171 + 6 * M) c a2) (173 + 6 * M) c a3) (174 + 6 * M) c a4 (170 + 6 * M) 0 = (c : Int) := fun a1 a2 a3 a4 => by rw [up_k (by omega)]; exact r3 a1 a2 a3
  have r5 : ∀ a1 a2 a3 a4 a5 : Int, up (up (up (up (up s (172 + 6 * M) c a1) (171 + 6 * M) c a2) (173 + 6 * M) c a3) (174 + 6 * M) c a4) (175 + 6 * M) c a5 (170 + 6 * M) 0 = (c : Int) := fun a1 a2 a3 a4 a5 => by rw [up_k (by omega)]; exact r4 a1 a2 a3 a4
  have hin : (0 : Int) ≤ (c : Int) ∧ (c : Int) < ((4 : Nat) : Int) := by omega
  refine ⟨up (up (up (up (up (up s (172 + 6 * M) c kk) (171 + 6 * M) c t) (173 + 6 * M) c o) (174 + 6 * M) c n1) (175 + 6 * M) c n2) (170 + 6 * M) 0 ((c : Int) + 1), ?_, ⟨?_, ⟨?_, ?_, ?_, ?_, ?_⟩, fun a j h1 h2 h3 => ?_⟩, fun a b' hh => ?_⟩
  · rw [me_add_eq, if_pos k1, h0, if_pos (by rw [w32_id (by omega) (by omega)]; omega), if_pos k1, if_pos k1, p2, if_pos q2, if_pos (by omega), l2, if_pos hin, if_pos k1, if_pos k1, p1, if_pos q1, if_pos (by omega), l1, Int.toNat_natCast, r1, if_pos hin, if_pos k1, if_pos k1, p3, if_pos q3, if_pos (by omega), l3, Int.toNat_natCast, r2, if_pos hin, if_pos ho, if_pos k1, if_pos k1, p4, if_pos q4, if_pos (by omega), l4, Int.toNat_natCast, r3, if_pos hin, if_pos hn, if_pos k1, if_pos k1, p5, if_pos q5, if_pos (by omega), l5, Int.toNat_natCast, r4, if_pos hin, if_pos k1, if_pos k1, if_pos (by omega), Int.toNat_natCast, r5]
  · rw [up_s]; rfl
  · rw [up_k (by omega), up_k (by omega), up_k (by omega), up_k (by omega), up_s]
  · rw [up_k (by omega), up_k (by omega), up_k (by omega), up_k (by omega), up_k (by omega), up_s]
  · rw [up_k (by omega), up_k (by omega), up_k (by omega), up_s]
  · rw [up_k (by omega), up_k (by omega), up_s]
  · rw [up_k (by omega), up_s]
  · rw [up_k (by omega), up_j h3, up_j h3, up_j h3, up_j h3, up_j h3]
  · unfold up
    rw [if_neg (by omega), if_neg (by omega), if_neg (by omega), if_neg (by omega), if_neg (by omega), if_neg (by omega)]
theorem RG.takesY {cc : Int} (h : TK T n m) (hi : i ≤ m) (hr : RG s T n i) (hw : wc T n (tP T n i) = cc) (hc : 256 ≤ cc) : ∃ y, md_takes L cc s = ok L 1 y ∧ FX s y ∧ RG y T n (i + 1) := by
  have hr0 := hr
  obtain ⟨hT, p, p1, p2, p3⟩ := hr
  obtain ⟨a1, a2, a3, a4, a5, a6⟩ := tP_w h hi hw hc
  have hb := wc_bd (T := T) (n := n) (q := tP T n i) (by omega)
  obtain ⟨y, y1, y2, y3⟩ := md_takes_ok (L := L) (c := cc) hT p1 p2 ⟨by omega, by omega⟩
  rw [p3] at y1 y3
  rw [if_pos hw] at y3
  exact ⟨y, by rw [y1, zb_1 hw], fun a b hh => y2 a b (by omega), hr0.at (fun a b z => y2 a b (by omega)) y3 (rn_le (by omega)).2 a4⟩
theorem RG.takesN {cc : Int} (h : TK T n m) (hi : i ≤ m) (hr : RG s T n i) (hw : wc T n (tP T n i) ≠ cc) (hc : I64 cc) : ∃ y, md_takes L cc s = ok L 0 y ∧ FX s y ∧ RG y T n i := by
  have hr0 := hr
  obtain ⟨hT, p, p1, p2, p3⟩ := hr
  obtain ⟨y, y1, y2, y3⟩ := md_takes_ok (L := L) (c := cc) hT p1 p2 hc
  rw [p3] at y1 y3
  rw [if_neg hw] at y3
  exact ⟨y, by rw [y1, zb_0 hw], fun a b hh => y2 a b (by omega), hr0.at (fun a b z => y2 a b (by omega)) y3 (h.qq hi).1 (by rw [← p3]; exact rn_rn p2)⟩
theorem RG.numY {lo hh : Int} (h : TK T n m) (hi : i ≤ m) (hr : RG s T n i) (hlo : I32 lo) (hhi : I32 hh) (hw : nOk T n (tP T n i) lo hh = true) : ∃ y, md_takesNumber L lo hh s = ok L 1 y ∧ FX s y ∧ RG y T n (i + 1) ∧ y 242 33 = tC T n (tP T n i) := by
  have hr0 := hr
  obtain ⟨hT, p, p1, p2, p3⟩ := hr
  obtain ⟨a1, a2, a3, a4, a5⟩ := tP_n h hi hw
  obtain ⟨y, y1, y2, y3, y4⟩ := md_takesNumber_ok (L := L) hT p1 p2 hlo hhi
  rw [p3] at y1 y3 y4
  rw [if_pos hw] at y3
  exact ⟨y, by rw [y1, zb_1 hw], fun a b hh => y2 a b (by omega), hr0.at (fun a b z => y2 a b (by omega)) y3 (rn_le (h.qq hi).1).2 a2, by rw [a4]; exact y4 hw⟩
theorem RG.numN {lo hh : Int} (h : TK T n m) (hi : i ≤ m) (hr : RG s T n i) (hlo : I32 lo) (hhi : I32 hh) (hw : ¬ nOk T n (tP T n i) lo hh = true) : ∃ y, md_takesNumber L lo hh s = ok L 0 y ∧ FX s y ∧ RG y T n i := by
  have hr0 := hr
  obtain ⟨hT, p, p1, p2, p3⟩ := hr
  obtain ⟨y, y1, y2, y3, y4⟩ := md_takesNumber_ok (L := L) hT p1 p2 hlo hhi
  rw [p3] at y1 y3
  rw [if_neg hw] at y3
  exact ⟨y, by rw [y1, zb_0 hw], fun a b hh => y2 a b (by omega), hr0.at (fun a b z => y2 a b (by omega)) y3 (h.qq hi).1 (by rw [← p3]; exact rn_rn p2)⟩
theorem of_ok (h : TK T n m) (hi : i ≤ m) : (wc T n (tP T n i) = 6842740 → (∀ s, RG s T n i → ∃ y, md_ofTold L s = ok L 1 y ∧ FX s y ∧ RG y T n (i + 1)) ∧ i < m ∧ ∀ s, CR s T n m i → ∃ y, re_takeOf L s = ok L 1 y ∧ (∀ a b, ¬ (a = 24 ∧ b = 5) → y a b = s a b) ∧ CR y T n m (i + 1)) ∧ (wc T n (tP T n i) = 1835627379 → (∀ s, RG s T n i → ∃ y, md_ofTold L s = ok L 0 y ∧ FX s y ∧ RG y T n (i + 1)) ∧ i < m ∧ ∀ s, CR s T n m i → ∃ y, re_takeOf L s = ok L 1 y ∧ (∀ a b, ¬ (a = 24 ∧ b = 5) → y a b = s a b) ∧ CR y T n m (i + 1)) ∧ (wc T n (tP T n i) ≠ 6842740 → wc T n (tP T n i) ≠ 1835627379 → (∀ s, RG s T n i → ∃ y, md_ofTold L s = ok L (-1) y ∧ FX s y ∧ RG y T n i) ∧ ∀ s, CR s T n m i → re_takeOf L s = ok L 0 s) := by
  have q0 : wq 0 = 6842740 := wq_v.1
  have q7 : wq 7 = 1835627379 := wq_v.2.2.2.2.2.2.2.1
  refine ⟨fun hw => ?_, fun hw => ?_, fun h0 h7 => ?_⟩
  · obtain ⟨a1, a2, a3, a4, a5, a6⟩ := tP_w h hi hw (by decide)
    refine ⟨fun s hr => ?_, a3, fun s hc => ?_⟩
    · obtain ⟨y, y1, y2, y3⟩ := hr.takesY (L := L) h hi hw (by decide)
      refine ⟨y, ?_, y2, y3⟩
      rw [md_ofTold_eq, y1, ok_bind]
      exact if_neg wN1
    · obtain ⟨y, y1, y2, y3⟩ := re_take_ok (L := L) hc a3
      refine ⟨y, ?_, y2, y3⟩
      rw [re_takeOf_eq, isW (c := 0) hc 0 (by decide) rfl q0, ok_bind]
      dsimp only
      rw [if_neg (fun z => zb_w.mp z hw), re_takeOf_b1_eq, y1, ok_bind]
  · obtain ⟨a1, a2, a3, a4, a5, a6⟩ := tP_w h hi hw (by decide)
    have hn : wc T n (tP T n i) ≠ 6842740 := by rw [hw]; decide
    refine ⟨fun s hr => ?_, a3, fun s hc => ?_⟩
    · obtain ⟨u, u1, u2, u3⟩ := hr.takesN (L := L) h hi hn ⟨by decide, by decide⟩
      obtain ⟨y, y1, y2, y3⟩ := u3.takesY (L := L) h hi hw (by decide)
      refine ⟨y, ?_, u2.tr y2, y3⟩
      rw [md_ofTold_eq, u1, ok_bind]
      dsimp only
      rw [if_pos w32_0', y1, ok_bind]
      exact if_neg wN1
    · obtain ⟨y, y1, y2, y3⟩ := re_take_ok (L := L) hc a3
      refine ⟨y, ?_, y2, y3⟩
      rw [re_takeOf_eq, isW (c := 0) hc 0 (by decide) rfl q0, ok_bind]
      dsimp only
      rw [if_pos (zb_w.mpr hn), isW (c := 7) hc 7 (by decide) rfl q7, ok_bind]
      dsimp only
      rw [if_neg (fun z => zb_w.mp z hw), re_takeOf_b1_eq, y1, ok_bind]
  · refine ⟨fun s hr => ?_, fun s hc => ?_⟩
    · obtain ⟨u, u1, u2, u3⟩ := hr.takesN (L := L) h hi h0 ⟨by decide, by decide⟩
      obtain ⟨y, y1, y2, y3⟩ := u3.takesN (L := L) h hi h7 ⟨by decide, by decide⟩
      refine ⟨y, ?_, u2.tr y2, y3⟩
      rw [md_ofTold_eq, u1, ok_bind]
      dsimp only
      rw [if_pos w32_0', y1, ok_bind]
      exact if_pos w32_0'
    · rw [re_takeOf_eq, isW (c := 0) hc 0 (by decide) rfl q0, ok_bind]
      dsimp only
      rw [if_pos (zb_w.mpr h0), isW (c := 7) hc 7 (by decide) rfl q7, ok_bind]
      dsimp only
      rw [if_pos (zb_w.mpr h7)]
theorem b7_ok {n2 : Int} (hM : M < 12) (hc : c < 4) (ho : o = 0 ∨ o = 1) (hn : n1 = 0 ∨ n1 = 1) (h0 : s (170 + 6 * M) 0 = (c : Int)) (hcr : CR s T n m i) : ∃ y, re_readTerm_b7 L (170 + 6 * M) sg x (me_k k) o n1 n2 s = ok L 1 y ∧ (∀ a b', ¬ (170 + 6 * M ≤ a ∧ a ≤ 175 + 6 * M) → y a b' = s a b') ∧ CR y T n m i ∧ MA M c s y (me_k k) (sg * x) o n1 n2 := by
  obtain ⟨k1, -⟩ := me_shL (L := L) (i := M) hM
  obtain ⟨y, y1, y2, y3⟩ := me_add_ok (L := L) (kk := me_k k) (t := sg * x) (n2 := n2) hM hc h0 ho hn
  refine ⟨y, ?_, y3, hcr.fr (fun a b hh => y3 a b (by omega)), y2⟩
  rw [re_readTerm_b7_eq, if_pos k1, y1, ok_bind]
theorem MA.fr {u y : hh_Sv} {kk n2 : Int} (h : MA M c u y kk t o n1 n2) (g : ∀ a b, 170 + 6 * M ≤ a → a ≤ 175 + 6 * M → u a b = s a b) : MA M c s y kk t o n1 n2 := ⟨h.1, h.2.1, fun a j h1 h2 h3 => (h.2.2 a j h1 h2 h3).trans (g a j (by omega) h2)⟩
theorem tm5 (h : TK T n m) (hi : i ≤ m) (hM : M < 12) (hc : c < 4) (hk : k ≤ 6) (ho : o1 = 0 ∨ o1 = 1) (hn : n1 = 0 ∨ n1 = 1) (hp : p < 52) (nn0 : Int) : ∃ (b : Bool) (i2 : Nat) (n2 nn : Int), (i ≤ i2 ∧ i2 ≤ m) ∧ CM L M T n m c i (re_readTerm_b5 L (170 + 6 * M) sg x (me_k k) o1 n1) b i2 (me_k k) (sg * x) o1 n1 n2 ∧ RMt L T n p i (fun s => s 264 p = t ∧ s 265 p = (k : Int) ∧ s 266 p = o ∧ (k ≠ 1 → s 267 p = nn0)) (md_termTold_b17 L (p : Int)) b i2 t (k : Int) o nn ∧ (b = true → (k = 1 → n2 = nn ∧ 1 ≤ nn ∧ nn ≤ 5) ∧ (k ≠ 1 → nn = nn0)) := by
  obtain ⟨kr1, kr2, kr3, kr4, kr5, kr6⟩ := me_kr k hk
  have hin : (0 : Int) ≤ (p : Int) ∧ (p : Int) < 52 := by omega
  have kw : w32 (me_k k) = me_k k := w32_id (by omega) (by omega)
  by_cases e : k = 1
  · by_cases hN : nOk T n (tP T n i) 1 5 = true
    · obtain ⟨b1, b2, b3, b4, b5, b6⟩ := tP_n h hi hN
      refine ⟨true, i + 1, tC T n (tP T n i), tC T n (tP T n i), ⟨by omega, by omega⟩, fun s hcr h0 => ?_, fun s hr hs => ?_, fun _ => ⟨fun _ => ⟨rfl, b5, b6⟩, fun z => absurd e z⟩⟩
      · obtain ⟨y, y1, y2, y3⟩ := re_take_ok (L := L) hcr b1
        obtain ⟨z, z1, z2, z3, z4⟩ := b7_ok (L := L) (k := k) (sg := sg) (x := x) (n2 := tC T n (tP T n i)) hM hc ho hn (by rw [y2 _ _ (by omega)]; exact h0) y3
        refine ⟨z, ?_, fun a b' h1 h2 => (z2 a b' h2).trans (y2 a b' h1), z3, fun _ => z4.fr (fun a b h1 h2 => y2 a b (by omega))⟩
        rw [re_readTerm_b5_eq, if_pos (by rw [kw]; exact kr3.mpr e), re_isNumber_ok hcr ⟨by decide, by decide⟩ ⟨by decide, by decide⟩, ok_bind]
        dsimp only
        rw [if_neg (fun u => zb_w.mp u hN), y1, ok_bind, zb_1 rfl]
        exact z1
      · obtain ⟨y, y1, y2, y3, y4⟩ := hr.numY (L := L) h hi ⟨by decide, by decide⟩ ⟨by decide, by decide⟩ hN
        have fr : ∀ a b', ¬ (a = 267 ∧ b' = p) → up y 267 p (y 242 33) a b' = y a b' := fun a b' hh => by unfold up; rw [if_neg hh]
        refine ⟨up y 267 p (y 242 33), ?_, fun a b' h1 h2 => (fr a b' (by omega)).trans (y2 a b' h1), y3.x (fun a b hh => fr a b (by omega)), fun _ => ⟨?_, ?_, ?_, ?_⟩⟩
        · rw [md_termTold_b17_eq, if_pos hin, Int.toNat_natCast, if_pos (by rw [hs.2.1, e]; exact w32_id (by decide) (by decide)), y1, ok_bind]
          dsimp only
          rw [if_neg wN1, if_pos hin, zb_1 rfl]
        · rw [fr _ _ (by omega), y2 _ _ (by omega)]; exact hs.1
        · rw [fr _ _ (by omega), y2 _ _ (by omega)]; exact hs.2.1
        · rw [fr _ _ (by omega), y2 _ _ (by omega)]; exact hs.2.2.1
        · rw [up_s]; exact y4
    · refine ⟨false, i, 0, 0, ⟨Nat.le_refl _, hi⟩, fun s hcr h0 => ⟨s, ?_, fun _ _ _ _ => rfl, hcr, fun z => absurd z (by decide)⟩, fun s hr hs => ?_, fun z => absurd z (by decide)⟩
      · rw [re_readTerm_b5_eq, if_pos (by rw [kw]; exact kr3.mpr e), re_isNumber_ok hcr ⟨by decide, by decide⟩ ⟨by decide, by decide⟩, ok_bind]
        dsimp only
        rw [if_pos (zb_w.mpr hN), zb_0 (by decide)]
      · obtain ⟨y, y1, y2, y3⟩ := hr.numN (L := L) h hi ⟨by decide, by decide⟩ ⟨by decide, by decide⟩ hN
        refine ⟨y, ?_, fun a b' h1 _ => y2 a b' h1, y3, fun z => absurd z (by decide)⟩
        rw [md_termTold_b17_eq, if_pos hin, Int.toNat_natCast, if_pos (by rw [hs.2.1, e]; exact w32_id (by decide) (by decide)), y1, ok_bind]
        dsimp only
        rw [if_pos w32_0', zb_0 (by decide)]
  · refine ⟨true, i, 0, nn0, ⟨Nat.le_refl _, hi⟩, fun s hcr h0 => ?_, fun s hr hs => ?_, fun _ => ⟨fun z => absurd z e, fun _ => rfl⟩⟩
    · obtain ⟨z, z1, z2, z3, z4⟩ := b7_ok (L := L) (k := k) (sg := sg) (x := x) (n2 := 0) hM hc ho hn h0 hcr
      refine ⟨z, ?_, fun a b' _ h2 => z2 a b' h2, z3, fun _ => z4⟩
      rw [re_readTerm_b5_eq, if_neg (by rw [kw]; exact fun u => e (kr3.mp u)), zb_1 rfl]
      exact z1
    · refine ⟨s, ?_, fun _ _ _ _ => rfl, hr, fun _ => ⟨hs.1, hs.2.1, hs.2.2.1, hs.2.2.2 e⟩⟩
      rw [md_termTold_b17_eq, if_pos hin, Int.toNat_natCast, if_neg (by rw [hs.2.1, w32_id (by omega) (by omega)]; omega), zb_1 rfl]
theorem tm4 (h : TK T n m) (hi : i ≤ m) (hM : M < 12) (hc : c < 4) (hk : k ≤ 6) (ho1 : o1 = 0 ∨ o1 = 1) (ho : o = 0 ∨ o = 1) (hp : p < 52) : ∃ (b : Bool) (i2 : Nat) (n1 n2 nn : Int), (i ≤ i2 ∧ i2 ≤ m) ∧ CM L M T n m c i (re_readTerm_b4 L (170 + 6 * M) sg x (me_k k) o1) b i2 (me_k k) (sg * x) o1 n1 n2 ∧ RMt L T n p i (fun s => s 264 p = t ∧ s 265 p = (k : Int)) (md_termTold_b15 L (p : Int) (p : Int) o) b i2 t (k : Int) o nn ∧ (b = true → (n1 = 0 ∨ n1 = 1) ∧ (k = 1 → n2 = nn ∧ 1 ≤ nn ∧ nn ≤ 5) ∧ (k = 5 → n1 = nn)) := by
  obtain ⟨kr1, kr2, kr3, kr4, kr5, kr6⟩ := me_kr k hk
  have hin : (0 : Int) ≤ (p : Int) ∧ (p : Int) < 52 := by omega
  have kw : w32 (me_k k) = me_k k := w32_id (by omega) (by omega)
  have q0 : wq 0 = 6842740 := wq_v.1
  have z01 : ∀ (P : Prop) [Decidable P], zb P = 0 ∨ zb P = 1 := fun P _ => zb_01
  have ow : w32 o = o := w32_id (by omega) (by omega)
  have fr2 : ∀ (s : hh_Sv) (v : Int) (a b' : Nat), ¬ ((a = 266 ∨ a = 267) ∧ b' = p) → up (up s 266 p o) 267 p v a b' = s a b' := fun s v a b' hh => by unfold up; rw [if_neg (by omega), if_neg (by omega)]
  by_cases e : k = 5
  · -- two of
    have go : ∀ (v : Int), (v = zb (wc T n (tP T n i) = 6842740)) → i < m → (∀ s, RG s T n i → ∃ y, md_ofTold L s = ok L v y ∧ FX s y ∧ RG y T n (i + 1)) → (∀ s, CR s T n m i → ∃ y, re_takeOf L s = ok L 1 y ∧ (∀ a b, ¬ (a = 24 ∧ b = 5) → y a b = s a b) ∧ CR y T n m (i + 1)) → ∃ (b : Bool) (i2 : Nat) (n1 n2 nn : Int), (i ≤ i2 ∧ i2 ≤ m) ∧ CM L M T n m c i (re_readTerm_b4 L (170 + 6 * M) sg x (me_k k) o1) b i2 (me_k k) (sg * x) o1 n1 n2 ∧ RMt L T n p i (fun s => s 264 p = t ∧ s 265 p = (k : Int)) (md_termTold_b15 L (p : Int) (p : Int) o) b i2 t (k : Int) o nn ∧ (b = true → (n1 = 0 ∨ n1 = 1) ∧ (k = 1 → n2 = nn ∧ 1 ≤ nn ∧ nn ≤ 5) ∧ (k = 5 → n1 = nn)) := by
      intro v hv him hR hC
      have hv01 : v = 0 ∨ v = 1 := by rw [hv]; exact z01 _
      obtain ⟨b, i2, n2, nn, w1, w2, w3, w4⟩ := tm5 (L := L) (c := c) (k := k) (sg := sg) (x := x) (o1 := o1) (n1 := v) (p := p) (t := t) (o := o) h (i := i + 1) (by omega) hM hc hk ho1 hv01 hp v
      refine ⟨b, i2, v, n2, nn, ⟨by omega, w1.2⟩, fun s hcr h0 => ?_, fun s hr hs => ?_, fun hb => ⟨hv01, fun z => absurd z (by omega), fun _ => ((w4 hb).2 (by omega)).symm⟩⟩
      · obtain ⟨y, y1, y2, y3⟩ := hC s hcr
        obtain ⟨z, z1, z2, z3, z4⟩ := w2 y y3 (by rw [y2 _ _ (by omega)]; exact h0)
        refine ⟨z, ?_, fun a b' h1 h2 => (z2 a b' h1 h2).trans (y2 a b' h1), z3, fun hb => (z4 hb).fr (fun a b h1 h2 => y2 a b (by omega))⟩
        rw [re_readTerm_b4_eq, isW (c := 0) hcr 0 (by decide) rfl q0, ok_bind]
        dsimp only
        rw [if_pos (by rw [kw]; exact kr4.mpr e), y1, ok_bind]
        dsimp only
        rw [if_neg wN1, ← hv]
        exact z1
      · obtain ⟨y, y1, y2, y3⟩ := hR (up (up s 266 p o) 267 p 0) (hr.x (fun a b hh => fr2 s 0 a b (by omega)))
        have fy : ∀ a b', ¬ (a = 267 ∧ b' = p) → up y 267 p v a b' = y a b' := fun a b' hh => by unfold up; rw [if_neg hh]
        obtain ⟨z, z1, z2, z3, z4⟩ := w3 (up y 267 p v) (y3.x (fun a b hh => fy a b (by omega))) ⟨by rw [fy _ _ (by omega), y2 _ _ (by omega), fr2 _ _ _ _ (by omega)]; exact hs.1, by rw [fy _ _ (by omega), y2 _ _ (by omega), fr2 _ _ _ _ (by omega)]; exact hs.2, by rw [fy _ _ (by omega), y2 _ _ (by omega), up_k (by decide), up_s], fun _ => up_s⟩
        refine ⟨z, ?_, fun a b' h1 h2 => by rw [z2 a b' h1 h2, fy a b' (by omega), y2 a b' h1, fr2 _ _ a b' (by omega)], z3, z4⟩
        have e267 : up y 267 p v 267 p = v := up_s
        rw [md_termTold_b15_eq, if_pos hin, if_pos hin, Int.toNat_natCast, if_neg (by rw [up_s, ow]; omega), if_pos hin, if_pos hin, if_pos (by rw [hs.2, e]; exact w32_id (by decide) (by decide)), y1, ok_bind]
        dsimp only
        rw [if_pos hin, if_pos hin, if_neg (by rw [up_s, w32_id (by omega) (by omega)]; omega)]
        exact z1
    obtain ⟨of1, of2, of3⟩ := of_ok (L := L) h hi
    by_cases e0 : wc T n (tP T n i) = 6842740
    · obtain ⟨x1, x2, x3⟩ := of1 e0
      exact go 1 (by rw [zb_1 e0]) x2 x1 x3
    · by_cases e7 : wc T n (tP T n i) = 1835627379
      · obtain ⟨x1, x2, x3⟩ := of2 e7
        exact go 0 (by rw [zb_0 e0]) x2 x1 x3
      · obtain ⟨x1, x2⟩ := of3 e0 e7
        refine ⟨false, i, 0, 0, 0, ⟨Nat.le_refl _, hi⟩, fun s hcr h0 => ⟨s, ?_, fun _ _ _ _ => rfl, hcr, fun z => absurd z (by decide)⟩, fun s hr hs => ?_, fun z => absurd z (by decide)⟩
        · rw [re_readTerm_b4_eq, isW (c := 0) hcr 0 (by decide) rfl q0, ok_bind]
          dsimp only
          rw [if_pos (by rw [kw]; exact kr4.mpr e), x2 s hcr, ok_bind]
          dsimp only
          rw [if_pos w32_0', zb_0 (by decide)]
        · obtain ⟨y, y1, y2, y3⟩ := x1 (up (up s 266 p o) 267 p 0) (hr.x (fun a b hh => fr2 s 0 a b (by omega)))
          have fy : ∀ a b', ¬ (a = 267 ∧ b' = p) → up y 267 p (-1) a b' = y a b' := fun a b' hh => by unfold up; rw [if_neg hh]
          refine ⟨up y 267 p (-1), ?_, fun a b' h1 h2 => by rw [fy a b' (by omega), y2 a b' h1, fr2 _ _ a b' (by omega)], y3.x (fun a b hh => fy a b (by omega)), fun z => absurd z (by decide)⟩
          rw [md_termTold_b15_eq, if_pos hin, if_pos hin, Int.toNat_natCast, if_neg (by rw [up_s, ow]; omega), if_pos hin, if_pos hin, if_pos (by rw [hs.2, e]; exact w32_id (by decide) (by decide)), y1, ok_bind]
          dsimp only
          rw [if_pos hin, if_pos hin, if_pos (by rw [up_s]; exact wM1), zb_0 (by decide)]
  · obtain ⟨b, i2, n2, nn, w1, w2, w3, w4⟩ := tm5 (L := L) (c := c) (k := k) (sg := sg) (x := x) (o1 := o1) (n1 := zb (wc T n (tP T n i) = 6842740)) (p := p) (t := t) (o := o) h hi hM hc hk ho1 (z01 _) hp 0
    refine ⟨b, i2, zb (wc T n (tP T n i) = 6842740), n2, nn, w1, fun s hcr h0 => ?_, fun s hr hs => ?_, fun hb => ⟨z01 _, (w4 hb).1, fun z => absurd z e⟩⟩
    · obtain ⟨z, z1, z2, z3, z4⟩ := w2 s hcr h0
      refine ⟨z, ?_, z2, z3, z4⟩
      rw [re_readTerm_b4_eq, isW (c := 0) hcr 0 (by decide) rfl q0, ok_bind]
      dsimp only
      rw [if_neg (by rw [kw]; exact fun u => e (kr4.mp u))]
      exact z1
    · obtain ⟨z, z1, z2, z3, z4⟩ := w3 (up (up s 266 p o) 267 p 0) (hr.x (fun a b hh => fr2 s 0 a b (by omega))) ⟨by rw [fr2 _ _ _ _ (by omega)]; exact hs.1, by rw [fr2 _ _ _ _ (by omega)]; exact hs.2, by rw [up_k (by decide), up_s], fun _ => up_s⟩
      refine ⟨z, ?_, fun a b' h1 h2 => by rw [z2 a b' h1 h2, fr2 _ _ a b' (by omega)], z3, z4⟩
      rw [md_termTold_b15_eq, if_pos hin, if_pos hin, Int.toNat_natCast, if_neg (by rw [up_s, ow]; omega), if_pos hin, if_pos hin, if_neg (by rw [hs.2, w32_id (by omega) (by omega)]; omega)]
      exact z1
end
