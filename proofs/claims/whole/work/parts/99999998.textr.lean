/-! texts: a term of a measure -/
section
variable {L M : Nat} {T : Nat → Int} {n m i i2 c p k : Nat} {s : hh_Sv} {sg x t : Int}
theorem tm3 (h : TK T n m) (hi : i ≤ m) (hM : M < 12) (hc : c < 4) (hk : k ≤ 6) (hp : p < 52) : ∃ (b : Bool) (i2 : Nat) (o o1 n1 n2 nn : Int), (i ≤ i2 ∧ i2 ≤ m) ∧ CM L M T n m c i (fun s => (re_isWord L 0 s).bind (fun r3 => if w32 (me_k k) < 12 then re_readTerm_b4 L (170 + 6 * M) sg x (me_k k) r3.1 r3.2.2 else (re_takeOf L r3.2.2).bind (fun r4 => if w32 r4.1 = 0 then ok L 0 r4.2.2 else re_readTerm_b4 L (170 + 6 * M) sg x (me_k k) r3.1 r4.2.2))) b i2 (me_k k) (sg * x) o1 n1 n2 ∧ RMt L T n p i (fun s => s 264 p = t) (md_termTold_b9 L (p : Int) (p : Int) (k : Int)) b i2 t (k : Int) o nn ∧ (b = true → (o = 0 ∨ o = 1) ∧ (o1 = 0 ∨ o1 = 1) ∧ (k = 1 ∨ k = 3 ∨ 5 ≤ k → o1 = o) ∧ (n1 = 0 ∨ n1 = 1) ∧ (k = 5 → n1 = nn) ∧ (k = 1 → n2 = nn ∧ 1 ≤ nn ∧ nn ≤ 5)) := by
  obtain ⟨kr1, kr2, kr3, kr4, kr5, kr6⟩ := me_kr k hk
  have hin : (0 : Int) ≤ (p : Int) ∧ (p : Int) < 52 := by omega
  have kw : w32 (me_k k) = me_k k := w32_id (by omega) (by omega)
  have kw2 : w32 (k : Int) = (k : Int) := w32_id (by omega) (by omega)
  have q0 : wq 0 = 6842740 := wq_v.1
  have z01 : ∀ (P : Prop) [Decidable P], zb P = 0 ∨ zb P = 1 := fun P _ => zb_01
  have fr1 : ∀ (s : hh_Sv) (a b' : Nat), ¬ (a = 265 ∧ b' = p) → up s 265 p (k : Int) a b' = s a b' := fun s a b' hh => by unfold up; rw [if_neg hh]
  by_cases e : k = 0 ∨ k = 2 ∨ k = 4
  · obtain ⟨b, i2, n1, n2, nn, w1, w2, w3, w4⟩ := tm4 (L := L) (c := c) (k := k) (sg := sg) (x := x) (o1 := zb (wc T n (tP T n i) = 6842740)) (p := p) (t := t) (o := 0) h hi hM hc hk (z01 _) (Or.inl rfl) hp
    refine ⟨b, i2, 0, zb (wc T n (tP T n i) = 6842740), n1, n2, nn, w1, fun s hcr h0 => ?_, fun s hr hs => ?_, fun hb => ⟨Or.inl rfl, z01 _, fun z => absurd z (by omega), (w4 hb).1, (w4 hb).2.2, (w4 hb).2.1⟩⟩
    · obtain ⟨z, z1, z2, z3, z4⟩ := w2 s hcr h0
      refine ⟨z, ?_, z2, z3, z4⟩
      show Option.bind _ _ = _
      rw [isW (c := 0) hcr 0 (by decide) rfl q0, ok_bind]
      dsimp only
      rw [if_pos (by rw [kw]; exact kr5.mpr e)]
      exact z1
    · obtain ⟨z, z1, z2, z3, z4⟩ := w3 (up s 265 p (k : Int)) (hr.x (fun a b hh => fr1 s a b (by omega))) ⟨by rw [fr1 _ _ _ (by omega)]; exact hs, up_s⟩
      refine ⟨z, ?_, fun a b' h1 h2 => by rw [z2 a b' h1 h2, fr1 _ a b' (by omega)], z3, z4⟩
      have e13 : md_termTold_b9 L (p : Int) (p : Int) (k : Int) s = md_termTold_b13 L (p : Int) 1 (up s 265 p (k : Int)) := by
        rw [md_termTold_b9_eq, if_pos hin, if_pos hin, Int.toNat_natCast, if_neg (by rw [up_s, kw2]; omega), if_pos hin]
        by_cases e0 : k = 0
        · rw [if_pos (by rw [up_s, kw2]; omega)]
        · rw [if_neg (by rw [up_s, kw2]; omega), if_pos hin]
          by_cases e2 : k = 2
          · rw [if_pos (by rw [up_s, kw2]; omega)]
          · rw [if_neg (by rw [up_s, kw2]; omega), if_pos hin, if_pos (by rw [up_s, kw2]; omega)]
      rw [e13, md_termTold_b13_eq, if_neg wN1]
      exact z1
  · have e13 : ∀ s, md_termTold_b9 L (p : Int) (p : Int) (k : Int) s = (md_ofTold L (up s 265 p (k : Int))).bind (fun r1 => md_termTold_b15 L (p : Int) (p : Int) r1.1 r1.2.2) := fun s => by
      rw [md_termTold_b9_eq, if_pos hin, if_pos hin, Int.toNat_natCast, if_neg (by rw [up_s, kw2]; omega), if_pos hin, if_neg (by rw [up_s, kw2]; omega), if_pos hin, if_neg (by rw [up_s, kw2]; omega), if_pos hin, if_neg (by rw [up_s, kw2]; omega), md_termTold_b13_eq, if_pos w32_0']
    have eF : ∀ s, CR s T n m i → (fun s => (re_isWord L 0 s).bind (fun r3 => if w32 (me_k k) < 12 then re_readTerm_b4 L (170 + 6 * M) sg x (me_k k) r3.1 r3.2.2 else (re_takeOf L r3.2.2).bind (fun r4 => if w32 r4.1 = 0 then ok L 0 r4.2.2 else re_readTerm_b4 L (170 + 6 * M) sg x (me_k k) r3.1 r4.2.2))) s = (re_takeOf L s).bind (fun r4 => if w32 r4.1 = 0 then ok L 0 r4.2.2 else re_readTerm_b4 L (170 + 6 * M) sg x (me_k k) (zb (wc T n (tP T n i) = 6842740)) r4.2.2) := fun s hcr => by
      show Option.bind _ _ = _
      rw [isW (c := 0) hcr 0 (by decide) rfl q0, ok_bind]
      dsimp only
      rw [if_neg (by rw [kw]; exact fun u => e (kr5.mp u))]
    have go : ∀ (v : Int), (v = zb (wc T n (tP T n i) = 6842740)) → i < m → (∀ s, RG s T n i → ∃ y, md_ofTold L s = ok L v y ∧ FX s y ∧ RG y T n (i + 1)) → (∀ s, CR s T n m i → ∃ y, re_takeOf L s = ok L 1 y ∧ (∀ a b, ¬ (a = 24 ∧ b = 5) → y a b = s a b) ∧ CR y T n m (i + 1)) → ∃ (b : Bool) (i2 : Nat) (o o1 n1 n2 nn : Int), (i ≤ i2 ∧ i2 ≤ m) ∧ CM L M T n m c i (fun s => (re_isWord L 0 s).bind (fun r3 => if w32 (me_k k) < 12 then re_readTerm_b4 L (170 + 6 * M) sg x (me_k k) r3.1 r3.2.2 else (re_takeOf L r3.2.2).bind (fun r4 => if w32 r4.1 = 0 then ok L 0 r4.2.2 else re_readTerm_b4 L (170 + 6 * M) sg x (me_k k) r3.1 r4.2.2))) b i2 (me_k k) (sg * x) o1 n1 n2 ∧ RMt L T n p i (fun s => s 264 p = t) (md_termTold_b9 L (p : Int) (p : Int) (k : Int)) b i2 t (k : Int) o nn ∧ (b = true → (o = 0 ∨ o = 1) ∧ (o1 = 0 ∨ o1 = 1) ∧ (k = 1 ∨ k = 3 ∨ 5 ≤ k → o1 = o) ∧ (n1 = 0 ∨ n1 = 1) ∧ (k = 5 → n1 = nn) ∧ (k = 1 → n2 = nn ∧ 1 ≤ nn ∧ nn ≤ 5)) := by
      intro v hv him hR hC
      have hv01 : v = 0 ∨ v = 1 := by rw [hv]; exact z01 _
      obtain ⟨b, i2, n1, n2, nn, w1, w2, w3, w4⟩ := tm4 (L := L) (c := c) (k := k) (sg := sg) (x := x) (o1 := v) (p := p) (t := t) (o := v) h (i := i + 1) (by omega) hM hc hk hv01 hv01 hp
      refine ⟨b, i2, v, v, n1, n2, nn, ⟨by omega, w1.2⟩, fun s hcr h0 => ?_, fun s hr hs => ?_, fun hb => ⟨hv01, hv01, fun _ => rfl, (w4 hb).1, (w4 hb).2.2, (w4 hb).2.1⟩⟩
      · obtain ⟨y, y1, y2, y3⟩ := hC s hcr
        obtain ⟨z, z1, z2, z3, z4⟩ := w2 y y3 (by rw [y2 _ _ (by omega)]; exact h0)
        refine ⟨z, ?_, fun a b' h1 h2 => (z2 a b' h1 h2).trans (y2 a b' h1), z3, fun hb => (z4 hb).fr (fun a b h1 h2 => y2 a b (by omega))⟩
        rw [eF s hcr, y1, ok_bind]
        dsimp only
        rw [if_neg wN1, ← hv]
        exact z1
      · obtain ⟨y, y1, y2, y3⟩ := hR (up s 265 p (k : Int)) (hr.x (fun a b hh => fr1 s a b (by omega)))
        obtain ⟨z, z1, z2, z3, z4⟩ := w3 y y3 ⟨by rw [y2 _ _ (by omega), fr1 _ _ _ (by omega)]; exact hs, by rw [y2 _ _ (by omega), up_s]⟩
        refine ⟨z, ?_, fun a b' h1 h2 => by rw [z2 a b' h1 h2, y2 a b' h1, fr1 _ a b' (by omega)], z3, z4⟩
        rw [e13 s, y1, ok_bind]
        exact z1
    obtain ⟨of1, of2, of3⟩ := of_ok (L := L) h hi
    by_cases e0 : wc T n (tP T n i) = 6842740
    · obtain ⟨x1, x2, x3⟩ := of1 e0
      exact go 1 (by rw [zb_1 e0]) x2 x1 x3
    · by_cases e7 : wc T n (tP T n i) = 1835627379
      · obtain ⟨x1, x2, x3⟩ := of2 e7
        exact go 0 (by rw [zb_0 e0]) x2 x1 x3
      · obtain ⟨x1, x2⟩ := of3 e0 e7
        refine ⟨false, i, 0, 0, 0, 0, 0, ⟨Nat.le_refl _, hi⟩, fun s hcr h0 => ⟨s, ?_, fun _ _ _ _ => rfl, hcr, fun z => absurd z (by decide)⟩, fun s hr hs => ?_, fun z => absurd z (by decide)⟩
        · rw [eF s hcr, x2 s hcr, ok_bind]
          dsimp only
          rw [if_pos w32_0', zb_0 (by decide)]
        · obtain ⟨y, y1, y2, y3⟩ := x1 (up s 265 p (k : Int)) (hr.x (fun a b hh => fr1 s a b (by omega)))
          have fy : ∀ a b', ¬ (a = 266 ∧ b' = p) → up y 266 p (-1) a b' = y a b' := fun a b' hh => by unfold up; rw [if_neg hh]
          refine ⟨up y 266 p (-1), ?_, fun a b' h1 h2 => by rw [fy a b' (by omega), y2 a b' h1, fr1 _ a b' (by omega)], y3.x (fun a b hh => fy a b (by omega)), fun z => absurd z (by decide)⟩
          rw [e13 s, y1, ok_bind]
          dsimp only
          rw [md_termTold_b15_eq, if_pos hin, if_pos hin, Int.toNat_natCast, if_pos (by rw [up_s]; exact wM1), zb_0 (by decide)]
theorem tm_w (h : TK T n m) (hi : i ≤ m) (hr : RG s T n i) : (∀ k, k ≤ 6 → wc T n (tP T n i) = wq (me_k k).toNat → ∃ y, md_termTold_b1 L (p : Int) s = md_termTold_b9 L (p : Int) (p : Int) (k : Int) y ∧ FX s y ∧ RG y T n (i + 1)) ∧ ((∀ k, k ≤ 6 → wc T n (tP T n i) ≠ wq (me_k k).toNat) → ∃ y, md_termTold_b1 L (p : Int) s = md_termTold_b9 L (p : Int) (p : Int) (-1) y ∧ FX s y ∧ RG y T n i) := by
  have z0 : wq (me_k 0).toNat = 495672455781 := by decide +kernel
  have z1 : wq (me_k 1).toNat = 418330731890 := by decide +kernel
  have z2 : wq (me_k 2).toNat = 1920298611 := by decide +kernel
  have z3 : wq (me_k 3).toNat = 30521817456538484 := by decide +kernel
  have z4 : wq (me_k 4).toNat = 1751741555 := by decide +kernel
  have z5 : wq (me_k 5).toNat = 482670637683 := by decide +kernel
  have z6 : wq (me_k 6).toNat = 439855772532 := by decide +kernel
  refine ⟨fun k hk hw => ?_, fun hw => ?_⟩
  · have hh : k = 0 ∨ k = 1 ∨ k = 2 ∨ k = 3 ∨ k = 4 ∨ k = 5 ∨ k = 6 := by omega
    rcases hh with hh | hh | hh | hh | hh | hh | hh <;> subst hh
    · rw [z0] at hw
      obtain ⟨y, y1, y2, y3⟩ := hr.takesY (L := L) h hi hw (by decide)
      refine ⟨y, ?_, y2, y3⟩
      rw [md_termTold_b1_eq, y1, ok_bind]
      dsimp only
      rw [if_neg wN1]
      rfl
    · rw [z1] at hw
      obtain ⟨u0, a0, b0, r0⟩ := hr.takesN (L := L) (cc := 495672455781) h hi (by rw [hw]; decide) ⟨by decide, by decide⟩
      obtain ⟨y, y1, y2, y3⟩ := r0.takesY (L := L) h hi hw (by decide)
      refine ⟨y, ?_, b0.tr (y2), y3⟩
      rw [md_termTold_b1_eq, a0, ok_bind]
      dsimp only
      rw [if_pos w32_0', y1, ok_bind]
      dsimp only
      rw [if_neg wN1]
      rfl
    · rw [z2] at hw
      obtain ⟨u0, a0, b0, r0⟩ := hr.takesN (L := L) (cc := 495672455781) h hi (by rw [hw]; decide) ⟨by decide, by decide⟩
      obtain ⟨u1, a1, b1, r1⟩ := r0.takesN (L := L) (cc := 418330731890) h hi (by rw [hw]; decide) ⟨by decide, by decide⟩
      obtain ⟨y, y1, y2, y3⟩ := r1.takesY (L := L) h hi hw (by decide)
      refine ⟨y, ?_, b0.tr (b1.tr (y2)), y3⟩
      rw [md_termTold_b1_eq, a0, ok_bind]
      dsimp only
      rw [if_pos w32_0', a1, ok_bind]
      dsimp only
      rw [if_pos w32_0', y1, ok_bind]
      dsimp only
      rw [if_neg wN1]
      rfl
    · rw [z3] at hw
      obtain ⟨u0, a0, b0, r0⟩ := hr.takesN (L := L) (cc := 495672455781) h hi (by rw [hw]; decide) ⟨by decide, by decide⟩
      obtain ⟨u1, a1, b1, r1⟩ := r0.takesN (L := L) (cc := 418330731890) h hi (by rw [hw]; decide) ⟨by decide, by decide⟩
      obtain ⟨u2, a2, b2, r2⟩ := r1.takesN (L := L) (cc := 1920298611) h hi (by rw [hw]; decide) ⟨by decide, by decide⟩
      obtain ⟨y, y1, y2, y3⟩ := r2.takesY (L := L) h hi hw (by decide)
      refine ⟨y, ?_, b0.tr (b1.tr (b2.tr (y2))), y3⟩
      rw [md_termTold_b1_eq, a0, ok_bind]
      dsimp only
      rw [if_pos w32_0', a1, ok_bind]
      dsimp only
      rw [if_pos w32_0', a2, ok_bind]
      dsimp only
      rw [if_pos w32_0', y1, ok_bind]
      dsimp only
      rw [if_neg wN1]
      rfl
    · rw [z4] at hw
      obtain ⟨u0, a0, b0, r0⟩ := hr.takesN (L := L) (cc := 495672455781) h hi (by rw [hw]; decide) ⟨by decide, by decide⟩
      obtain ⟨u1, a1, b1, r1⟩ := r0.takesN (L := L) (cc := 418330731890) h hi (by rw [hw]; decide) ⟨by decide, by decide⟩
      obtain ⟨u2, a2, b2, r2⟩ := r1.takesN (L := L) (cc := 1920298611) h hi (by rw [hw]; decide) ⟨by decide, by decide⟩
      obtain ⟨u3, a3, b3, r3⟩ := r2.takesN (L := L) (cc := 30521817456538484) h hi (by rw [hw]; decide) ⟨by decide, by decide⟩
      obtain ⟨y, y1, y2, y3⟩ := r3.takesY (L := L) h hi hw (by decide)
      refine ⟨y, ?_, b0.tr (b1.tr (b2.tr (b3.tr (y2)))), y3⟩
      rw [md_termTold_b1_eq, a0, ok_bind]
      dsimp only
      rw [if_pos w32_0', a1, ok_bind]
      dsimp only
      rw [if_pos w32_0', a2, ok_bind]
      dsimp only
      rw [if_pos w32_0', a3, ok_bind]
      dsimp only
      rw [if_pos w32_0', y1, ok_bind]
      dsimp only
      rw [if_neg wN1]
      rfl
    · rw [z5] at hw
      obtain ⟨u0, a0, b0, r0⟩ := hr.takesN (L := L) (cc := 495672455781) h hi (by rw [hw]; decide) ⟨by decide, by decide⟩
      obtain ⟨u1, a1, b1, r1⟩ := r0.takesN (L := L) (cc := 418330731890) h hi (by rw [hw]; decide) ⟨by decide, by decide⟩
      obtain ⟨u2, a2, b2, r2⟩ := r1.takesN (L := L) (cc := 1920298611) h hi (by rw [hw]; decide) ⟨by decide, by decide⟩
      obtain ⟨u3, a3, b3, r3⟩ := r2.takesN (L := L) (cc := 30521817456538484) h hi (by rw [hw]; decide) ⟨by decide, by decide⟩
      obtain ⟨u4, a4, b4, r4⟩ := r3.takesN (L := L) (cc := 1751741555) h hi (by rw [hw]; decide) ⟨by decide, by decide⟩
      obtain ⟨y, y1, y2, y3⟩ := r4.takesY (L := L) h hi hw (by decide)
      refine ⟨y, ?_, b0.tr (b1.tr (b2.tr (b3.tr (b4.tr (y2))))), y3⟩
      rw [md_termTold_b1_eq, a0, ok_bind]
      dsimp only
      rw [if_pos w32_0', a1, ok_bind]
      dsimp only
      rw [if_pos w32_0', a2, ok_bind]
      dsimp only
      rw [if_pos w32_0', a3, ok_bind]
      dsimp only
      rw [if_pos w32_0', a4, ok_bind]
      dsimp only
      rw [if_pos w32_0', y1, ok_bind]
      dsimp only
      rw [if_neg wN1]
      rfl
    · rw [z6] at hw
      obtain ⟨u0, a0, b0, r0⟩ := hr.takesN (L := L) (cc := 495672455781) h hi (by rw [hw]; decide) ⟨by decide, by decide⟩
      obtain ⟨u1, a1, b1, r1⟩ := r0.takesN (L := L) (cc := 418330731890) h hi (by rw [hw]; decide) ⟨by decide, by decide⟩
      obtain ⟨u2, a2, b2, r2⟩ := r1.takesN (L := L) (cc := 1920298611) h hi (by rw [hw]; decide) ⟨by decide, by decide⟩
      obtain ⟨u3, a3, b3, r3⟩ := r2.takesN (L := L) (cc := 30521817456538484) h hi (by rw [hw]; decide) ⟨by decide, by decide⟩
      obtain ⟨u4, a4, b4, r4⟩ := r3.takesN (L := L) (cc := 1751741555) h hi (by rw [hw]; decide) ⟨by decide, by decide⟩
      obtain ⟨u5, a5, b5, r5⟩ := r4.takesN (L := L) (cc := 482670637683) h hi (by rw [hw]; decide) ⟨by decide, by decide⟩
      obtain ⟨y, y1, y2, y3⟩ := r5.takesY (L := L) h hi hw (by decide)
      refine ⟨y, ?_, b0.tr (b1.tr (b2.tr (b3.tr (b4.tr (b5.tr (y2)))))), y3⟩
      rw [md_termTold_b1_eq, a0, ok_bind]
      dsimp only
      rw [if_pos w32_0', a1, ok_bind]
      dsimp only
      rw [if_pos w32_0', a2, ok_bind]
      dsimp only
      rw [if_pos w32_0', a3, ok_bind]
      dsimp only
      rw [if_pos w32_0', a4, ok_bind]
      dsimp only
      rw [if_pos w32_0', a5, ok_bind]
      dsimp only
      rw [if_pos w32_0', y1, ok_bind]
      dsimp only
      rw [if_neg wN1]
      rfl
  · have h0 := hw 0 (by decide)
    rw [z0] at h0
    obtain ⟨u0, a0, b0, r0⟩ := hr.takesN (L := L) (cc := 495672455781) h hi h0 ⟨by decide, by decide⟩
    have h1 := hw 1 (by decide)
    rw [z1] at h1
    obtain ⟨u1, a1, b1, r1⟩ := r0.takesN (L := L) (cc := 418330731890) h hi h1 ⟨by decide, by decide⟩
    have h2 := hw 2 (by decide)
    rw [z2] at h2
    obtain ⟨u2, a2, b2, r2⟩ := r1.takesN (L := L) (cc := 1920298611) h hi h2 ⟨by decide, by decide⟩
    have h3 := hw 3 (by decide)
    rw [z3] at h3
    obtain ⟨u3, a3, b3, r3⟩ := r2.takesN (L := L) (cc := 30521817456538484) h hi h3 ⟨by decide, by decide⟩
    have h4 := hw 4 (by decide)
    rw [z4] at h4
    obtain ⟨u4, a4, b4, r4⟩ := r3.takesN (L := L) (cc := 1751741555) h hi h4 ⟨by decide, by decide⟩
    have h5 := hw 5 (by decide)
    rw [z5] at h5
    obtain ⟨u5, a5, b5, r5⟩ := r4.takesN (L := L) (cc := 482670637683) h hi h5 ⟨by decide, by decide⟩
    have h6 := hw 6 (by decide)
    rw [z6] at h6
    obtain ⟨u6, a6, b6, r6⟩ := r5.takesN (L := L) (cc := 439855772532) h hi h6 ⟨by decide, by decide⟩
    refine ⟨u6, ?_, b0.tr (b1.tr (b2.tr (b3.tr (b4.tr (b5.tr (b6)))))), r6⟩
    rw [md_termTold_b1_eq, a0, ok_bind]
    dsimp only
    rw [if_pos w32_0', a1, ok_bind]
    dsimp only
    rw [if_pos w32_0', a2, ok_bind]
    dsimp only
    rw [if_pos w32_0', a3, ok_bind]
    dsimp only
    rw [if_pos w32_0', a4, ok_bind]
    dsimp only
    rw [if_pos w32_0', a5, ok_bind]
    dsimp only
    rw [if_pos w32_0', a6, ok_bind]
    dsimp only
    rw [if_pos w32_0']
theorem tm_bad (hin : (0 : Int) ≤ (p : Int) ∧ (p : Int) < 52) (hr : RG s T n i) : ∃ y, md_termTold_b9 L (p : Int) (p : Int) (-1) s = ok L 0 y ∧ (∀ a b', ¬ (a = 265 ∧ b' = p) → y a b' = s a b') ∧ RG y T n i := by
  have fy : ∀ a b', ¬ (a = 265 ∧ b' = p) → up s 265 p (-1) a b' = s a b' := fun a b' hh => by unfold up; rw [if_neg hh]
  refine ⟨up s 265 p (-1), ?_, fy, hr.x (fun a b hh => fy a b (by omega))⟩
  rw [md_termTold_b9_eq, if_pos hin, if_pos hin, Int.toNat_natCast, if_pos (by rw [up_s]; exact wM1)]
theorem tm2 (h : TK T n m) (hi : i ≤ m) (hM : M < 12) (hc : c < 4) (hp : p < 52) : ∃ (b : Bool) (i2 k : Nat) (o o1 n1 n2 nn : Int), (i ≤ i2 ∧ i2 ≤ m) ∧ CM L M T n m c i (re_readTerm_b2 L (170 + 6 * M) sg x) b i2 (me_k k) (sg * x) o1 n1 n2 ∧ RMt L T n p i (fun s => s 264 p = t) (md_termTold_b1 L (p : Int)) b i2 t (k : Int) o nn ∧ (b = true → k ≤ 6 ∧ (o = 0 ∨ o = 1) ∧ (o1 = 0 ∨ o1 = 1) ∧ (k = 1 ∨ k = 3 ∨ 5 ≤ k → o1 = o) ∧ (n1 = 0 ∨ n1 = 1) ∧ (k = 5 → n1 = nn) ∧ (k = 1 → n2 = nn ∧ 1 ≤ nn ∧ nn ≤ 5)) := by
  have hin : (0 : Int) ≤ (p : Int) ∧ (p : Int) < 52 := by omega
  have hq := h.qq hi
  by_cases hP : ∃ k, k ≤ 6 ∧ wc T n (tP T n i) = wq (me_k k).toNat
  · obtain ⟨k, hk, hw⟩ := hP
    obtain ⟨kr1, kr2, kr3, kr4, kr5, kr6⟩ := me_kr k hk
    obtain ⟨a1, a2, a3, a4, a5, a6⟩ := tP_w h hi hw kr6
    have ex : wx T n (tP T n i) = me_k k := by
      have := (wx_iff hq.1 (w := (me_k k).toNat) (by omega)).mpr hw
      omega
    have eC : tC T n (tP T n i) = me_k k := by
      unfold tC
      rw [if_pos a1, if_pos a2, ex]
    have hQ : (tP T n i < n ∧ isA (T (tP T n i)) = true) ∧ 9 ≤ wx T n (tP T n i) ∧ wx T n (tP T n i) ≤ 15 := ⟨⟨a1, a2⟩, by omega, by omega⟩
    obtain ⟨b, i2, o, o1, n1, n2, nn, w1, w2, w3, w4⟩ := tm3 (L := L) (c := c) (k := k) (sg := sg) (x := x) (p := p) (t := t) h (i := i + 1) (by omega) hM hc hk hp
    refine ⟨b, i2, k, o, o1, n1, n2, nn, ⟨by omega, w1.2⟩, fun s hcr h0 => ?_, fun s hr hs => ?_, fun hb => ⟨hk, w4 hb⟩⟩
    · obtain ⟨y, y1, y2, y3⟩ := re_take_ok (L := L) hcr a3
      obtain ⟨z, z1, z2, z3, z4⟩ := w2 y y3 (by rw [y2 _ _ (by omega)]; exact h0)
      refine ⟨z, ?_, fun a b' h1 h2 => (z2 a b' h1 h2).trans (y2 a b' h1), z3, fun hb => (z4 hb).fr (fun a b h1 h2 => y2 a b (by omega))⟩
      rw [re_readTerm_b2_eq, re_isWordOf_ok hcr ⟨by decide, by decide⟩ ⟨by decide, by decide⟩, ok_bind]
      dsimp only
      rw [if_neg (fun u => zb_w.mp u hQ), y1, eC, ok_bind]
      exact z1
    · obtain ⟨y, y1, y2, y3⟩ := (tm_w (L := L) (p := p) h hi hr).1 k hk hw
      obtain ⟨z, z1, z2, z3, z4⟩ := w3 y y3 (by show y 264 p = t; rw [y2 _ _ (by omega)]; exact hs)
      refine ⟨z, by rw [y1]; exact z1, fun a b' h1 h2 => by rw [z2 a b' h1 h2, y2 a b' h1], z3, z4⟩
  · have hw : ∀ k, k ≤ 6 → wc T n (tP T n i) ≠ wq (me_k k).toNat := fun k hk z => hP ⟨k, hk, z⟩
    have hQ : ¬ ((tP T n i < n ∧ isA (T (tP T n i)) = true) ∧ 9 ≤ wx T n (tP T n i) ∧ wx T n (tP T n i) ≤ 15) := fun z => by
      obtain ⟨w, hw2⟩ : ∃ w : Nat, wx T n (tP T n i) = (w : Int) := ⟨(wx T n (tP T n i)).toNat, by omega⟩
      obtain ⟨k, hk7, hk⟩ := (show ∀ w : Nat, w < 16 → 9 ≤ w → ∃ k, k < 7 ∧ (me_k k).toNat = w by decide +kernel) w (by omega) (by omega)
      exact hw k (by omega) (by rw [hk]; exact (wx_iff hq.1 (by omega)).mp hw2)
    refine ⟨false, i, 0, 0, 0, 0, 0, 0, ⟨Nat.le_refl _, hi⟩, fun s hcr h0 => ⟨s, ?_, fun _ _ _ _ => rfl, hcr, fun z => absurd z (by decide)⟩, fun s hr hs => ?_, fun z => absurd z (by decide)⟩
    · rw [re_readTerm_b2_eq, re_isWordOf_ok hcr ⟨by decide, by decide⟩ ⟨by decide, by decide⟩, ok_bind]
      dsimp only
      rw [if_pos (zb_w.mpr hQ), zb_0 (by decide)]
    · obtain ⟨y, y1, y2, y3⟩ := (tm_w (L := L) (p := p) h hi hr).2 hw
      obtain ⟨z, z1, z2, z3⟩ := tm_bad (L := L) hin y3
      exact ⟨z, by rw [y1, zb_0 (by decide)]; exact z1, fun a b' h1 h2 => by rw [z2 a b' (by omega), y2 a b' h1], z3, fun z => absurd z (by decide)⟩
end
abbrev MV : Type := Nat × Int × Int × Int × Int × Int × Int
def mv_ok (e : MV) : Prop := e.1 ≤ 6 ∧ (e.2.1 = 1 ∨ e.2.1 = 2 ∨ e.2.1 = 3 ∨ e.2.1 = -1 ∨ e.2.1 = -2 ∨ e.2.1 = -3) ∧ (e.2.2.1 = 0 ∨ e.2.2.1 = 1) ∧ (e.2.2.2.2.1 = 0 ∨ e.2.2.2.2.1 = 1) ∧ (e.1 = 1 ∨ e.1 = 3 ∨ 5 ≤ e.1 → e.2.2.2.2.1 = e.2.2.1) ∧ (e.2.2.2.2.2.1 = 0 ∨ e.2.2.2.2.2.1 = 1) ∧ (e.1 = 5 → e.2.2.2.2.2.1 = e.2.2.2.1) ∧ (e.1 = 1 → e.2.2.2.2.2.2 = e.2.2.2.1 ∧ 1 ≤ e.2.2.2.1 ∧ e.2.2.2.1 ≤ 5)
section
variable {L M : Nat} {T : Nat → Int} {n m i i2 c p k : Nat} {s : hh_Sv} {sg : Int}
theorem tm1 (h : TK T n m) (hi : i ≤ m) (hM : M < 12) (hc : c < 4) (hp : p < 52) (hsg : sg = 1 ∨ sg = -1) : ∃ (b : Bool) (i2 : Nat) (e : MV), (i ≤ i2 ∧ i2 ≤ m) ∧ CM L M T n m c i (re_readTerm L (170 + 6 * M) sg) b i2 (me_k e.1) e.2.1 e.2.2.2.2.1 e.2.2.2.2.2.1 e.2.2.2.2.2.2 ∧ RMt L T n p i (fun _ => True) (md_termTold L (p : Int) sg) b i2 e.2.1 (e.1 : Int) e.2.2.1 e.2.2.2.1 ∧ (b = true → mv_ok e) := by
  have hin : (0 : Int) ≤ (p : Int) ∧ (p : Int) < 52 := by omega
  have hq := h.qq hi
  have kind : ∀ s, CR s T n m i → (0 ≤ s 24 5 ∧ s 24 5 < 601) ∧ w32 (s 26 ((s 24 5).toNat)) = tK T n (tP T n i) := fun s hcr => by
    obtain ⟨a, b, c', d, e, f, g, k⟩ := hcr
    obtain ⟨t1, t2, t3⟩ := d i g
    refine ⟨by omega, ?_⟩
    rw [show (s 24 5).toNat = i by omega, t1]
    exact tK_w
  have fr0 : ∀ (s : hh_Sv) (v : Int) (a b' : Nat), ¬ (a = 264 ∧ b' = p) → up s 264 p v a b' = s a b' := fun s v a b' hh => by unfold up; rw [if_neg hh]
  by_cases hk : tK T n (tP T n i) = 2
  · by_cases hN : nOk T n (tP T n i) 1 3 = true
    · obtain ⟨b1, b2, b3, b4, b5, b6⟩ := tP_n h hi hN
      obtain ⟨b, i2, k, o, o1, n1, n2, nn, w1, w2, w3, w4⟩ := tm2 (L := L) (c := c) (sg := sg) (x := tC T n (tP T n i)) (p := p) (t := sg * tC T n (tP T n i)) h (i := i + 1) (by omega) hM hc hp
      refine ⟨b, i2, (k, sg * tC T n (tP T n i), o, nn, o1, n1, n2), ⟨by omega, w1.2⟩, fun s hcr h0 => ?_, fun s hr hs => ?_, fun hb => ⟨(w4 hb).1, ?_, (w4 hb).2⟩⟩
      · obtain ⟨y, y1, y2, y3⟩ := re_take_ok (L := L) hcr b1
        obtain ⟨z, z1, z2, z3, z4⟩ := w2 y y3 (by rw [y2 _ _ (by omega)]; exact h0)
        refine ⟨z, ?_, fun a b' h1 h2 => (z2 a b' h1 h2).trans (y2 a b' h1), z3, fun hb => (z4 hb).fr (fun a b h1 h2 => y2 a b (by omega))⟩
        rw [re_readTerm_eq, if_pos (kind s hcr).1, if_pos (by rw [(kind s hcr).2]; exact hk), re_isNumber_ok hcr ⟨by decide, by decide⟩ ⟨by decide, by decide⟩, ok_bind]
        dsimp only
        rw [if_neg (fun u => zb_w.mp u hN), y1, ok_bind]
        exact z1
      · obtain ⟨y, y1, y2, y3, y4⟩ := RG.numY (L := L) (s := up s 264 p sg) h hi (hr.x (fun a b hh => fr0 s sg a b (by omega))) ⟨by decide, by decide⟩ ⟨by decide, by decide⟩ hN
        obtain ⟨z, z1, z2, z3, z4⟩ := w3 (up y 264 p (sg * tC T n (tP T n i))) (y3.x (fun a b hh => fr0 y _ a b (by omega))) up_s
        refine ⟨z, ?_, fun a b' h1 h2 => by rw [z2 a b' h1 h2, fr0 _ _ a b' (by omega), y2 a b' h1, fr0 _ _ a b' (by omega)], z3, z4⟩
        rw [md_termTold_eq, if_pos hin, Int.toNat_natCast, y1, ok_bind]
        dsimp only
        rw [if_neg wN1, if_pos hin, y4]
        exact z1
      · show sg * tC T n (tP T n i) = 1 ∨ sg * tC T n (tP T n i) = 2 ∨ sg * tC T n (tP T n i) = 3 ∨ sg * tC T n (tP T n i) = -1 ∨ sg * tC T n (tP T n i) = -2 ∨ sg * tC T n (tP T n i) = -3
        rcases hsg with hsg | hsg <;> rw [hsg] <;> omega
    · refine ⟨false, i, (0, 0, 0, 0, 0, 0, 0), ⟨Nat.le_refl _, hi⟩, fun s hcr h0 => ⟨s, ?_, fun _ _ _ _ => rfl, hcr, fun z => absurd z (by decide)⟩, fun s hr hs => ?_, fun z => absurd z (by decide)⟩
      · rw [re_readTerm_eq, if_pos (kind s hcr).1, if_pos (by rw [(kind s hcr).2]; exact hk), re_isNumber_ok hcr ⟨by decide, by decide⟩ ⟨by decide, by decide⟩, ok_bind]
        dsimp only
        rw [if_pos (zb_w.mpr hN), zb_0 (by decide)]
      · obtain ⟨y, y1, y2, y3⟩ := RG.numN (L := L) (s := up s 264 p sg) h hi (hr.x (fun a b hh => fr0 s sg a b (by omega))) ⟨by decide, by decide⟩ ⟨by decide, by decide⟩ hN
        have hw : ∀ k, k ≤ 6 → wc T n (tP T n i) ≠ wq (me_k k).toNat := fun k hk6 z => by
          have hx := (me_kr k hk6).2.2.2.2.2
          obtain ⟨a1, a2, a3, a4, a5, a6⟩ := tP_w h hi z hx
          have := (tK_2.mp hk).2
          rw [isAD a2] at this
          exact absurd this (by decide)
        obtain ⟨u, u1, u2, u3⟩ := (tm_w (L := L) (p := p) h hi y3).2 hw
        obtain ⟨z, z1, z2, z3⟩ := tm_bad (L := L) hin u3
        refine ⟨z, ?_, fun a b' h1 h2 => by rw [z2 a b' (by omega), u2 a b' h1, y2 a b' h1, fr0 _ _ a b' (by omega)], z3, fun z => absurd z (by decide)⟩
        rw [md_termTold_eq, if_pos hin, Int.toNat_natCast, y1, ok_bind]
        dsimp only
        rw [if_pos w32_0', u1, zb_0 (by decide)]
        exact z1
  · have hN : ¬ nOk T n (tP T n i) 1 3 = true := fun z => by
      have er : rn T n isD (tP T n i) = tP T n i := by
        by_cases hq2 : tP T n i < n
        · exact rn_no hq2 (fun z => hk (tK_2.mpr ⟨hq2, z⟩))
        · exact rn_end (by omega)
      have := (of_decide_eq_true z).1
      omega
    obtain ⟨b, i2, k, o, o1, n1, n2, nn, w1, w2, w3, w4⟩ := tm2 (L := L) (c := c) (sg := sg) (x := 1) (p := p) (t := sg) h hi hM hc hp
    rw [Int.mul_one] at w2
    refine ⟨b, i2, (k, sg, o, nn, o1, n1, n2), w1, fun s hcr h0 => ?_, fun s hr hs => ?_, fun hb => ⟨(w4 hb).1, by show sg = 1 ∨ sg = 2 ∨ sg = 3 ∨ sg = -1 ∨ sg = -2 ∨ sg = -3; omega, (w4 hb).2⟩⟩
    · obtain ⟨z, z1, z2, z3, z4⟩ := w2 s hcr h0
      refine ⟨z, ?_, z2, z3, z4⟩
      rw [re_readTerm_eq, if_pos (kind s hcr).1, if_neg (by rw [(kind s hcr).2]; exact hk)]
      exact z1
    · obtain ⟨y, y1, y2, y3⟩ := RG.numN (L := L) (s := up s 264 p sg) h hi (hr.x (fun a b hh => fr0 s sg a b (by omega))) ⟨by decide, by decide⟩ ⟨by decide, by decide⟩ hN
      obtain ⟨z, z1, z2, z3, z4⟩ := w3 y y3 (by show y 264 p = sg; rw [y2 _ _ (by omega), up_s])
      refine ⟨z, ?_, fun a b' h1 h2 => by rw [z2 a b' h1 h2, y2 a b' h1, fr0 _ _ a b' (by omega)], z3, z4⟩
      rw [md_termTold_eq, if_pos hin, Int.toNat_natCast, y1, ok_bind]
      dsimp only
      rw [if_pos w32_0']
      exact z1
end
