/-! texts: conditions, both sides -/
def One (L q : Nat) (T : Nat → Int) (n m d i : Nat) : Prop := ∃ b i2 cs, (i ≤ i2 ∧ i2 ≤ m) ∧ JF L q T n m 0 i (re_readOne L (3 + 2 * (9 - d)) q (d : Int)) (fun y => ok L 1 y) b i2 cs ∧ JG L T n 0 i d d (md_single L (4 + 3 * (9 - d))) (fun y => ok L 1 y) b i2 cs ∧ (b = true → GD1 T n i i2 (1 + 2 * (8 - d)) cs)
def AlT (L q : Nat) (T : Nat → Int) (n m d i l3 l4 : Nat) : Prop := ∃ b i2 cs, (i ≤ i2 ∧ i2 ≤ m) ∧ JF L q T n m 0 i (re_readAny_b3 L (4 + 2 * (9 - d)) q (d : Int) (l3 : Int) (l4 : Int)) (re_readAny_b5 L (4 + 2 * (9 - d)) q (d : Int) (l3 : Int)) b i2 cs ∧ JG L T n 0 i d d (md_all_b1 L (5 + 3 * (9 - d))) (fun y => ok L 1 y) b i2 cs ∧ (b = true → GD0 T n i i2 (2 + 2 * (8 - d)) cs)
def AlL (L q : Nat) (T : Nat → Int) (n m d i l3 : Nat) : Prop := ∃ b i2 cs, (i ≤ i2 ∧ i2 ≤ m) ∧ JF L q T n m 0 i (re_readAny_b1 L (4 + 2 * (9 - d)) q (d : Int) (l3 : Int)) (re_readAny_b5 L (4 + 2 * (9 - d)) q (d : Int) (l3 : Int)) b i2 cs ∧ JG L T n 0 i d d (md_all L (5 + 3 * (9 - d))) (fun y => ok L 1 y) b i2 cs ∧ (b = true → GD1 T n i i2 (2 + 2 * (8 - d)) cs)
def AnT (L q : Nat) (T : Nat → Int) (n m d i l3 : Nat) : Prop := ∃ b i2 cs, (i ≤ i2 ∧ i2 ≤ m) ∧ JF L q T n m 0 i (re_readAny_b6 L (4 + 2 * (9 - d)) q (d : Int) (l3 : Int)) (fun y => ok L 1 y) b i2 cs ∧ JG L T n 0 i d d (md_any_b1 L (6 + 3 * (9 - d))) (fun y => ok L 1 y) b i2 cs ∧ (b = true → GD0 T n i i2 (3 + 2 * (8 - d)) cs)
def Any (L q : Nat) (T : Nat → Int) (n m d i : Nat) : Prop := ∃ b i2 cs, (i ≤ i2 ∧ i2 ≤ m) ∧ JF L q T n m 0 i (re_readAny L (4 + 2 * (9 - d)) q (d : Int)) (fun y => ok L 1 y) b i2 cs ∧ JG L T n 0 i d d (md_any L (6 + 3 * (9 - d))) (fun y => ok L 1 y) b i2 cs ∧ (b = true → GD1 T n i i2 (3 + 2 * (8 - d)) cs)
section
variable {L q : Nat} {T : Nat → Int} {n m v w i i2 i3 d e f D : Nat} {F H K : hh_Sv → Option hh_Rs} {b : Bool} {cs ds : List Cd} {s : hh_Sv}
theorem GD1.tl {x : Cd} {p : Nat} (hx : x.1 = 3 ∨ x.1 = 4) (hk : cd_ok x) (h1 : GD1 T n p i2 e cs) (h2 : GD0 T n i2 i3 f ds) (hi : i < p) (hp : tP T n i + 2 ≤ tP T n p) (he : e + 1 ≤ f) : GD0 T n i i3 f ([] ++ (cs ++ ([x] ++ ds))) := by
  obtain ⟨a1, a2, a3, a4⟩ := h1
  obtain ⟨b1, b2, b3, b4⟩ := h2
  refine ⟨by omega, ?_, fun c hc => ?_, fun k l hkl => ?_⟩
  · rw [List.length_append, List.length_append, List.length_append, List.length_nil, show [x].length = 1 from rfl]
    omega
  · rw [List.nil_append] at hc
    rcases List.mem_append.mp hc with z | z
    · exact a3 c z
    · rcases List.mem_append.mp z with z | z
      · rw [List.mem_singleton.mp z]
        exact hk
      · exact b3 c z
  · rw [List.nil_append, List.append_assoc, a4 (k + 1) _ (by omega)]
    show (if x.1 ≤ 2 then _ else if x.1 = 5 then _ else (if 2 ≤ k + 1 + 1 then cd_d (ds ++ l) (k + 1 + 1 - 1) else none)) = _
    rw [if_neg (by omega), if_neg (by omega), if_pos (by omega), show k + 1 + 1 - 1 = k + 1 by omega]
    exact b4 k l hkl
theorem GD1.ap (h1 : GD1 T n i i2 e cs) (h2 : GD0 T n i2 i3 f ds) (he : e ≤ f) : GD1 T n i i3 f (cs ++ ds) := by
  obtain ⟨a1, a2, a3, a4⟩ := h1
  obtain ⟨b1, b2, b3, b4⟩ := h2
  refine ⟨by omega, ?_, fun c hc => ?_, fun k l hkl => ?_⟩
  · rw [List.length_append]
    omega
  · rcases List.mem_append.mp hc with z | z
    · exact a3 c z
    · exact b3 c z
  · rw [List.append_assoc, a4 k _ (by omega)]
    exact b4 k l hkl
theorem isW {c z : Int} (h : CR s T n m i) (w : Nat) (hw : w < 21) (hc : c = (w : Int)) (hz : wq w = z) : re_isWord L c s = ok L (zb (wc T n (tP T n i) = z)) s := by
  subst hc
  rw [re_isWord_ok h hw, hz]
theorem al_tail (hq : ru_cell q) (h : TK T n m) (hd : d ≤ 8) {l3 p : Nat} (hone : ∀ i, p ≤ i → i ≤ m → One L q T n m d i) : ∀ (N i l4 : Nat), m - i ≤ N → p ≤ i → i ≤ m → 2 * l4 ≤ i + 1 → AlT L q T n m d i l3 l4 := by
  have kq := ru_kd (L := L) hq
  have ev : wq 18 = 6385252 := wq_v.2.2.2.2.2.2.2.2.2.2.2.2.2.2.2.2.2.2.1
  have e9 : ((9 : Int) - (d : Int)).toNat = 9 - d := by omega
  have h6 := h.1
  have hmn := h.2.1
  have body : ∀ (i l4 : Nat), p ≤ i → i ≤ m → 2 * l4 ≤ i + 1 → (i < m → ∀ i', i < i' → i' ≤ m → 2 * (l4 + 1) ≤ i' + 1 → AlT L q T n m d i' l3 (l4 + 1)) → AlT L q T n m d i l3 l4 := by
    intro i l4 hp hi hl ih
    by_cases hw : wc T n (tP T n i) = 6385252
    · obtain ⟨a1, a2, a3, a4, a5, a6⟩ := tP_w h hi hw (by decide)
      obtain ⟨b1, j1, c1, ⟨o1, o2⟩, o3, o4, o5⟩ := hone (i + 1) (by omega) (by omega)
      have eF : ∀ s, CR s T n m i → re_readAny_b3 L (4 + 2 * (9 - d)) q (d : Int) (l3 : Int) (l4 : Int) s = (re_take L s).bind (fun r2 => (re_readOne L (3 + 2 * (9 - d)) q (d : Int) r2.2.2).bind (fun r3 => if w32 r3.1 = 0 then ok L 0 r3.2.2 else (ru_write L q 18 r3.2.2).bind (fun r4 => re_readAny_b3 L (4 + 2 * (9 - d)) q (d : Int) (l3 : Int) ((l4 : Int) + 1) r4.2.2))) := fun s hc => by
        rw [re_readAny_b3_eq, if_pos (by rw [w32_id (by omega) (by omega)]; omega), if_pos (by omega), isW (c := 18) hc 18 (by decide) rfl ev, ok_bind]
        dsimp only
        rw [if_neg (fun z => zb_w.mp z hw), if_pos (by omega)]
        simp only [e9, if_pos kq, if_pos (show 1 < 4 + 2 * (9 - d) by omega), if_pos (show 3 + 2 * (9 - d) < 4 + 2 * (9 - d) by omega)]
      have eG : ∀ s, md_all_b1 L (5 + 3 * (9 - d)) s = (md_takes L 6385252 s).bind (fun r1 => if w32 r1.1 = 0 then ok L 1 r1.2.2 else (if 4 + 3 * (9 - (r1.2.2 242 13)).toNat < 5 + 3 * (9 - d) then md_single L (4 + 3 * (9 - (r1.2.2 242 13)).toNat) r1.2.2 else none).bind (fun r2 => if w32 r2.1 = 0 then ok L 0 r2.2.2 else (md_puts L 4 0 0 r2.2.2).bind (fun r3 => md_all_b1 L (5 + 3 * (9 - d)) r3.2.2))) := fun s => by
        rw [md_all_b1_eq, if_pos (by omega)]
        simp only [if_pos (show 1 < 5 + 3 * (9 - d) by omega)]
      have eG2 : ∀ s : hh_Sv, s 242 13 = (d : Int) → (if 4 + 3 * (9 - (s 242 13)).toNat < 5 + 3 * (9 - d) then md_single L (4 + 3 * (9 - (s 242 13)).toNat) s else none).bind (fun r2 => if w32 r2.1 = 0 then ok L 0 r2.2.2 else (md_puts L 4 0 0 r2.2.2).bind (fun r3 => md_all_b1 L (5 + 3 * (9 - d)) r3.2.2)) = (md_single L (4 + 3 * (9 - d)) s).bind (fun r2 => if w32 r2.1 = 0 then ok L 0 r2.2.2 else (md_puts L 4 0 0 r2.2.2).bind (fun r3 => md_all_b1 L (5 + 3 * (9 - d)) r3.2.2)) := fun s hs => by
        rw [hs, e9, if_pos (by omega)]
      have tF := JF.take (L := L) (q := q) (T := T) (n := n) (m := m) (v := 0) (i := i) (K := fun y => (re_readOne L (3 + 2 * (9 - d)) q (d : Int) y).bind (fun r3 => if w32 r3.1 = 0 then ok L 0 r3.2.2 else (ru_write L q 18 r3.2.2).bind (fun r4 => re_readAny_b3 L (4 + 2 * (9 - d)) q (d : Int) (l3 : Int) ((l4 : Int) + 1) r4.2.2))) hq a3
      have tG := JG.wordY (L := L) (T := T) (n := n) (m := m) (v := 0) (i := i) (d := d) (c := 6385252) (K := fun y => (if 4 + 3 * (9 - (y 242 13)).toNat < 5 + 3 * (9 - d) then md_single L (4 + 3 * (9 - (y 242 13)).toNat) y else none).bind (fun r2 => if w32 r2.1 = 0 then ok L 0 r2.2.2 else (md_puts L 4 0 0 r2.2.2).bind (fun r3 => md_all_b1 L (5 + 3 * (9 - d)) r3.2.2))) (fun y => ok L 1 y) h hi hw (by decide)
      have uF := JF.bind (K := fun y => (ru_write L q 18 y).bind (fun r4 => re_readAny_b3 L (4 + 2 * (9 - d)) q (d : Int) (l3 : Int) ((l4 : Int) + 1) r4.2.2)) (JF.mono (w := 2) (by omega) o3)
      have uG := JG.eq (fun s _ hs => eG2 s hs) (JG.bind (K := fun y => (md_puts L 4 0 0 y).bind (fun r3 => md_all_b1 L (5 + 3 * (9 - d)) r3.2.2)) (JG.mono (w := 2) (by omega) o4))
      cases b1
      · exact ⟨false, j1, [], ⟨by omega, o2⟩, JF.eq eF (JF.cat (ds := []) hq tF (w := 2) (by rw [List.length_nil]; omega) (JF.no uF)), JG.eq (fun s _ _ => eG s) (JG.cat (ds := []) tG (w := 2) (by rw [List.length_nil]; omega) (JG.no uG)), fun z => absurd z (by decide)⟩
      · have g1 := o5 rfl
        obtain ⟨b2, j2, c2, ⟨x1, x2⟩, x3, x4, x5⟩ := ih a3 j1 (by have := g1.1; omega) o2 (by have := g1.1; omega)
        have gl := g1.2.1
        have gt := g1.1
        have hj1 := h.qq o2
        have pF := JF.put (L := L) (q := q) (T := T) (n := n) (m := m) (v := 2) (i := j1) (K := re_readAny_b3 L (4 + 2 * (9 - d)) q (d : Int) (l3 : Int) ((l4 : Int) + 1)) (x := ((4, 0, 0) : Cd)) (c := 18) hq (Nat.le_refl 2) rfl
        have pG := JG.put (L := L) (T := T) (n := n) (v := 2) (i := j1) (d := d) (K := md_all_b1 L (5 + 3 * (9 - d))) (x := ((4, 0, 0) : Cd)) (c1 := 4) (c2 := 0) (c3 := 0) (Nat.le_refl 2) h6 ⟨rfl, rfl, rfl⟩ hj1.1
        refine ⟨b2, j2, [] ++ (c1 ++ ([(4, 0, 0)] ++ c2)), ⟨by omega, x2⟩, JF.eq eF (JF.cat hq tF (w := 2) (by rw [List.length_nil]; omega) (JF.cat hq uF (w := 2) (by omega) (JF.cat hq pF (w := 0) (by rw [List.length_singleton]; omega) x3))), JG.eq (fun s _ _ => eG s) (JG.cat tG (w := 2) (by rw [List.length_nil]; omega) (JG.cat uG (w := 2) (by omega) (JG.cat pG (w := 0) (by rw [List.length_singleton]; omega) x4))), fun hb => GD1.tl (Or.inr rfl) ⟨by decide, by decide, by decide⟩ g1 (x5 hb) (by omega) a6 (by omega)⟩
    · refine ⟨true, i, [], ⟨by omega, hi⟩, JF.eq (fun s hc => ?_) (JF.rf hq), JG.eq (fun s _ _ => ?_) (JG.wordN (c := 6385252) (K := fun y => ok L 1 y) (fun y => (if 4 + 3 * (9 - (y 242 13)).toNat < 5 + 3 * (9 - d) then md_single L (4 + 3 * (9 - (y 242 13)).toNat) y else none).bind (fun r2 => if w32 r2.1 = 0 then ok L 0 r2.2.2 else (md_puts L 4 0 0 r2.2.2).bind (fun r3 => md_all_b1 L (5 + 3 * (9 - d)) r3.2.2))) h hi hw ⟨by decide, by decide⟩), fun _ => ⟨by omega, by rw [List.length_nil]; omega, fun c hc => (by cases hc), fun k l _ => rfl⟩⟩
      · rw [re_readAny_b3_eq, if_pos (by rw [w32_id (by omega) (by omega)]; omega), if_pos (by omega), isW (c := 18) hc 18 (by decide) rfl ev, ok_bind]
        dsimp only
        rw [if_pos (zb_w.mpr hw)]
      · rw [md_all_b1_eq, if_pos (by omega)]
        simp only [if_pos (show 1 < 5 + 3 * (9 - d) by omega)]
  intro N
  induction N with
  | zero => exact fun i l4 h1 h2 h3 h4 => body i l4 h2 h3 h4 (fun z => by omega)
  | succ N ihN => exact fun i l4 h1 h2 h3 h4 => body i l4 h2 h3 h4 (fun _ i' z1 z2 z3 => ihN i' (l4 + 1) (by omega) (by omega) z2 z3)
theorem al_ok (hq : ru_cell q) (h : TK T n m) (hd : d ≤ 8) {l3 p : Nat} (hone : ∀ i, p ≤ i → i ≤ m → One L q T n m d i) (hp : p ≤ i) (hi : i ≤ m) (hl : 2 * l3 ≤ i) : AlL L q T n m d i l3 := by
  have e9 : ((9 : Int) - (d : Int)).toNat = 9 - d := by omega
  have h6 := h.1
  have hmn := h.2.1
  obtain ⟨b1, j1, c1, ⟨o1, o2⟩, o3, o4, o5⟩ := hone i hp hi
  have eF : ∀ s, CR s T n m i → re_readAny_b1 L (4 + 2 * (9 - d)) q (d : Int) (l3 : Int) s = (re_readOne L (3 + 2 * (9 - d)) q (d : Int) s).bind (fun r => if w32 r.1 = 0 then ok L 0 r.2.2 else re_readAny_b3 L (4 + 2 * (9 - d)) q (d : Int) (l3 : Int) ((1 : Nat) : Int) r.2.2) := fun s hc => by
    rw [re_readAny_b1_eq, if_pos (by rw [w32_id (by omega) (by omega)]; omega), e9, if_pos (by omega)]
    rfl
  have eG : ∀ s : hh_Sv, s 242 13 = (d : Int) → md_all L (5 + 3 * (9 - d)) s = (md_single L (4 + 3 * (9 - d)) s).bind (fun r => if w32 r.1 = 0 then ok L 0 r.2.2 else md_all_b1 L (5 + 3 * (9 - d)) r.2.2) := fun s hs => by
    rw [md_all_eq, hs, e9, if_pos (by omega)]
  have uF := JF.bind (K := re_readAny_b3 L (4 + 2 * (9 - d)) q (d : Int) (l3 : Int) ((1 : Nat) : Int)) o3
  have uG := JG.bind (K := md_all_b1 L (5 + 3 * (9 - d))) o4
  cases b1
  · exact ⟨false, j1, [], ⟨o1, o2⟩, JF.eq eF (JF.no uF), JG.eq (fun s _ hs => eG s hs) (JG.no uG), fun z => absurd z (by decide)⟩
  · have g1 := o5 rfl
    have gl := g1.2.1
    have gt := g1.1
    obtain ⟨b2, j2, c2, ⟨x1, x2⟩, x3, x4, x5⟩ := al_tail (l3 := l3) hq h hd hone (m - j1) j1 1 (by omega) (by omega) o2 (by omega)
    exact ⟨b2, j2, c1 ++ c2, ⟨by omega, x2⟩, JF.eq eF (JF.cat hq uF (w := 0) (by omega) x3), JG.eq (fun s _ hs => eG s hs) (JG.cat uG (w := 0) (by omega) x4), fun hb => g1.ap (x5 hb) (by omega)⟩
theorem an_tail (hq : ru_cell q) (h : TK T n m) (hd : d ≤ 8) {p : Nat} (hone : ∀ i, p ≤ i → i ≤ m → One L q T n m d i) : ∀ (N i l3 : Nat), m - i ≤ N → p ≤ i → i ≤ m → 2 * l3 + 1 ≤ i → AnT L q T n m d i l3 := by
  have kq := ru_kd (L := L) hq
  have ev : wq 19 = 28530 := wq_v.2.2.2.2.2.2.2.2.2.2.2.2.2.2.2.2.2.2.2.1
  have e9 : ((9 : Int) - (d : Int)).toNat = 9 - d := by omega
  have h6 := h.1
  have hmn := h.2.1
  have body : ∀ (i l3 : Nat), p ≤ i → i ≤ m → 2 * l3 + 1 ≤ i → (i < m → ∀ i', i < i' → i' ≤ m → 2 * (l3 + 1) + 1 ≤ i' → AnT L q T n m d i' (l3 + 1)) → AnT L q T n m d i l3 := by
    intro i l3 hp hi hl ih
    by_cases hw : wc T n (tP T n i) = 28530
    · obtain ⟨a1, a2, a3, a4, a5, a6⟩ := tP_w h hi hw (by decide)
      obtain ⟨b1, j1, c1, ⟨o1, o2⟩, o3, o4, o5⟩ := al_ok (l3 := l3 + 1) (i := i + 1) hq h hd hone (by omega) (by omega) (by omega)
      have eF : ∀ s, CR s T n m i → re_readAny_b6 L (4 + 2 * (9 - d)) q (d : Int) (l3 : Int) s = (re_take L s).bind (fun r2 => re_readAny_b1 L (4 + 2 * (9 - d)) q (d : Int) ((l3 + 1 : Nat) : Int) r2.2.2) := fun s hc => by
        rw [re_readAny_b6_eq, if_pos (by omega), isW (c := 19) hc 19 (by decide) rfl ev, ok_bind]
        dsimp only
        rw [if_neg (fun z => zb_w.mp z hw), if_pos (by omega)]
        rfl
      have eF5 : ∀ s, re_readAny_b5 L (4 + 2 * (9 - d)) q (d : Int) ((l3 + 1 : Nat) : Int) s = (ru_write L q 19 s).bind (fun r1 => re_readAny_b6 L (4 + 2 * (9 - d)) q (d : Int) ((l3 + 1 : Nat) : Int) r1.2.2) := fun s => by
        rw [re_readAny_b5_eq, if_pos (by rw [w32_id (by omega) (by omega)]; omega), if_pos kq, if_pos (by omega)]
      have eG : ∀ s, md_any_b1 L (6 + 3 * (9 - d)) s = (md_takes L 28530 s).bind (fun r1 => if w32 r1.1 = 0 then ok L 1 r1.2.2 else (if 5 + 3 * (9 - (r1.2.2 242 13)).toNat < 6 + 3 * (9 - d) then md_all L (5 + 3 * (9 - (r1.2.2 242 13)).toNat) r1.2.2 else none).bind (fun r2 => if w32 r2.1 = 0 then ok L 0 r2.2.2 else (md_puts L 3 0 0 r2.2.2).bind (fun r3 => md_any_b1 L (6 + 3 * (9 - d)) r3.2.2))) := fun s => by
        rw [md_any_b1_eq, if_pos (by omega)]
        simp only [if_pos (show 1 < 6 + 3 * (9 - d) by omega)]
      have eG2 : ∀ s : hh_Sv, s 242 13 = (d : Int) → (if 5 + 3 * (9 - (s 242 13)).toNat < 6 + 3 * (9 - d) then md_all L (5 + 3 * (9 - (s 242 13)).toNat) s else none).bind (fun r2 => if w32 r2.1 = 0 then ok L 0 r2.2.2 else (md_puts L 3 0 0 r2.2.2).bind (fun r3 => md_any_b1 L (6 + 3 * (9 - d)) r3.2.2)) = (md_all L (5 + 3 * (9 - d)) s).bind (fun r2 => if w32 r2.1 = 0 then ok L 0 r2.2.2 else (md_puts L 3 0 0 r2.2.2).bind (fun r3 => md_any_b1 L (6 + 3 * (9 - d)) r3.2.2)) := fun s hs => by
        rw [hs, e9, if_pos (by omega)]
      have tF := JF.take (L := L) (q := q) (T := T) (n := n) (m := m) (v := 0) (i := i) (K := re_readAny_b1 L (4 + 2 * (9 - d)) q (d : Int) ((l3 + 1 : Nat) : Int)) hq a3
      have tG := JG.wordY (L := L) (T := T) (n := n) (m := m) (v := 0) (i := i) (d := d) (c := 28530) (K := fun y => (if 5 + 3 * (9 - (y 242 13)).toNat < 6 + 3 * (9 - d) then md_all L (5 + 3 * (9 - (y 242 13)).toNat) y else none).bind (fun r2 => if w32 r2.1 = 0 then ok L 0 r2.2.2 else (md_puts L 3 0 0 r2.2.2).bind (fun r3 => md_any_b1 L (6 + 3 * (9 - d)) r3.2.2))) (fun y => ok L 1 y) h hi hw (by decide)
      have uF := JF.mono (w := 2) (by omega) o3
      have uG := JG.eq (fun s _ hs => eG2 s hs) (JG.bind (K := fun y => (md_puts L 3 0 0 y).bind (fun r3 => md_any_b1 L (6 + 3 * (9 - d)) r3.2.2)) (JG.mono (w := 2) (by omega) o4))
      cases b1
      · exact ⟨false, j1, [], ⟨by omega, o2⟩, JF.eq eF (JF.cat (ds := []) hq tF (w := 2) (by rw [List.length_nil]; omega) (JF.no uF)), JG.eq (fun s _ _ => eG s) (JG.cat (ds := []) tG (w := 2) (by rw [List.length_nil]; omega) (JG.no uG)), fun z => absurd z (by decide)⟩
      · have g1 := o5 rfl
        obtain ⟨b2, j2, c2, ⟨x1, x2⟩, x3, x4, x5⟩ := ih a3 j1 (by have := g1.1; omega) o2 (by have := g1.1; omega)
        have gl := g1.2.1
        have gt := g1.1
        have hj1 := h.qq o2
        have pF := JF.eq (fun s _ => eF5 s) (JF.put (L := L) (q := q) (T := T) (n := n) (m := m) (v := 2) (i := j1) (K := re_readAny_b6 L (4 + 2 * (9 - d)) q (d : Int) ((l3 + 1 : Nat) : Int)) (x := ((3, 0, 0) : Cd)) (c := 19) hq (Nat.le_refl 2) rfl)
        have pG := JG.put (L := L) (T := T) (n := n) (v := 2) (i := j1) (d := d) (K := md_any_b1 L (6 + 3 * (9 - d))) (x := ((3, 0, 0) : Cd)) (c1 := 3) (c2 := 0) (c3 := 0) (Nat.le_refl 2) h6 ⟨rfl, rfl, rfl⟩ hj1.1
        refine ⟨b2, j2, [] ++ (c1 ++ ([(3, 0, 0)] ++ c2)), ⟨by omega, x2⟩, JF.eq eF (JF.cat hq tF (w := 2) (by rw [List.length_nil]; omega) (JF.cat hq uF (w := 2) (by omega) (JF.cat hq pF (w := 0) (by rw [List.length_singleton]; omega) x3))), JG.eq (fun s _ _ => eG s) (JG.cat tG (w := 2) (by rw [List.length_nil]; omega) (JG.cat uG (w := 2) (by omega) (JG.cat pG (w := 0) (by rw [List.length_singleton]; omega) x4))), fun hb => GD1.tl (Or.inl rfl) ⟨by decide, by decide, by decide⟩ g1 (x5 hb) (by omega) a6 (by omega)⟩
    · refine ⟨true, i, [], ⟨by omega, hi⟩, JF.eq (fun s hc => ?_) (JF.rf hq), JG.eq (fun s _ _ => ?_) (JG.wordN (c := 28530) (K := fun y => ok L 1 y) (fun y => (if 5 + 3 * (9 - (y 242 13)).toNat < 6 + 3 * (9 - d) then md_all L (5 + 3 * (9 - (y 242 13)).toNat) y else none).bind (fun r2 => if w32 r2.1 = 0 then ok L 0 r2.2.2 else (md_puts L 3 0 0 r2.2.2).bind (fun r3 => md_any_b1 L (6 + 3 * (9 - d)) r3.2.2))) h hi hw ⟨by decide, by decide⟩), fun _ => ⟨by omega, by rw [List.length_nil]; omega, fun c hc => (by cases hc), fun k l _ => rfl⟩⟩
      · rw [re_readAny_b6_eq, if_pos (by omega), isW (c := 19) hc 19 (by decide) rfl ev, ok_bind]
        dsimp only
        rw [if_pos (zb_w.mpr hw)]
      · rw [md_any_b1_eq, if_pos (by omega)]
        simp only [if_pos (show 1 < 6 + 3 * (9 - d) by omega)]
  intro N
  induction N with
  | zero => exact fun i l3 h1 h2 h3 h4 => body i l3 h2 h3 h4 (fun z => by omega)
  | succ N ihN => exact fun i l3 h1 h2 h3 h4 => body i l3 h2 h3 h4 (fun _ i' z1 z2 z3 => ihN i' (l3 + 1) (by omega) (by omega) z2 z3)
theorem an_ok (hq : ru_cell q) (h : TK T n m) (hd : d ≤ 8) {p : Nat} (hone : ∀ i, p ≤ i → i ≤ m → One L q T n m d i) (hp : p ≤ i) (hi : i ≤ m) : Any L q T n m d i := by
  have e9 : ((9 : Int) - (d : Int)).toNat = 9 - d := by omega
  obtain ⟨b1, j1, c1, ⟨o1, o2⟩, o3, o4, o5⟩ := al_ok (l3 := 0) (i := i) hq h hd hone hp hi (by omega)
  have eF : ∀ s, re_readAny L (4 + 2 * (9 - d)) q (d : Int) s = re_readAny_b1 L (4 + 2 * (9 - d)) q (d : Int) ((0 : Nat) : Int) s := fun s => re_readAny_eq L _ q _ s
  have eF5 : ∀ s, re_readAny_b5 L (4 + 2 * (9 - d)) q (d : Int) ((0 : Nat) : Int) s = re_readAny_b6 L (4 + 2 * (9 - d)) q (d : Int) ((0 : Nat) : Int) s := fun s => by
    rw [re_readAny_b5_eq, if_neg (by first | decide | exact wN1 | (rw [w32_id (by decide) (by decide)]; decide))]
  have eG : ∀ s : hh_Sv, s 242 13 = (d : Int) → md_any L (6 + 3 * (9 - d)) s = (md_all L (5 + 3 * (9 - d)) s).bind (fun r => if w32 r.1 = 0 then ok L 0 r.2.2 else md_any_b1 L (6 + 3 * (9 - d)) r.2.2) := fun s hs => by
    rw [md_any_eq, hs, e9, if_pos (by omega)]
  have uG := JG.bind (K := md_any_b1 L (6 + 3 * (9 - d))) o4
  cases b1
  · exact ⟨false, j1, [], ⟨o1, o2⟩, JF.eq (fun s _ => eF s) (JF.no o3), JG.eq (fun s _ hs => eG s hs) (JG.no uG), fun z => absurd z (by decide)⟩
  · have g1 := o5 rfl
    have gl := g1.2.1
    have gt := g1.1
    obtain ⟨b2, j2, c2, ⟨x1, x2⟩, x3, x4, x5⟩ := an_tail hq h hd hone (m - j1) j1 0 (by omega) (by omega) o2 (by omega)
    exact ⟨b2, j2, c1 ++ c2, ⟨by omega, x2⟩, JF.eq (fun s _ => eF s) (JF.cat hq o3 (w := 0) (by omega) (JF.eq (fun s _ => eF5 s) x3)), JG.eq (fun s _ hs => eG s hs) (JG.cat uG (w := 0) (by omega) x4), fun hb => g1.ap (x5 hb) (by omega)⟩
end
