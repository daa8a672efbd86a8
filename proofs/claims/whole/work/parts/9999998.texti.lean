/-! texts: one rule kept, both sides -/
def FR (q : Nat) (s y : hh_Sv) : Prop := ∀ a b, ¬ (a = 24 ∧ b = 5) → ¬ (q ≤ a ∧ a ≤ q + 4) → y a b = s a b
def FQ (s y : hh_Sv) : Prop := ∀ a b, ¬ (a = 242 ∧ (b = 12 ∨ b = 13 ∨ b = 14 ∨ b = 15 ∨ b = 17 ∨ b = 32 ∨ b = 33)) → ¬ (248 ≤ a ∧ a ≤ 251 ∧ b = 16) → ¬ (252 ≤ a ∧ a ≤ 255 ∧ 384 ≤ b) → ¬ (256 ≤ a ∧ a ≤ 258 ∧ 4800 ≤ b) → y a b = s a b
/-- the class has read rules rs -/
def CRs (s : hh_Sv) (q : Nat) (T : Nat → Int) (n m i : Nat) (rs : List Ru) : Prop := CR s T n m i ∧ ru_C s q rs ∧ s q 1 = (ru_l 6 rs : Nat) ∧ s q 2 = (ru_l 7 rs : Nat) ∧ s q 3 = (ru_at rs rs.length : Nat)
/-- the reference has -/
def RGt (s : hh_Sv) (T : Nat → Int) (n i : Nat) (rs : List Ru) (k : Nat) : Prop := RG s T n i ∧ ru_M s 16 (ru_f rs) ∧ s 242 14 = ((4800 + ru_at rs rs.length : Nat) : Int) ∧ s 242 15 = (k : Int) ∧ s 250 16 = (ru_l 6 rs : Nat) ∧ s 251 16 = (ru_l 7 rs : Nat)
/-- a told rule -/
def TD (s y : hh_Sv) (k x : Int) (j c : Nat) (cs : List Cd) : Prop := WG j cs y ∧ y 248 16 = ((c + 1 : Nat) : Int) ∧ (y 252 (384 + c) = k ∧ y 253 (384 + c) = x ∧ y 254 (384 + c) = ((4800 + j : Nat) : Int) ∧ y 255 (384 + c) = ((4800 + (j + cs.length) : Nat) : Int)) ∧ (∀ a b, 252 ≤ a → a ≤ 255 → b < 384 + c → y a b = s a b) ∧ (∀ a b, 256 ≤ a → a ≤ 258 → b < 4800 + j → y a b = s a b) ∧ y 242 15 = s 242 15 ∧ y 250 16 = s 250 16 ∧ y 251 16 = s 251 16
section
variable {L q : Nat} {T : Nat → Int} {n m v w i i2 i3 d e f D : Nat} {F H K : hh_Sv → Option hh_Rs} {b : Bool} {cs ds : List Cd} {s y z : hh_Sv} {rs fs : List Ru} {r : Ru}
theorem FR.tr (h1 : FR q s y) (h2 : FR q y z) : FR q s z := fun a b x1 x2 => (h2 a b x1 x2).trans (h1 a b x1 x2)
theorem FQ.tr (h1 : FQ s y) (h2 : FQ y z) : FQ s z := fun a b x1 x2 x3 x4 => (h2 a b x1 x2 x3 x4).trans (h1 a b x1 x2 x3 x4)
theorem FQ.rf : FQ s s := fun _ _ _ _ _ _ => rfl
theorem FGm.fq {j : Nat} (h : FGm j s y) : FQ s y := fun a b x1 _ _ x4 => h a b (by omega) (by omega)
theorem FC.fr {j : Nat} (h : FC q j s y) : FR q s y := fun a b x1 x2 => h a b x1 (by omega) (by omega)
theorem FQ.wr {k j : Nat} {x : Int} (h : FQ s y) (hk : (k = 242 ∧ (j = 12 ∨ j = 13 ∨ j = 14 ∨ j = 15 ∨ j = 17 ∨ j = 32 ∨ j = 33)) ∨ (248 ≤ k ∧ k ≤ 251 ∧ j = 16) ∨ (252 ≤ k ∧ k ≤ 255 ∧ 384 ≤ j) ∨ (256 ≤ k ∧ k ≤ 258 ∧ 4800 ≤ j)) : FQ s (up y k j x) := fun a b x1 x2 x3 x4 => by
  rw [← h a b x1 x2 x3 x4]
  unfold up
  rw [if_neg (by omega)]
theorem ru_add_ok {c j : Nat} {k x : Int} (hq : ru_cell q) (hk : 0 ≤ k ∧ k < 21) (h0 : s q 0 = (c : Int)) (hc : c < 24) (h3 : s q 3 = (j : Int)) : ∃ y, ru_add L q k x s = ok L 0 y ∧ y q 0 = ((c + 1 : Nat) : Int) ∧ (y (q + 1) c = k ∧ y (q + 2) c = x ∧ y (q + 3) c = (j : Int)) ∧ y q 1 = (if k = 1 then x else s q 1) ∧ y q 2 = (if k = 2 then x else s q 2) ∧ ∀ a b, ¬ (a = q ∧ b ≤ 2) → ¬ (q + 1 ≤ a ∧ a ≤ q + 3 ∧ b = c) → y a b = s a b := by
  obtain ⟨⟨p4, p5, p6, p7⟩, ⟨k1, k2, k3, k4⟩, ⟨l1, l2, l3, l4⟩⟩ := ru_sh (L := L) hq
  have kq := ru_kd (L := L) hq
  have g := hq.ge
  have q0 : ∀ (a b : Int), up (up s (q + 1) c a) (q + 2) c b q 0 = (c : Int) := fun a b => by rw [up_k (by omega), up_k (by omega)]; exact h0
  have q3 : ∀ (a b : Int), up (up s (q + 1) c a) (q + 2) c b q 3 = (j : Int) := fun a b => by rw [up_k (by omega), up_k (by omega)]; exact h3
  have q1 : ∀ (a : Int), up s (q + 1) c a q 0 = (c : Int) := fun a => by rw [up_k (by omega)]; exact h0
  have r0 : ∀ (a b d : Int), up (up (up s (q + 1) c a) (q + 2) c b) (q + 3) c d q 0 = (c : Int) := fun a b d => by rw [up_k (by omega), up_k (by omega), up_k (by omega)]; exact h0
  have hin : (0 : Int) ≤ (c : Int) ∧ (c : Int) < ((24 : Nat) : Int) := by omega
  have main : ru_add L q k x s = if k = 1 then ru_add_b2 L q k x (up (up (up (up (up s (q + 1) c k) (q + 2) c x) (q + 3) c (j : Int)) q 0 ((c : Int) + 1)) q 1 x) else ru_add_b2 L q k x (up (up (up (up s (q + 1) c k) (q + 2) c x) (q + 3) c (j : Int)) q 0 ((c : Int) + 1)) := by
    rw [ru_add_eq, if_pos kq, h0, if_pos (by rw [w32_id (by omega) (by omega)]; omega), if_pos kq, if_pos kq, p4, if_pos k1, if_pos (by omega), l1, if_pos hin, if_pos kq, if_pos kq, p5, if_pos k2, if_pos (by omega), l2, Int.toNat_natCast, q1, if_pos hin, if_pos kq, if_pos kq, if_pos kq, p6, if_pos k3, if_pos (by omega), l3, Int.toNat_natCast, q0, if_pos hin, if_pos kq, if_pos kq, if_pos (by omega), Int.toNat_natCast, q3, r0]
    by_cases e : k = 1
    · rw [if_pos (by rw [w32_id (by omega) (by omega)]; exact e), if_pos kq, if_pos (by omega), if_pos e]
    · rw [if_neg (by rw [w32_id (by omega) (by omega)]; exact e), if_neg e]
  rw [main]
  by_cases e1 : k = 1
  · rw [if_pos e1, ru_add_b2_eq, if_neg (by rw [w32_id (by omega) (by omega)]; omega), if_pos e1, if_neg (by omega)]
    refine ⟨_, rfl, ?_, ⟨?_, ?_, ?_⟩, up_s, ?_, fun a b h1 h2 => ?_⟩
    · rw [up_j (by decide), up_s]; rfl
    · rw [up_k (by omega), up_k (by omega), up_k (by omega), up_k (by omega), up_s]
    · rw [up_k (by omega), up_k (by omega), up_k (by omega), up_s]
    · rw [up_k (by omega), up_k (by omega), up_s]
    · rw [up_j (by decide), up_j (by decide), up_k (by omega), up_k (by omega), up_k (by omega)]
    · unfold up
      rw [if_neg (by omega), if_neg (by omega), if_neg (by omega), if_neg (by omega), if_neg (by omega)]
  · rw [if_neg e1, ru_add_b2_eq, if_neg e1]
    by_cases e2 : k = 2
    · rw [if_pos (by rw [w32_id (by omega) (by omega)]; exact e2), if_pos kq, if_pos (by omega), if_pos e2]
      refine ⟨_, rfl, ?_, ⟨?_, ?_, ?_⟩, ?_, up_s, fun a b h1 h2 => ?_⟩
      · rw [up_j (by decide), up_s]; rfl
      · rw [up_k (by omega), up_k (by omega), up_k (by omega), up_k (by omega), up_s]
      · rw [up_k (by omega), up_k (by omega), up_k (by omega), up_s]
      · rw [up_k (by omega), up_k (by omega), up_s]
      · rw [up_j (by decide), up_j (by decide), up_k (by omega), up_k (by omega), up_k (by omega)]
      · unfold up
        rw [if_neg (by omega), if_neg (by omega), if_neg (by omega), if_neg (by omega), if_neg (by omega)]
    · rw [if_neg (by rw [w32_id (by omega) (by omega)]; exact e2), if_neg e2]
      refine ⟨_, rfl, ?_, ⟨?_, ?_, ?_⟩, ?_, ?_, fun a b h1 h2 => ?_⟩
      · rw [up_s]; rfl
      · rw [up_k (by omega), up_k (by omega), up_k (by omega), up_s]
      · rw [up_k (by omega), up_k (by omega), up_s]
      · rw [up_k (by omega), up_s]
      · rw [up_j (by decide), up_k (by omega), up_k (by omega), up_k (by omega)]
      · rw [up_j (by decide), up_k (by omega), up_k (by omega), up_k (by omega)]
      · unfold up
        rw [if_neg (by omega), if_neg (by omega), if_neg (by omega), if_neg (by omega)]
/-- the class's rule, kept -/
theorem cls_rule {kk x : Nat} (hq : ru_cell q) (hk : kk ≤ 7) (h24 : rs.length < 24) (hj : 2 * ru_at rs rs.length ≤ tP T n i) (h : JF L q T n m 0 i F (fun y => (ru_add L q (ru_k kk) (x : Int) y).bind (fun r => ok L 1 r.2.2)) b i2 cs) (hs : CRs s q T n m i rs) : ∃ y, F s = ok L (zb (b = true)) y ∧ FR q s y ∧ CR y T n m i2 ∧ (b = true → CRs y q T n m i2 (rs ++ [(kk, x, cs)])) := by
  have g := hq.ge
  obtain ⟨c1, c2, c3, c4, c5⟩ := hs
  obtain ⟨y, y1, y2, y3, y4⟩ := h s (ru_at rs rs.length) c1 c5 (by omega)
  cases b
  · rw [if_neg (by first | decide | exact wN1 | (rw [w32_id (by decide) (by decide)]; decide))] at y1
    exact ⟨y, by rw [zb_0 (by decide)]; exact y1, y2.fr, y3, fun z => absurd z (by decide)⟩
  · rw [if_pos rfl] at y1
    obtain ⟨w1, w2⟩ := y4 rfl
    have hkr : 0 ≤ ru_k kk ∧ ru_k kk < 21 := (show ∀ kk : Nat, kk < 8 → 0 ≤ ru_k kk ∧ ru_k kk < 21 by decide +kernel) kk (by omega)
    have hk1 : ru_k kk = 1 ↔ kk = 6 := (show ∀ kk : Nat, kk < 8 → (ru_k kk = 1 ↔ kk = 6) by decide +kernel) kk (by omega)
    have hk2 : ru_k kk = 2 ↔ kk = 7 := (show ∀ kk : Nat, kk < 8 → (ru_k kk = 2 ↔ kk = 7) by decide +kernel) kk (by omega)
    have y0 : y q 0 = (rs.length : Int) := by rw [y2 _ _ (by omega) (by omega) (by omega)]; exact c2.1
    obtain ⟨z, z1, z2, ⟨z3, z4, z5⟩, z6, z7, z8⟩ := ru_add_ok (L := L) (k := ru_k kk) (x := (x : Int)) hq hkr y0 h24 w1
    refine ⟨z, ?_, y2.fr.tr (fun a b x1 x2 => z8 a b (by omega) (by omega)), y3.fr (fun a b hh => z8 a b (by omega) (by omega)), fun _ => ⟨y3.fr (fun a b hh => z8 a b (by omega) (by omega)), ?_, ?_, ?_, ?_⟩⟩
    · rw [y1]
      show Option.bind _ _ = _
      rw [z1, ok_bind, zb_1 rfl]
    · refine ru_C_ap (r := (kk, x, cs)) c2 z2 (fun a b x1 x2 x3 => ?_) (fun b hb => ?_) z3 z4 z5 (fun j c hc => ?_)
      · rw [z8 _ _ (by omega) (by omega), y2 _ _ (by omega) (by omega) (by omega)]
      · rw [z8 _ _ (by omega) (by omega), y2 _ _ (by omega) (by omega) (by omega)]
      · rw [z8 _ _ (by omega) (by omega)]
        exact w2 j c hc
    · rw [z6, ru_l_ap 6 rs, y2 _ _ (by omega) (by omega) (by omega), c3]
      by_cases e : kk = 6
      · rw [if_pos (hk1.mpr e), if_pos e]
      · rw [if_neg (fun u => e (hk1.mp u)), if_neg e]
    · rw [z7, ru_l_ap 7 rs, y2 _ _ (by omega) (by omega) (by omega), c4]
      by_cases e : kk = 7
      · rw [if_pos (hk2.mpr e), if_pos e]
      · rw [if_neg (fun u => e (hk2.mp u)), if_neg e]
    · rw [z8 _ _ (by omega) (by omega), w1, ru_at_al]
/-- the reference's rule, told -/
theorem told_b2 {j c : Nat} (hc : c < 24) (hG : ∀ K : hh_Sv → Option hh_Rs, JG L T n 0 i 0 0 (fun s => (md_takes L 26982 s).bind (fun r1 => if w32 r1.1 = 0 then K r1.2.2 else (if 6 + 3 * (9 - (r1.2.2 242 13)).toNat < 34 then md_any L (6 + 3 * (9 - (r1.2.2 242 13)).toNat) r1.2.2 else none).bind (fun r2 => if w32 r2.1 = 0 then ok L 0 r2.2.2 else K r2.2.2))) K b i2 cs) (hr : RG s T n i) (hd : s 242 13 = 0) (hs : s 242 14 = ((4800 + j : Nat) : Int)) (hj : 2 * j ≤ tP T n i) (h8 : s 248 16 = (c : Int)) : ∃ y, md_ruleTold_b2 L ((384 + c : Nat) : Int) s = ok L (zb (b = true)) y ∧ RG y T n i2 ∧ FQ s y ∧ (b = true → TD s y (s 252 (384 + c)) (s 253 (384 + c)) j c cs) := by
  have hin : (0 : Int) ≤ ((384 + c : Nat) : Int) ∧ ((384 + c : Nat) : Int) < 408 := by omega
  have fr : ∀ a b, ¬ (a = 254 ∧ b = 384 + c) → up s 254 (384 + c) (s 242 14) a b = s a b := fun a b hh => by unfold up; rw [if_neg hh]
  obtain ⟨y, y1, y2, y3, y4⟩ := hG (md_ruleTold_b3 L ((384 + c : Nat) : Int)) (up s 254 (384 + c) (s 242 14)) j (hr.x (fun a b hh => fr a b (by omega))) (by rw [fr _ _ (by omega)]; exact hd) (by rw [fr _ _ (by omega)]; exact hs) (by omega)
  have e0 : md_ruleTold_b2 L ((384 + c : Nat) : Int) s = (if b = true then md_ruleTold_b3 L ((384 + c : Nat) : Int) y else ok L 0 y) := by
    rw [md_ruleTold_b2_eq, if_pos hin, Int.toNat_natCast]
    exact y1
  have f1 : FQ s (up s 254 (384 + c) (s 242 14)) := FQ.rf.wr (by omega)
  cases b
  · rw [if_neg (by first | decide | exact wN1 | (rw [w32_id (by decide) (by decide)]; decide))] at e0
    exact ⟨y, by rw [zb_0 (by decide)]; exact e0, y3, f1.tr y2.fq, fun z => absurd z (by decide)⟩
  · rw [if_pos rfl, md_ruleTold_b3_eq, if_pos hin, if_pos (by first | decide | exact w32_0' | exact wM1 | (rw [w32_id (by decide) (by decide)]; decide)), if_pos (by first | decide | exact w32_0' | exact wM1 | (rw [w32_id (by decide) (by decide)]; decide)), Int.toNat_natCast] at e0
    obtain ⟨w0, w1, w2⟩ := y4 rfl
    have fz : ∀ a b, ¬ (a = 255 ∧ b = 384 + c) → ¬ (a = 248 ∧ b = 16) → up (up y 255 (384 + c) (y 242 14)) 248 16 ((y 248 16) + 1) a b = y a b := fun a b h1 h2 => by unfold up; rw [if_neg h2, if_neg h1]
    have ff : ∀ a b, ¬ (a = 255 ∧ b = 384 + c) → ¬ (a = 248 ∧ b = 16) → ¬ (a = 254 ∧ b = 384 + c) → ¬ (a = 242 ∧ (b = 12 ∨ b = 13 ∨ b = 14 ∨ b = 32 ∨ b = 33)) → ¬ (256 ≤ a ∧ a ≤ 258 ∧ 4800 + j ≤ b) → up (up y 255 (384 + c) (y 242 14)) 248 16 ((y 248 16) + 1) a b = s a b := fun a b h1 h2 h3 h4 h5 => by rw [fz a b h1 h2, y2 a b h4 h5, fr a b h3]
    refine ⟨up (up y 255 (384 + c) (y 242 14)) 248 16 ((y 248 16) + 1), by rw [zb_1 rfl]; exact e0, y3.x (fun a b hh => fz a b (by omega) (by omega)), (f1.tr y2.fq).tr ((FQ.rf.wr (by omega)).wr (by omega)), fun _ => ⟨⟨?_, fun k x hk => ?_⟩, ?_, ⟨?_, ?_, ?_, ?_⟩, fun a b h1 h2 h3 => ?_, fun a b h1 h2 h3 => ?_, ?_, ?_, ?_⟩⟩
    · rw [fz _ _ (by omega) (by omega)]; exact w1
    · rw [fz _ _ (by omega) (by omega), fz _ _ (by omega) (by omega), fz _ _ (by omega) (by omega)]; exact w2 k x hk
    · rw [up_s, y2 _ _ (by omega) (by omega), fr _ _ (by omega), h8]; rfl
    · exact ff _ _ (by omega) (by omega) (by omega) (by omega) (by omega)
    · exact ff _ _ (by omega) (by omega) (by omega) (by omega) (by omega)
    · rw [fz _ _ (by omega) (by omega), y2 _ _ (by omega) (by omega), up_s]; exact hs
    · rw [up_k (by decide), up_s]; exact w1
    · exact ff _ _ (by omega) (by omega) (by omega) (by omega) (by omega)
    · exact ff _ _ (by omega) (by omega) (by omega) (by omega) (by omega)
    · exact ff _ _ (by omega) (by omega) (by omega) (by omega) (by omega)
    · exact ff _ _ (by omega) (by omega) (by omega) (by omega) (by omega)
    · exact ff _ _ (by omega) (by omega) (by omega) (by omega) (by omega)
theorem TD.fr {u : hh_Sv} {k x : Int} {j c : Nat} (h : TD u y k x j c cs) (hs : ∀ a b, (252 ≤ a ∧ a ≤ 255 ∧ b < 384 + c) ∨ (256 ≤ a ∧ a ≤ 258 ∧ b < 4800 + j) ∨ (a = 242 ∧ b = 15) ∨ ((a = 250 ∨ a = 251) ∧ b = 16) → u a b = s a b) : TD s y k x j c cs := by
  obtain ⟨h1, h2, h3, h4, h5, h6, h7, h8⟩ := h
  exact ⟨h1, h2, h3, fun a b x1 x2 x3 => (h4 a b x1 x2 x3).trans (hs a b (by omega)), fun a b x1 x2 x3 => (h5 a b x1 x2 x3).trans (hs a b (by omega)), h6.trans (hs _ _ (by omega)), h7.trans (hs _ _ (by omega)), h8.trans (hs _ _ (by omega))⟩
theorem told_N {j c : Nat} {k : Int} (hc : c < 24) (hG : ∀ K : hh_Sv → Option hh_Rs, JG L T n 0 i 0 0 (fun s => (md_takes L 26982 s).bind (fun r1 => if w32 r1.1 = 0 then K r1.2.2 else (if 6 + 3 * (9 - (r1.2.2 242 13)).toNat < 34 then md_any L (6 + 3 * (9 - (r1.2.2 242 13)).toNat) r1.2.2 else none).bind (fun r2 => if w32 r2.1 = 0 then ok L 0 r2.2.2 else K r2.2.2))) K b i2 cs) (hr : RG s T n i) (hd : s 242 13 = 0) (hs : s 242 14 = ((4800 + j : Nat) : Int)) (hj : 2 * j ≤ tP T n i) (h8 : s 248 16 = (c : Int)) : ∃ y, md_ruleTold L k (-1) s = ok L (zb (b = true)) y ∧ RG y T n i2 ∧ FQ s y ∧ (b = true → TD s y k 0 j c cs) := by
  have e8 : 384 + s 248 16 = ((384 + c : Nat) : Int) := by rw [h8]; omega
  have hin : (0 : Int) ≤ ((384 + c : Nat) : Int) ∧ ((384 + c : Nat) : Int) < 408 := by omega
  have fr : ∀ a b, ¬ ((a = 252 ∨ a = 253) ∧ b = 384 + c) → up (up s 252 (384 + c) k) 253 (384 + c) 0 a b = s a b := fun a b hh => by unfold up; rw [if_neg (by omega), if_neg (by omega)]
  obtain ⟨y, y1, y2, y3, y4⟩ := told_b2 (L := L) (s := up (up s 252 (384 + c) k) 253 (384 + c) 0) hc hG (hr.x (fun a b hh => fr a b (by omega))) (by rw [fr _ _ (by omega)]; exact hd) (by rw [fr _ _ (by omega)]; exact hs) hj (by rw [fr _ _ (by omega)]; exact h8)
  refine ⟨y, ?_, y2, (((FQ.rf (s := s)).wr (by omega)).wr (by omega) : FQ s (up (up s 252 (384 + c) k) 253 (384 + c) 0)).tr y3, fun hb => ?_⟩
  · rw [md_ruleTold_eq, if_pos (by first | decide | exact w32_0' | exact wM1 | (rw [w32_id (by decide) (by decide)]; decide)), e8, if_pos hin, if_pos hin, if_pos (by first | decide | exact w32_0' | exact wM1 | (rw [w32_id (by decide) (by decide)]; decide)), Int.toNat_natCast]
    exact y1
  · have t := y4 hb
    rw [up_s, up_k (by decide), up_s] at t
    exact t.fr (fun a b hh => fr a b (by omega))
theorem told_Y {j c : Nat} {k most : Int} (h : TK T n m) (hi : i ≤ m) (hc : c < 24) (hmo : 0 ≤ most ∧ most < 1000) (hn : nOk T n (tP T n i) 0 most = true) (hG : ∀ K : hh_Sv → Option hh_Rs, JG L T n 0 (i + 1) 0 0 (fun s => (md_takes L 26982 s).bind (fun r1 => if w32 r1.1 = 0 then K r1.2.2 else (if 6 + 3 * (9 - (r1.2.2 242 13)).toNat < 34 then md_any L (6 + 3 * (9 - (r1.2.2 242 13)).toNat) r1.2.2 else none).bind (fun r2 => if w32 r2.1 = 0 then ok L 0 r2.2.2 else K r2.2.2))) K b i2 cs) (hr : RG s T n i) (hd : s 242 13 = 0) (hs : s 242 14 = ((4800 + j : Nat) : Int)) (hj : 2 * j ≤ tP T n i) (h8 : s 248 16 = (c : Int)) : ∃ y, md_ruleTold L k most s = ok L (zb (b = true)) y ∧ RG y T n i2 ∧ FQ s y ∧ (b = true → TD s y k (tC T n (tP T n i)) j c cs) := by
  have e8 : 384 + s 248 16 = ((384 + c : Nat) : Int) := by rw [h8]; omega
  have hin : (0 : Int) ≤ ((384 + c : Nat) : Int) ∧ ((384 + c : Nat) : Int) < 408 := by omega
  obtain ⟨a1, a2, a3, a4, a5⟩ := tP_n h hi hn
  have fr : ∀ a b, ¬ ((a = 252 ∨ a = 253) ∧ b = 384 + c) → up (up s 252 (384 + c) k) 253 (384 + c) 0 a b = s a b := fun a b hh => by unfold up; rw [if_neg (by omega), if_neg (by omega)]
  obtain ⟨u, u1, u2, u3, u4⟩ := JG.numY (L := L) (v := 0) (d := 0) (fun y => ok L 0 y) (fun x y => md_ruleTold_b2 L ((384 + c : Nat) : Int) (up y 253 (384 + c) x)) h hi ⟨by decide, by decide⟩ ⟨by omega, by omega⟩ hn (up (up s 252 (384 + c) k) 253 (384 + c) 0) j (hr.x (fun a b hh => fr a b (by omega))) (by rw [fr _ _ (by omega)]; exact hd) (by rw [fr _ _ (by omega)]; exact hs) (by omega)
  rw [if_pos rfl] at u1
  obtain ⟨v0, v1, v2⟩ := u4 rfl
  have fu : ∀ a b, ¬ (a = 253 ∧ b = 384 + c) → up u 253 (384 + c) (tC T n (tP T n i)) a b = u a b := fun a b hh => by unfold up; rw [if_neg hh]
  have f1 : FQ s (up (up s 252 (384 + c) k) 253 (384 + c) 0) := ((FQ.rf (s := s)).wr (by omega)).wr (by omega)
  have f2 : FQ u (up u 253 (384 + c) (tC T n (tP T n i))) := (FQ.rf (s := u)).wr (by omega)
  have ju : u 242 14 = ((4800 + j : Nat) : Int) := v1
  obtain ⟨y, y1, y2, y3, y4⟩ := told_b2 (L := L) (s := up u 253 (384 + c) (tC T n (tP T n i))) hc hG (u3.x (fun a b hh => fu a b (by omega))) (by rw [fu _ _ (by omega)]; exact v0) (by rw [fu _ _ (by omega)]; exact ju) (by omega) (by rw [fu _ _ (by omega), u2 _ _ (by omega) (by omega), fr _ _ (by omega)]; exact h8)
  refine ⟨y, ?_, y2, ((f1.tr u2.fq).tr f2).tr y3, fun hb => ?_⟩
  · rw [md_ruleTold_eq, if_pos (by first | decide | exact w32_0' | exact wM1 | (rw [w32_id (by decide) (by decide)]; decide)), e8, if_pos hin, if_pos hin, if_neg (by rw [w32_id (by omega) (by omega)]; omega), Int.toNat_natCast]
    simp only [if_pos hin]
    exact u1.trans y1
  · have t := y4 hb
    rw [up_s, up_k (by decide), u2 _ _ (by omega) (by omega), up_k (by decide), up_s] at t
    refine t.fr (fun a b hh => ?_)
    rw [fu _ _ (by omega)]
    rw [u2 _ _ (by omega) (by omega), fr _ _ (by omega)]
end
