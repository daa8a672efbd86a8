/-! texts: laying a text, keeping rules -/
theorem b8_id {z : Int} (h : -128 ≤ z ∧ z < 128) : b8 z = z := by
  unfold b8
  rw [opq_eq]
  exact Int.bmod_eq_of_le (by omega) (by omega)
def FL (s y : hh_Sv) : Prop := ∀ a b, a ≠ 261 → ¬ (a = 242 ∧ (b = 10 ∨ b = 11 ∨ b = 12 ∨ b = 13 ∨ b = 14 ∨ b = 15 ∨ b = 17 ∨ b = 32 ∨ b = 33)) → ¬ (248 ≤ a ∧ a ≤ 251 ∧ b = 16) → ¬ (252 ≤ a ∧ a ≤ 255 ∧ 384 ≤ b) → ¬ (256 ≤ a ∧ a ≤ 258 ∧ 4800 ≤ b) → y a b = s a b
section
variable {L q : Nat} {T : Nat → Int} {n m i i2 : Nat} {b : Bool} {s y z : hh_Sv} {rs fs rs2 : List Ru} {l2 : Int}
theorem md_laysT_ok (hn : n ≤ 600) (hT : ∀ j, j < n → s 260 j = T j ∧ -128 ≤ T j ∧ T j < 128) : ∃ y, md_lays L (n : Int) s = ok L 0 y ∧ Tx y T n ∧ y 242 12 = ((tP T n 0 : Nat) : Int) ∧ y 242 10 = 0 ∧ ∀ a b, a ≠ 261 → ¬ (a = 242 ∧ (b = 10 ∨ b = 11 ∨ b = 12)) → y a b = s a b := by
  rw [md_lays_eq]
  refine lp_st (n := n) (md_lays_b1 L (n : Int)) (fun j u => (∀ a b, a ≠ 261 → u a b = s a b) ∧ ∀ k, k < j → u 261 k = T k) (fun r => ∃ y, r = ok L 0 y ∧ Tx y T n ∧ y 242 12 = ((tP T n 0 : Nat) : Int) ∧ y 242 10 = 0 ∧ ∀ a b, a ≠ 261 → ¬ (a = 242 ∧ (b = 10 ∨ b = 11 ∨ b = 12)) → y a b = s a b) (fun i t hi ht => ?_) (fun t ht => ?_) n 0 s (by omega) ⟨fun _ _ _ => rfl, fun k hk => by omega⟩
  · obtain ⟨p1, p2⟩ := ht
    have hin : (0 : Int) ≤ (i : Int) ∧ (i : Int) < 600 := by omega
    refine ⟨up t 261 i (b8 (t 260 i)), ⟨fun a b ha => ?_, fun k hk => ?_⟩, ?_⟩
    · rw [up_k ha]
      exact p1 a b ha
    · by_cases e : k = i
      · rw [e, up_s, p1 _ _ (by decide), (hT i hi).1]
        exact b8_id (hT i hi).2
      · rw [up_j e]
        exact p2 k (by omega)
    · rw [md_lays_b1_eq, if_pos (by rw [w32_id (by omega) (by omega), w32_id (by omega) (by omega)]; omega), if_pos hin, if_pos hin, Int.toNat_natCast]
  · obtain ⟨p1, p2⟩ := ht
    have fr : ∀ a b, ¬ (a = 242 ∧ (b = 10 ∨ b = 11 ∨ b = 12)) → up (up (up t 242 11 (n : Int)) 242 10 0) 242 12 0 a b = t a b := fun a b hh => by
      unfold up
      rw [if_neg (by omega), if_neg (by omega), if_neg (by omega)]
    have hX : Tx (up (up (up t 242 11 (n : Int)) 242 10 0) 242 12 0) T n := ⟨by rw [up_j (by decide), up_j (by decide), up_s], hn, fun j hj => ⟨by rw [fr _ _ (by omega)]; exact p2 j hj, (hT j hj).2⟩⟩
    obtain ⟨y, y1, y2, y3⟩ := md_blanks_ok (L := L) (p := 0) hX up_s (Nat.zero_le _)
    refine ⟨y, ?_, ⟨?_, hn, fun j hj => ⟨?_, (hT j hj).2⟩⟩, y3, ?_, fun a b h1 h2 => ?_⟩
    · rw [md_lays_b1_eq, if_neg (by omega), y1, ok_bind]
    · rw [y2 _ _ (by omega)]
      exact hX.1
    · rw [y2 _ _ (by omega)]
      exact (hX.2.2 j hj).1
    · rw [y2 _ _ (by omega), up_j (by decide), up_s]
    · rw [y2 _ _ (by omega), fr _ _ (by omega)]
      exact p1 a b h1
theorem md_reads_ok (hn : n ≤ 600) (hT : ∀ j, j < n → s 260 j = T j ∧ -128 ≤ T j ∧ T j < 128) (hG : ∀ s, RGt s T n 0 [] 0 → s 242 12 = ((tP T n 0 : Nat) : Int) → ∃ y, md_reads_b1 L l2 1 s = ok L (zb (b = true)) y ∧ FQ s y ∧ y 242 17 = (if b = true then -1 else ((tP T n i2 : Nat) : Int)) ∧ (b = true → RGt y T n i2 rs2 rs2.length)) : ∃ y, md_reads L (n : Int) l2 s = ok L (zb (b = true)) y ∧ FL s y ∧ y 242 10 = 0 ∧ y 242 17 = (if b = true then -1 else ((tP T n i2 : Nat) : Int)) ∧ (b = true → RGt y T n i2 rs2 rs2.length) := by
  obtain ⟨u, u1, u2, u3, u4, u5⟩ := md_laysT_ok (L := L) hn hT
  have fr : ∀ a b, ¬ (a = 242 ∧ (b = 14 ∨ b = 15)) → ¬ (248 ≤ a ∧ a ≤ 251 ∧ b = 16) → up (up (up (up (up u 242 14 4800) 248 16 0) 250 16 0) 251 16 0) 242 15 0 a b = u a b := fun a b h1 h2 => by
    unfold up
    rw [if_neg (by omega), if_neg (by omega), if_neg (by omega), if_neg (by omega), if_neg (by omega)]
  have hr : RG (up (up (up (up (up u 242 14 4800) 248 16 0) 250 16 0) 251 16 0) 242 15 0) T n 0 := by
    refine RG.x (s := u) ⟨u2, tP T n 0, u3, (rn_le (Nat.zero_le _)).2, rn_rn (Nat.zero_le _)⟩ (fun a b hh => fr a b (by omega) (by omega))
  have ht : RGt (up (up (up (up (up u 242 14 4800) 248 16 0) 250 16 0) 251 16 0) 242 15 0) T n 0 [] 0 := by
    refine ⟨hr, ⟨?_, fun i r hi => ?_⟩, ?_, up_s, ?_, ?_⟩
    · rw [up_k (by decide), up_k (by decide), up_k (by decide), up_s]; rfl
    · have hh : ([] : List Ru)[i]? = some r := hi
      rw [List.getElem?_nil] at hh
      cases hh
    · rw [up_j (by decide), up_k (by decide), up_k (by decide), up_k (by decide), up_s]; rfl
    · rw [up_k (by decide), up_k (by decide), up_s]; rfl
    · rw [up_k (by decide), up_s]; rfl
  obtain ⟨y, y1, y2, y3, y4⟩ := hG _ ht (by rw [fr _ _ (by omega) (by omega)]; exact u3)
  refine ⟨y, ?_, fun a b h1 h2 h3 h4 h5 => ?_, ?_, y3, y4⟩
  · rw [md_reads_eq, u1, ok_bind]
    dsimp only
    rw [if_pos (by decide), if_pos (by decide), if_pos (by decide)]
    exact y1
  · rw [y2 a b (by omega) h3 h4 h5, fr a b (by omega) h3, u5 a b h1 (by omega)]
  · rw [y2 _ _ (by omega) (by omega) (by omega) (by omega), fr _ _ (by omega) (by omega)]
    exact u4
theorem md_keeps_ok {t : Nat} (ht : t < 16) (hM : ru_M s 16 fs) (hl : fs.length ≤ 24) (ha : ru_at fs fs.length ≤ 300) (h14 : s 242 14 = ((4800 + ru_at fs fs.length : Nat) : Int)) : ∃ y, md_keeps L (t : Int) s = ok L 0 y ∧ ru_M y t fs ∧ y 249 t = s 242 15 ∧ y 250 t = s 250 16 ∧ y 251 t = s 251 16 ∧ ∀ a b, ¬ (248 ≤ a ∧ a ≤ 251 ∧ b = t) → ¬ (252 ≤ a ∧ a ≤ 255 ∧ 24 * t ≤ b ∧ b < 24 * t + 24) → ¬ (256 ≤ a ∧ a ≤ 258 ∧ 300 * t ≤ b ∧ b < 300 * t + 300) → y a b = s a b := by
  obtain ⟨m1, m2⟩ := hM
  have htt : (0 : Int) ≤ (t : Int) ∧ (t : Int) < 17 := by omega
  have h16 : (0 : Nat) ≤ 16 ∧ 16 < 17 := by omega
  have e2 : (300 * ((t : Int) - 16)) = (300 * t : Nat) - 4800 := by omega
  -- the second loop
  have loop2 : ∀ s0 : hh_Sv, s0 242 14 = ((4800 + ru_at fs fs.length : Nat) : Int) → ∃ y, md_keeps_b3 L (300 * ((t : Int) - 16)) 4800 s0 = ok L 0 y ∧ (∀ a k, 256 ≤ a → a ≤ 258 → k < ru_at fs fs.length → y a (300 * t + k) = s0 a (4800 + k)) ∧ ∀ a b, ¬ (256 ≤ a ∧ a ≤ 258 ∧ 300 * t ≤ b ∧ b < 300 * t + 300) → y a b = s0 a b := by
    intro s0 h0
    refine lp_st (n := ru_at fs fs.length) (fun i => md_keeps_b3 L (300 * ((t : Int) - 16)) (4800 + i)) (fun j u => (∀ a k, 256 ≤ a → a ≤ 258 → k < j → u a (300 * t + k) = s0 a (4800 + k)) ∧ ∀ a b, ¬ (256 ≤ a ∧ a ≤ 258 ∧ 300 * t ≤ b ∧ b < 300 * t + j) → u a b = s0 a b) (fun r => ∃ y, r = ok L 0 y ∧ (∀ a k, 256 ≤ a → a ≤ 258 → k < ru_at fs fs.length → y a (300 * t + k) = s0 a (4800 + k)) ∧ ∀ a b, ¬ (256 ≤ a ∧ a ≤ 258 ∧ 300 * t ≤ b ∧ b < 300 * t + 300) → y a b = s0 a b) (fun i u hi hu => ?_) (fun u hu => ?_) (ru_at fs fs.length) 0 s0 (by omega) ⟨fun a k _ _ hk => by omega, fun a b _ => rfl⟩
    · obtain ⟨p1, p2⟩ := hu
      have i1 : (0 : Int) ≤ 4800 + (i : Int) ∧ 4800 + (i : Int) < 5100 := by omega
      have i2 : (0 : Int) ≤ 4800 + (i : Int) + 300 * ((t : Int) - 16) ∧ 4800 + (i : Int) + 300 * ((t : Int) - 16) < 5100 := by omega
      have n1 : (4800 + (i : Int)).toNat = 4800 + i := by omega
      have n2 : (4800 + (i : Int) + 300 * ((t : Int) - 16)).toNat = 300 * t + i := by omega
      refine ⟨up (up (up u 256 (300 * t + i) (u 256 (4800 + i))) 257 (300 * t + i) (u 257 (4800 + i))) 258 (300 * t + i) (u 258 (4800 + i)), ⟨fun a k h1 h2 hk => ?_, fun a b hh => ?_⟩, ?_⟩
      · have hs : ∀ a, 256 ≤ a → a ≤ 258 → u a (4800 + i) = s0 a (4800 + i) := fun a h1 h2 => p2 a _ (by omega)
        by_cases e : k = i
        · subst e
          have ha : a = 256 ∨ a = 257 ∨ a = 258 := by omega
          rcases ha with ha | ha | ha <;> subst ha
          · rw [up_k (by decide), up_k (by decide), up_s]; exact hs _ (by decide) (by decide)
          · rw [up_k (by decide), up_s]; exact hs _ (by decide) (by decide)
          · rw [up_s]; exact hs _ (by decide) (by decide)
        · rw [up_j (by omega), up_j (by omega), up_j (by omega)]
          exact p1 a k h1 h2 (by omega)
      · rw [← p2 a b (by omega)]
        unfold up
        rw [if_neg (by omega), if_neg (by omega), if_neg (by omega)]
      · have h14' : u 242 14 = ((4800 + ru_at fs fs.length : Nat) : Int) := by rw [p2 _ _ (by omega)]; exact h0
        show md_keeps_b3 L _ _ _ = md_keeps_b3 L _ _ _
        rw [md_keeps_b3_eq, if_pos (by rw [h14', w32_id (by omega) (by omega), w32_id (by omega) (by omega)]; omega), if_pos i1, if_pos i2, if_pos i1, if_pos i2, if_pos i1, if_pos i2, n1, n2, show 4800 + (i : Int) + 1 = 4800 + ((i : Int) + 1) by omega]
    · obtain ⟨p1, p2⟩ := hu
      refine ⟨u, ?_, p1, fun a b hh => p2 a b (by omega)⟩
      have h14' : u 242 14 = ((4800 + ru_at fs fs.length : Nat) : Int) := by rw [p2 _ _ (by omega)]; exact h0
      show md_keeps_b3 L _ _ _ = _
      rw [md_keeps_b3_eq, if_neg (by rw [h14', w32_id (by omega) (by omega), w32_id (by omega) (by omega)]; omega)]
  -- the first
  have loop1 : ∀ s0 : hh_Sv, s0 248 16 = (fs.length : Nat) → s0 242 14 = ((4800 + ru_at fs fs.length : Nat) : Int) → ∃ y, md_keeps_b1 L (t : Int) (300 * ((t : Int) - 16)) 0 s0 = ok L 0 y ∧ (∀ k, k < fs.length → y 252 (24 * t + k) = s0 252 (384 + k) ∧ y 253 (24 * t + k) = s0 253 (384 + k) ∧ y 254 (24 * t + k) = s0 254 (384 + k) + 300 * ((t : Int) - 16) ∧ y 255 (24 * t + k) = s0 255 (384 + k) + 300 * ((t : Int) - 16)) ∧ (∀ a k, 256 ≤ a → a ≤ 258 → k < ru_at fs fs.length → y a (300 * t + k) = s0 a (4800 + k)) ∧ ∀ a b, ¬ (252 ≤ a ∧ a ≤ 255 ∧ 24 * t ≤ b ∧ b < 24 * t + 24) → ¬ (256 ≤ a ∧ a ≤ 258 ∧ 300 * t ≤ b ∧ b < 300 * t + 300) → y a b = s0 a b := by
    intro s0 h8 h0
    refine lp_st (n := fs.length) (md_keeps_b1 L (t : Int) (300 * ((t : Int) - 16))) (fun j u => (∀ k, k < j → u 252 (24 * t + k) = s0 252 (384 + k) ∧ u 253 (24 * t + k) = s0 253 (384 + k) ∧ u 254 (24 * t + k) = s0 254 (384 + k) + 300 * ((t : Int) - 16) ∧ u 255 (24 * t + k) = s0 255 (384 + k) + 300 * ((t : Int) - 16)) ∧ ∀ a b, ¬ (252 ≤ a ∧ a ≤ 255 ∧ 24 * t ≤ b ∧ b < 24 * t + j) → u a b = s0 a b) (fun r => ∃ y, r = ok L 0 y ∧ (∀ k, k < fs.length → y 252 (24 * t + k) = s0 252 (384 + k) ∧ y 253 (24 * t + k) = s0 253 (384 + k) ∧ y 254 (24 * t + k) = s0 254 (384 + k) + 300 * ((t : Int) - 16) ∧ y 255 (24 * t + k) = s0 255 (384 + k) + 300 * ((t : Int) - 16)) ∧ (∀ a k, 256 ≤ a → a ≤ 258 → k < ru_at fs fs.length → y a (300 * t + k) = s0 a (4800 + k)) ∧ ∀ a b, ¬ (252 ≤ a ∧ a ≤ 255 ∧ 24 * t ≤ b ∧ b < 24 * t + 24) → ¬ (256 ≤ a ∧ a ≤ 258 ∧ 300 * t ≤ b ∧ b < 300 * t + 300) → y a b = s0 a b) (fun i u hi hu => ?_) (fun u hu => ?_) fs.length 0 s0 (by omega) ⟨fun k hk => by omega, fun a b _ => rfl⟩
    · obtain ⟨p1, p2⟩ := hu
      have i1 : (0 : Int) ≤ 384 + (i : Int) ∧ 384 + (i : Int) < 408 := by omega
      have i2 : (0 : Int) ≤ 24 * (t : Int) + (i : Int) ∧ 24 * (t : Int) + (i : Int) < 408 := by omega
      have n1 : (384 + (i : Int)).toNat = 384 + i := by omega
      have n2 : (24 * (t : Int) + (i : Int)).toNat = 24 * t + i := by omega
      have hs : ∀ a, 252 ≤ a → a ≤ 255 → u a (384 + i) = s0 a (384 + i) := fun a h1 h2 => p2 a _ (by omega)
      refine ⟨up (up (up (up u 252 (24 * t + i) (u 252 (384 + i))) 253 (24 * t + i) (u 253 (384 + i))) 254 (24 * t + i) (u 254 (384 + i) + 300 * ((t : Int) - 16))) 255 (24 * t + i) (u 255 (384 + i) + 300 * ((t : Int) - 16)), ⟨fun k hk => ?_, fun a b hh => ?_⟩, ?_⟩
      · by_cases e : k = i
        · subst e
          refine ⟨?_, ?_, ?_, ?_⟩
          · rw [up_k (by decide), up_k (by decide), up_k (by decide), up_s]; exact hs _ (by decide) (by decide)
          · rw [up_k (by decide), up_k (by decide), up_s]; exact hs _ (by decide) (by decide)
          · rw [up_k (by decide), up_s, hs _ (by decide) (by decide)]
          · rw [up_s, hs _ (by decide) (by decide)]
        · have hj : ∀ a, up (up (up (up u 252 (24 * t + i) (u 252 (384 + i))) 253 (24 * t + i) (u 253 (384 + i))) 254 (24 * t + i) (u 254 (384 + i) + 300 * ((t : Int) - 16))) 255 (24 * t + i) (u 255 (384 + i) + 300 * ((t : Int) - 16)) a (24 * t + k) = u a (24 * t + k) := fun a => by rw [up_j (by omega), up_j (by omega), up_j (by omega), up_j (by omega)]
          rw [hj, hj, hj, hj]
          exact p1 k (by omega)
      · rw [← p2 a b (by omega)]
        unfold up
        rw [if_neg (by omega), if_neg (by omega), if_neg (by omega), if_neg (by omega)]
      · have h8' : u 248 16 = (fs.length : Nat) := by rw [p2 _ _ (by omega)]; exact h8
        rw [md_keeps_b1_eq, if_pos h16, if_pos (by rw [h8', w32_id (by omega) (by omega), w32_id (by omega) (by omega)]; omega), if_pos i1, if_pos i2, if_pos i1, if_pos i2, if_pos i1, if_pos i2, if_pos i1, if_pos i2, n1, n2]
    · obtain ⟨p1, p2⟩ := hu
      have h8' : u 248 16 = (fs.length : Nat) := by rw [p2 _ _ (by omega)]; exact h8
      obtain ⟨y, y1, y2, y3⟩ := loop2 u (by rw [p2 _ _ (by omega)]; exact h0)
      refine ⟨y, ?_, fun k hk => ?_, fun a k h1 h2 h3 => ?_, fun a b h1 h2 => ?_⟩
      · rw [md_keeps_b1_eq, if_pos h16, if_neg (by rw [h8', w32_id (by omega) (by omega)]; omega)]
        exact y1
      · rw [y3 _ _ (by omega), y3 _ _ (by omega), y3 _ _ (by omega), y3 _ _ (by omega)]
        exact p1 k hk
      · rw [y2 a k h1 h2 h3, p2 _ _ (by omega)]
      · rw [y3 a b h2, p2 a b (by omega)]
  have fr : ∀ a b, ¬ (248 ≤ a ∧ a ≤ 251 ∧ b = t) → up (up (up (up s 248 t (s 248 16)) 249 t (s 242 15)) 250 t (s 250 16)) 251 t (s 251 16) a b = s a b := fun a b h1 => by
    unfold up
    rw [if_neg (by omega), if_neg (by omega), if_neg (by omega), if_neg (by omega)]
  obtain ⟨y, y1, y2, y3, y4⟩ := loop1 (up (up (up (up s 248 t (s 248 16)) 249 t (s 242 15)) 250 t (s 250 16)) 251 t (s 251 16)) (by rw [fr _ _ (by omega)]; exact m1) (by rw [fr _ _ (by omega)]; exact h14)
  refine ⟨y, ?_, ⟨?_, fun i r hr => ?_⟩, ?_, ?_, ?_, fun a b h1 h2 h3 => ?_⟩
  · rw [md_keeps_eq, if_pos h16, if_pos htt, if_pos htt, if_pos h16, if_pos htt, if_pos h16, if_pos htt, Int.toNat_natCast]
    exact y1
  · rw [y4 _ _ (by omega) (by omega), up_k (by decide), up_k (by decide), up_k (by decide), up_s]
    exact m1
  · obtain ⟨a1, a2, a3, a4, a5⟩ := m2 i r hr
    have hi := (List.getElem?_eq_some_iff.mp hr).1
    obtain ⟨b1, b2, b3, b4⟩ := y2 i hi
    rw [fr _ _ (by omega)] at b1 b2 b3 b4
    rw [b1, b2, b3, b4, show 384 + i = 24 * 16 + i by omega, a1, a2, a3, a4]
    refine ⟨rfl, rfl, by omega, by omega, fun j c hc => ?_⟩
    have hin := ru_at_in hr hc
    obtain ⟨c1, c2, c3⟩ := a5 j c hc
    rw [Nat.add_assoc, y3 256 _ (by decide) (by decide) hin, y3 257 _ (by decide) (by decide) hin, y3 258 _ (by decide) (by decide) hin, fr _ _ (by omega), fr _ _ (by omega), fr _ _ (by omega), show 4800 + (ru_at fs i + j) = 300 * 16 + ru_at fs i + j by omega]
    exact ⟨c1, c2, c3⟩
  · rw [y4 _ _ (by omega) (by omega), up_k (by decide), up_k (by decide), up_s]
  · rw [y4 _ _ (by omega) (by omega), up_k (by decide), up_s]
  · rw [y4 _ _ (by omega) (by omega), up_s]
  · rw [y4 _ _ h2 h3, fr _ _ h1]
end
