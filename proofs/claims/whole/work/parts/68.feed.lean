/-! feed -/
def put1 (c f j : Nat) (s : hh_Sv) (v : Int) : hh_Sv := up (up s c (s f j).toNat v) f j (s f j + 1)
def puts (c f j : Nat) (s : hh_Sv) (l : List Int) : hh_Sv := l.foldl (put1 c f j) s
theorem puts_app {c f j : Nat} {s : hh_Sv} {l m : List Int} : puts c f j (puts c f j s l) m = puts c f j s (l ++ m) := by
  unfold puts
  rw [List.foldl_append]
section
variable {c f j : Nat} (hcf : c ≠ f)
theorem puts_n : ∀ {l : List Int} {s : hh_Sv}, puts c f j s l f j = s f j + l.length
  | [], s => by simp [puts]
  | v :: l, s => by
    show puts c f j (put1 c f j s v) l f j = _
    rw [puts_n]
    unfold put1
    rw [up_s, List.length_cons]
    omega
theorem puts_o {k b : Nat} (h1 : k ≠ c) (h2 : ¬ (k = f ∧ b = j)) : ∀ {l : List Int} {s : hh_Sv}, puts c f j s l k b = s k b
  | [], s => rfl
  | v :: l, s => by
    show puts c f j (put1 c f j s v) l k b = _
    rw [puts_o h1 h2]
    unfold put1
    by_cases e : k = f
    · rw [up_j (by omega), up_k h1]
    · rw [up_k e, up_k h1]
theorem puts_t (hcf : c ≠ f) : ∀ {l : List Int} {s : hh_Sv} {h : Nat}, s f j = (h : Int) → ∀ b, puts c f j s l c b = if h ≤ b ∧ b < h + l.length then l.getD (b - h) 0 else s c b
  | [], s, h, e, b => by
    rw [if_neg (by rw [List.length_nil]; omega)]
    rfl
  | v :: l, s, h, e, b => by
    show puts c f j (put1 c f j s v) l c b = _
    have e2 : put1 c f j s v f j = ((h + 1 : Nat) : Int) := by unfold put1; rw [up_s, e]; omega
    rw [puts_t hcf e2 b]
    have e3 : put1 c f j s v c b = if b = h then v else s c b := by
      unfold put1
      rw [up_k hcf, e, Int.toNat_natCast]
      by_cases eb : b = h
      · rw [if_pos eb, eb, up_s]
      · rw [if_neg eb, up_j eb]
    rw [e3, List.length_cons]
    by_cases eb : b = h
    · subst eb
      rw [if_neg (by omega), if_pos rfl, if_pos (by omega), Nat.sub_self]
      rfl
    · rw [if_neg eb]
      by_cases e4 : h + 1 ≤ b ∧ b < h + 1 + l.length
      · rw [if_pos e4, if_pos (by omega), show b - h = (b - (h + 1)) + 1 by omega]
        rfl
      · rw [if_neg e4, if_neg (by omega)]
end
noncomputable def by8 (a : Int) (k : Int) : Int := b8 (b8 (iShr a k))
noncomputable def by4 (a : Int) : List Int := [by8 a 24, by8 a 16, by8 a 8, by8 a 0]
theorem b8_bd (z : Int) : -128 ≤ b8 z ∧ b8 z < 128 := by
  unfold b8
  rw [opq_eq]
  have h1 := @Int.le_bmod z 256 (by decide)
  have h2 := @Int.bmod_lt z 256 (by decide)
  constructor <;> omega
section
variable {L : Nat}
theorem re_put1 {a k : Int} {s : hh_Sv} (hk : 0 ≤ k ∧ k ≤ 24) (h : 0 ≤ s 24 0 ∧ s 24 0 < 600) : re_put_b1 L a k s = re_put_b1 L a (k + (-8)) (put1 25 24 0 s (by8 a k)) := by
  rw [re_put_b1_eq, if_neg (by rw [w32_id (by omega) (by omega)]; omega), if_pos (by rw [w32_id (by omega) (by omega)]; omega), if_pos h]
  rfl
theorem re_put_ok {a : Int} {s : hh_Sv} (h : 0 ≤ s 24 0 ∧ s 24 0 + 4 ≤ 600) : re_put L a s = ok L 0 (puts 25 24 0 s (by4 a)) := by
  have n1 : put1 25 24 0 s (by8 a 24) 24 0 = s 24 0 + 1 := by unfold put1; rw [up_s]
  have n2 : put1 25 24 0 (put1 25 24 0 s (by8 a 24)) (by8 a 16) 24 0 = s 24 0 + 2 := by unfold put1; rw [up_s, up_s]; omega
  have n3 : put1 25 24 0 (put1 25 24 0 (put1 25 24 0 s (by8 a 24)) (by8 a 16)) (by8 a 8) 24 0 = s 24 0 + 3 := by unfold put1; rw [up_s, up_s, up_s]; omega
  rw [re_put_eq, re_put1 (by decide) (by omega), show (24 : Int) + (-8) = 16 from rfl, re_put1 (by decide) (by rw [n1]; omega), show (16 : Int) + (-8) = 8 from rfl, re_put1 (by decide) (by rw [n2]; omega), show (8 : Int) + (-8) = 0 from rfl, re_put1 (by decide) (by rw [n3]; omega), show (0 : Int) + (-8) = -8 from rfl, re_put_b1_eq, if_pos (by rw [w32_id (by decide) (by decide)]; decide)]
  rfl
theorem md_four1 {a k : Int} {s : hh_Sv} (hk : 0 ≤ k ∧ k ≤ 24) (h : 0 ≤ s 242 10 ∧ s 242 10 < 600) : md_four_b1 L a k s = md_four_b1 L a (k + (-8)) (put1 260 242 10 s (by8 a k)) := by
  rw [md_four_b1_eq, if_neg (by rw [w32_id (by omega) (by omega)]; omega), if_pos h]
  rfl
theorem md_four_ok {a : Int} {s : hh_Sv} (h : 0 ≤ s 242 10 ∧ s 242 10 + 4 ≤ 600) : md_four L a s = ok L 0 (puts 260 242 10 s (by4 a)) := by
  have n1 : put1 260 242 10 s (by8 a 24) 242 10 = s 242 10 + 1 := by unfold put1; rw [up_s]
  have n2 : put1 260 242 10 (put1 260 242 10 s (by8 a 24)) (by8 a 16) 242 10 = s 242 10 + 2 := by unfold put1; rw [up_s, up_s]; omega
  have n3 : put1 260 242 10 (put1 260 242 10 (put1 260 242 10 s (by8 a 24)) (by8 a 16)) (by8 a 8) 242 10 = s 242 10 + 3 := by unfold put1; rw [up_s, up_s, up_s]; omega
  rw [md_four_eq, md_four1 (by decide) (by omega), show (24 : Int) + (-8) = 16 from rfl, md_four1 (by decide) (by rw [n1]; omega), show (16 : Int) + (-8) = 8 from rfl, md_four1 (by decide) (by rw [n2]; omega), show (8 : Int) + (-8) = 0 from rfl, md_four1 (by decide) (by rw [n3]; omega), show (0 : Int) + (-8) = -8 from rfl, md_four_b1_eq, if_pos (by rw [w32_id (by decide) (by decide)]; decide)]
  rfl
noncomputable def by20 (a1 a2 a3 a4 a5 : Int) : List Int := by4 a1 ++ (by4 a2 ++ (by4 a3 ++ (by4 a4 ++ by4 a5)))
theorem hx_feed_ok {a1 a2 a3 a4 a5 : Int} {s : hh_Sv} (h : 0 ≤ s 24 0 ∧ s 24 0 + 20 ≤ 600) : hx_feed L a1 a2 a3 a4 a5 s = ok L (s 24 0 + 20) (puts 25 24 0 s (by20 a1 a2 a3 a4 a5)) := by
  have n : ∀ l, puts 25 24 0 s l 24 0 = s 24 0 + l.length := fun l => puts_n
  rw [hx_feed_eq, if_neg (by rw [w32_id (by omega) (by omega)]; omega), re_put_ok (by omega), ok_bind]
  dsimp only
  rw [re_put_ok (by rw [n]; show 0 ≤ s 24 0 + (4 : Nat) ∧ s 24 0 + (4 : Nat) + 4 ≤ 600; omega), ok_bind, puts_app]
  dsimp only
  rw [re_put_ok (by rw [n]; show 0 ≤ s 24 0 + (8 : Nat) ∧ s 24 0 + (8 : Nat) + 4 ≤ 600; omega), ok_bind, puts_app]
  dsimp only
  rw [re_put_ok (by rw [n]; show 0 ≤ s 24 0 + (12 : Nat) ∧ s 24 0 + (12 : Nat) + 4 ≤ 600; omega), ok_bind, puts_app]
  dsimp only
  rw [re_put_ok (by rw [n]; show 0 ≤ s 24 0 + (16 : Nat) ∧ s 24 0 + (16 : Nat) + 4 ≤ 600; omega), ok_bind, puts_app]
  dsimp only
  rw [n]
  rfl
theorem md_feed_ok {a1 a2 a3 a4 a5 : Int} {s : hh_Sv} (h : 0 ≤ s 242 10 ∧ s 242 10 + 20 ≤ 600) : md_feed L a1 a2 a3 a4 a5 s = ok L (s 242 10 + 20) (puts 260 242 10 s (by20 a1 a2 a3 a4 a5)) := by
  have n : ∀ l, puts 260 242 10 s l 242 10 = s 242 10 + l.length := fun l => puts_n
  rw [md_feed_eq, if_neg (by rw [w32_id (by omega) (by omega)]; omega), md_four_ok (by omega), ok_bind]
  dsimp only
  rw [md_four_ok (by rw [n]; show 0 ≤ s 242 10 + (4 : Nat) ∧ s 242 10 + (4 : Nat) + 4 ≤ 600; omega), ok_bind, puts_app]
  dsimp only
  rw [md_four_ok (by rw [n]; show 0 ≤ s 242 10 + (8 : Nat) ∧ s 242 10 + (8 : Nat) + 4 ≤ 600; omega), ok_bind, puts_app]
  dsimp only
  rw [md_four_ok (by rw [n]; show 0 ≤ s 242 10 + (12 : Nat) ∧ s 242 10 + (12 : Nat) + 4 ≤ 600; omega), ok_bind, puts_app]
  dsimp only
  rw [md_four_ok (by rw [n]; show 0 ≤ s 242 10 + (16 : Nat) ∧ s 242 10 + (16 : Nat) + 4 ≤ 600; omega), ok_bind, puts_app]
  dsimp only
  rw [n]
  rfl
theorem by20_bd {a1 a2 a3 a4 a5 : Int} (k : Nat) : -128 ≤ (by20 a1 a2 a3 a4 a5).getD k 0 ∧ (by20 a1 a2 a3 a4 a5).getD k 0 < 128 := by
  have h : ∀ v ∈ by20 a1 a2 a3 a4 a5, -128 ≤ v ∧ v < 128 := by
    intro v hv
    simp only [by20, by4, List.mem_append, List.mem_cons, List.not_mem_nil, or_false] at hv
    have g : ∃ z, v = b8 z := by
      unfold by8 at hv
      rcases hv with (h | h | h | h) | (h | h | h | h) | (h | h | h | h) | (h | h | h | h) | (h | h | h | h) <;> exact ⟨_, h⟩
    obtain ⟨z, rfl⟩ := g
    exact b8_bd z
  rw [List.getD_eq_getElem?_getD]
  cases e : (by20 a1 a2 a3 a4 a5)[k]? with
  | none => exact ⟨by decide, by decide⟩
  | some v => exact h v (List.mem_of_getElem? e)
/-- the tape changes, all else stays -/
theorem Inv.tape {s s2 : hh_Sv} (h : Inv s) (hB : iv_B s2) (hs : ∀ k j, ¬ (k = 24 ∧ j = 0) → k ≠ 25 → k ≠ 260 → ¬ (k = 242 ∧ j = 10) → s2 k j = s k j) : Inv s2 := by
  obtain ⟨⟨a1, a2, a3, a4, a5, a6⟩, a7⟩ := h
  have g : ∀ k j, ¬ (k = 24 ∧ j = 0) → k ≠ 25 → k ≠ 260 → ¬ (k = 242 ∧ j = 10) → s2 k j = s k j := hs
  refine ⟨⟨⟨fun j hj => (g _ _ (by omega) (by omega) (by omega) (by omega)).trans (a1.1 j hj), fun j hj => (g _ _ (by omega) (by omega) (by omega) (by omega)).trans (a1.2 j hj)⟩, a2.eqv (fun k j _ _ => g _ _ (by omega) (by omega) (by omega) (by omega)) ⟨g _ _ (by omega) (by omega) (by omega) (by omega), g _ _ (by omega) (by omega) (by omega) (by omega), g _ _ (by omega) (by omega) (by omega) (by omega)⟩ (fun k j _ _ => g _ _ (by omega) (by omega) (by omega) (by omega)), a3.eqv (g _ _ (by omega) (by omega) (by omega) (by omega)) (g _ _ (by omega) (by omega) (by omega) (by omega)) (fun k j _ _ => g _ _ (by omega) (by omega) (by omega) (by omega)) (fun j => g _ _ (by omega) (by omega) (by omega) (by omega)) (fun j => g _ _ (by omega) (by omega) (by omega) (by omega)),
    a4.eqv (g _ _ (by omega) (by omega) (by omega) (by omega)) (fun j => g _ _ (by omega) (by omega) (by omega) (by omega)) (fun j => g _ _ (by omega) (by omega) (by omega) (by omega)) (fun k j _ => g _ _ (by omega) (by omega) (by omega) (by omega)) (fun k n _ _ _ => g _ _ (by omega) (by omega) (by omega) (by omega)) (fun k j _ _ _ => g _ _ (by omega) (by omega) (by omega) (by omega)) (fun k j _ _ _ => g _ _ (by omega) (by omega) (by omega) (by omega)), a5.eqv (g _ _ (by omega) (by omega) (by omega) (by omega)) (g _ _ (by omega) (by omega) (by omega) (by omega)) (fun k j _ _ => g _ _ (by omega) (by omega) (by omega) (by omega)) (fun j _ => g _ _ (by omega) (by omega) (by omega) (by omega)) (fun k j _ _ _ => g _ _ (by omega) (by omega) (by omega) (by omega)), hB⟩, a7.same (g _ _ (by omega) (by omega) (by omega) (by omega)) (fun j => g _ _ (by omega) (by omega) (by omega) (by omega))⟩
theorem c_feed {a1 a2 a3 a4 a5 : Int} {s : hh_Sv} (h : Inv s) : Cal L s (hx_feed L a1 a2 a3 a4 a5) (md_feed L a1 a2 a3 a4 a5) w32 := by
  obtain ⟨b1, b2, b3, b4, b5⟩ := h.1.2.2.2.2.2
  by_cases e : s 242 10 + 20 ≤ 600
  · have eX := hx_feed_ok (L := L) (a1 := a1) (a2 := a2) (a3 := a3) (a4 := a4) (a5 := a5) (s := s) (by omega)
    generalize hs1 : puts 25 24 0 s (by20 a1 a2 a3 a4 a5) = s1 at eX
    have m1 : ∀ k j, k ≠ 25 → ¬ (k = 24 ∧ j = 0) → s1 k j = s k j := fun k j h1 h2 => by rw [← hs1]; exact puts_o h1 h2
    have n10 : s1 242 10 = s 242 10 := m1 _ _ (by decide) (by decide)
    have eY := md_feed_ok (L := L) (a1 := a1) (a2 := a2) (a3 := a3) (a4 := a4) (a5 := a5) (s := s1) (by rw [n10]; omega)
    generalize hs2 : puts 260 242 10 s1 (by20 a1 a2 a3 a4 a5) = s2 at eY
    have m2 : ∀ k j, k ≠ 260 → ¬ (k = 242 ∧ j = 10) → s2 k j = s1 k j := fun k j h1 h2 => by rw [← hs2]; exact puts_o h1 h2
    refine ⟨_, _, _, _, eX, eY, by rw [n10, b1], ?_, fun k hk => funext fun j => m1 _ _ (by omega) (by omega), fun k hk => funext fun j => (m2 _ _ (by omega) (by omega)).trans (m1 _ _ (by omega) (by omega))⟩
    refine h.tape ?_ (fun k j h1 h2 h3 h4 => (m2 _ _ h3 h4).trans (m1 _ _ h2 h1))
    obtain ⟨x, hx⟩ := Int.eq_ofNat_of_zero_le b2.1
    have v24 : s2 24 0 = (x : Int) + 20 := by
      rw [m2 _ _ (by decide) (by decide), ← hs1, puts_n, b1, hx]
      rfl
    have v10 : s2 242 10 = (x : Int) + 20 := by
      rw [← hs2, puts_n, n10, hx]
      rfl
    have v25 : ∀ j, s2 25 j = if x ≤ j ∧ j < x + 20 then (by20 a1 a2 a3 a4 a5).getD (j - x) 0 else s 25 j := fun j => by
      rw [m2 _ _ (by decide) (by omega), ← hs1, puts_t (by decide) (h := x) (by rw [b1, hx]) j]
      rfl
    have v260 : ∀ j, s2 260 j = if x ≤ j ∧ j < x + 20 then (by20 a1 a2 a3 a4 a5).getD (j - x) 0 else s 260 j := fun j => by
      rw [← hs2, puts_t (by decide) (h := x) (by rw [n10, hx]) j, m1 260 j (by decide) (by omega)]
      rfl
    refine ⟨v24.trans v10.symm, by rw [v10]; omega, fun j hj => ?_, ?_, ?_⟩
    · rw [v10] at hj
      rw [v25, v260]
      by_cases ej : x ≤ j ∧ j < x + 20
      · rw [if_pos ej, if_pos ej]
        exact ⟨rfl, by20_bd _⟩
      · rw [if_neg ej, if_neg ej]
        exact b3 j (by omega)
    · rw [m2 _ _ (by decide) (by decide), m1 _ _ (by decide) (by decide), m2 _ _ (by decide) (by decide), m1 _ _ (by decide) (by decide)]; exact b4
    · rw [m2 _ _ (by decide) (by decide), m1 _ _ (by decide) (by decide)]; exact b5
  · refine Cal.pure (v := -1) (v2 := -1) ?_ ?_ rfl h
    · rw [hx_feed_eq, if_pos (by rw [w32_id (by omega) (by omega)]; omega)]
    · rw [md_feed_eq, if_pos (by rw [w32_id (by omega) (by omega)]; omega)]
end
