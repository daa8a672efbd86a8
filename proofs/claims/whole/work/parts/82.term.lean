/-! a term's value, a measure's value, in both -/
/-- what a term parts by (0: it has no value), and how many -/
def td (k o p x n : Nat) : Nat := if k = 0 then n else if k = 1 then bhm x o p n else 1
def th (k o p x n : Nat) : Nat := if k = 0 then pcf 32 x else if k = 1 then bhh x o p n else if k = 2 then cnt (gRun x) n else if k = 3 then mx (ob x o) n else if k = 4 then pcf 32 x else if k = 5 then cnt (gPair x o p) n else fz (ob x o) n
theorem th_le {k o p x n : Nat} (hx : x < 2 ^ n) (hn : n ≤ 24) : th k o p x n ≤ n := by
  unfold th
  have e : pcf 32 x ≤ n := by rw [pcf_big hx (by omega)]; exact pcf_le n x
  have e2 : bhh x o p n ≤ n := cnt_le (f := fun k => decide (p ≤ rl (ob x o) k) && x.testBit k) n
  have e3 := cnt_le (f := gRun x) n
  have e4 := mx_le (f := ob x o) n
  have e5 := cnt_le (f := gPair x o p) n
  have e6 := fz_le (f := ob x o) n
  split
  · exact e
  split
  · exact e2
  split
  · exact e3
  split
  · exact e4
  split
  · exact e
  split
  · exact e5
  · exact e6
theorem td_le {k o p x n : Nat} (hn : 1 ≤ n) : td k o p x n ≤ n := by
  unfold td
  have e2 : bhm x o p n ≤ n := cnt_le (f := fun k => decide (p ≤ rl (ob x o) k)) n
  split
  · exact Nat.le_refl _
  split
  · exact e2
  · exact hn
theorem td_0 {o p x n : Nat} : td 0 o p x n = n := rfl
theorem td_1 {o p x n : Nat} : td 1 o p x n = bhm x o p n := rfl
theorem td_2 {o p x n : Nat} : td 2 o p x n = 1 := rfl
theorem td_3 {o p x n : Nat} : td 3 o p x n = 1 := rfl
theorem td_4 {o p x n : Nat} : td 4 o p x n = 1 := rfl
theorem td_5 {o p x n : Nat} : td 5 o p x n = 1 := rfl
theorem td_6 {o p x n : Nat} : td 6 o p x n = 1 := rfl
theorem th_0 {o p x n : Nat} : th 0 o p x n = pcf 32 x := rfl
theorem th_1 {o p x n : Nat} : th 1 o p x n = bhh x o p n := rfl
theorem th_2 {o p x n : Nat} : th 2 o p x n = cnt (gRun x) n := rfl
theorem th_3 {o p x n : Nat} : th 3 o p x n = mx (ob x o) n := rfl
theorem th_4 {o p x n : Nat} : th 4 o p x n = pcf 32 x := rfl
theorem th_5 {o p x n : Nat} : th 5 o p x n = cnt (gPair x o p) n := rfl
theorem th_6 {o p x n : Nat} : th 6 o p x n = fz (ob x o) n := rfl
/-- the reference's measures -/
def mf (s : hh_Sv) : Nat → Nat → Int := fun k j => s (263 + k) j
def tD (M : Nat → Nat → Int) (i x n j : Nat) : Nat := td (M 2 (4 * i + j)).toNat (M 3 (4 * i + j)).toNat (M 4 (4 * i + j)).toNat x n
def tH (M : Nat → Nat → Int) (i x n j : Nat) : Nat := th (M 2 (4 * i + j)).toNat (M 3 (4 * i + j)).toNat (M 4 (4 * i + j)).toNat x n
def tV (M : Nat → Nat → Int) (S : Int) (i x n j : Nat) : Int := S / ((tD M i x n j : Nat) : Int) * ((tH M i x n j : Nat) : Int)
/-- have the first m terms a value -/
def vh (M : Nat → Nat → Int) (i x n : Nat) : Nat → Bool
  | 0 => true
  | m + 1 => vh M i x n m && decide (tD M i x n m ≠ 0)
def vs (M : Nat → Nat → Int) (S : Int) (i x n m : Nat) : Int := sg (fun j => M 1 (4 * i + j) * tV M S i x n j) m
def mhas (M : Nat → Nat → Int) (i x n : Nat) : Bool := decide (0 < n) && vh M i x n (M 0 i).toNat
def msum (M : Nat → Nat → Int) (S : Int) (i x n : Nat) : Int := vs M S i x n (M 0 i).toNat
theorem vh_le {M : Nat → Nat → Int} {i x n m : Nat} : ∀ {k : Nat}, vh M i x n (m + k) = true → vh M i x n m = true
  | 0, h => h
  | k + 1, h => by
    rw [← Nat.add_assoc, vh, Bool.and_eq_true] at h
    exact vh_le h.1
theorem me_sh : ∀ i, i < 12 → (SHf 0 (170 + 6 * i)).1 = 24 ∧ (SHf 0 23).2.2.getD i 0 = 170 + 6 * i ∧ ((SHf 0 (170 + 6 * i)).2.2.getD 1 0 = 171 + 6 * i ∧ (SHf 0 (170 + 6 * i)).2.2.getD 2 0 = 172 + 6 * i ∧ (SHf 0 (170 + 6 * i)).2.2.getD 3 0 = 173 + 6 * i ∧ (SHf 0 (170 + 6 * i)).2.2.getD 4 0 = 174 + 6 * i ∧ (SHf 0 (170 + 6 * i)).2.2.getD 5 0 = 175 + 6 * i) ∧ ((SHf 0 (171 + 6 * i)).1 = 0 ∧ (SHf 0 (172 + 6 * i)).1 = 0 ∧ (SHf 0 (173 + 6 * i)).1 = 2 ∧ (SHf 0 (174 + 6 * i)).1 = 2 ∧ (SHf 0 (175 + 6 * i)).1 = 0) ∧ ((SHf 0 (171 + 6 * i)).2.1 = 4 ∧ (SHf 0 (172 + 6 * i)).2.1 = 4 ∧ (SHf 0 (173 + 6 * i)).2.1 = 4 ∧ (SHf 0 (174 + 6 * i)).2.1 = 4 ∧ (SHf 0 (175 + 6 * i)).2.1 = 4) := by decide +kernel
section
variable {L : Nat} {s : hh_Sv}
theorem me_shL {i : Nat} (hi : i < 12) : kd L (170 + 6 * i) = 24 ∧ pf L 23 i = 170 + 6 * i ∧ (pf L (170 + 6 * i) 1 = 171 + 6 * i ∧ pf L (170 + 6 * i) 2 = 172 + 6 * i ∧ pf L (170 + 6 * i) 3 = 173 + 6 * i ∧ pf L (170 + 6 * i) 4 = 174 + 6 * i ∧ pf L (170 + 6 * i) 5 = 175 + 6 * i) ∧ (kd L (171 + 6 * i) = 0 ∧ kd L (172 + 6 * i) = 0 ∧ kd L (173 + 6 * i) = 2 ∧ kd L (174 + 6 * i) = 2 ∧ kd L (175 + 6 * i) = 0) ∧ (ln L (171 + 6 * i) = 4 ∧ ln L (172 + 6 * i) = 4 ∧ ln L (173 + 6 * i) = 4 ∧ ln L (174 + 6 * i) = 4 ∧ ln L (175 + 6 * i) = 4) := by
  unfold kd pf ln
  rw [in_shL (k := 170 + 6 * i) (by omega), in_shL (k := 23) (by omega), in_shL (k := 171 + 6 * i) (by omega), in_shL (k := 172 + 6 * i) (by omega), in_shL (k := 173 + 6 * i) (by omega), in_shL (k := 174 + 6 * i) (by omega), in_shL (k := 175 + 6 * i) (by omega)]
  exact me_sh i hi
theorem Inv.M (h : Inv s) : s 8 7 = s 242 16 ∧ 0 ≤ s 242 16 ∧ s 242 16 ≤ 12 := ⟨h.1.2.2.2.2.1.1, h.1.2.2.2.2.1.2.1⟩
theorem Inv.me (h : Inv s) {i : Nat} (hi : (i : Int) < s 242 16) : s (170 + 6 * i) 0 = s 263 i ∧ (1 ≤ s 263 i ∧ s 263 i ≤ 4) ∧ ∀ j : Nat, (j : Int) < s 263 i → me_T s i j := h.1.2.2.2.2.1.2.2 i hi
theorem hx_isMeasure_ok {a : Int} (ha : I32 a) (h : Inv s) : hx_isMeasure L a s = ok L (zb (0 ≤ a ∧ a < s 242 16)) s := by
  obtain ⟨m1, m2, m3⟩ := h.M
  rw [hx_isMeasure_eq, hx_isMeasure_b1_eq, ha.w, m1, w32_id (by omega) (by omega)]
  by_cases h1 : a < 0
  · rw [if_pos h1, zb_0 (by omega)]
  · rw [if_neg h1]
    by_cases h2 : a < s 242 16
    · rw [if_pos h2, zb_1 (by omega)]
    · rw [if_neg h2, zb_0 (by omega)]
theorem md_isMeasure_ok {a : Int} (ha : I32 a) (h : Inv s) : md_isMeasure L a s = ok L (zb (0 ≤ a ∧ a < s 242 16)) s := by
  obtain ⟨m1, m2, m3⟩ := h.M
  rw [md_isMeasure_eq, md_isIn_ok ha i_lit ⟨by omega, by omega⟩, ok_bind]
  show (if zb (0 ≤ a ∧ a ≤ s 242 16 - 1) = 0 ∨ zb (0 ≤ a ∧ a ≤ s 242 16 - 1) = 1 then ok L (zb (0 ≤ a ∧ a ≤ s 242 16 - 1)) s else none) = _
  rw [if_pos zb_01, zb_cg (q := 0 ≤ a ∧ a < s 242 16) (by omega)]
/-- a term of the class -/
theorem me_termOf_ok {i j x n : Nat} {S : Int} (h : Inv s) (hi : (i : Int) < s 242 16) (hj : (j : Int) < s 263 i) (hx : x < 2 ^ n) (hn : 1 ≤ n ∧ n ≤ 24) (hS : 0 ≤ S ∧ S < 9000000000) : me_termOf L (170 + 6 * i) (j : Int) (x : Int) (n : Int) S s = ok L (if tD (mf s) i x n j = 0 then -9000000000000000000 else tV (mf s) S i x n j) s := by
  obtain ⟨m1, m2, m3⟩ := h.M
  obtain ⟨k1, k2, ⟨p1, p2, p3, p4, p5⟩, ⟨q1, q2, q3, q4, q5⟩, ⟨l1, l2, l3, l4, l5⟩⟩ := me_shL (L := L) (i := i) (by omega)
  obtain ⟨c1, c2, c3⟩ := h.me hi
  obtain ⟨k, t, o, p, a1, a2, a3, a4, a5, a6, a7, a8, a9, a10, a11, a12, a13, a14⟩ := c3 j hj
  have hin : (0 : Int) ≤ (j : Int) ∧ (j : Int) < ((4 : Nat) : Int) := by omega
  have h2 := p2_24 hn.2
  obtain ⟨o', ho', ho2⟩ : ∃ o' : Nat, s (173 + 6 * i) j = (o' : Int) ∧ (o' = 0 ∨ o' = 1) := by
    rcases a9 with z | z
    · exact ⟨0, z, Or.inl rfl⟩
    · exact ⟨1, z, Or.inr rfl⟩
  obtain ⟨p', hp', hp2⟩ : ∃ o' : Nat, s (174 + 6 * i) j = (o' : Int) ∧ (o' = 0 ∨ o' = 1) := by
    rcases a12 with z | z
    · exact ⟨0, z, Or.inl rfl⟩
    · exact ⟨1, z, Or.inr rfl⟩
  have d2 : (mf s 2 (4 * i + j)).toNat = k := by show (s 265 _).toNat = k; rw [a2]; rfl
  have d3 : (mf s 3 (4 * i + j)).toNat = o.toNat := by show (s 266 _).toNat = _; rw [a7]
  have d4 : (mf s 4 (4 * i + j)).toNat = p.toNat := by show (s 267 _).toNat = _; rw [a11]
  have hpc : pcf 32 x ≤ 32 := pcf_le 32 x
  have e1 : w32 (n : Int) = (n : Int) := w32_id (by omega) (by omega)
  have e2 : w32 ((pcf 32 x : Nat) : Int) = ((pcf 32 x : Nat) : Int) := w32_id (by omega) (by omega)
  have e3 : w64 S = S := w64_id (by omega) (by omega)
  rw [me_termOf_eq, if_pos k1, p3, if_pos q3, l3, if_pos hin, Int.toNat_natCast, ho', hx_ofBits_ok hx hn.2 ho2, ok_bind]
  dsimp only
  rw [if_pos k1, p2, if_pos q2, l2, if_pos hin]
  unfold tV tD tH
  rw [d2, d3, d4]
  have hk : k = 0 ∨ k = 1 ∨ k = 2 ∨ k = 3 ∨ k = 4 ∨ k = 5 ∨ k = 6 := by omega
  have one : ∀ c : Nat, S / ((1 : Nat) : Int) * (c : Int) = S * (c : Int) := fun c => by
    show S / 1 * (c : Int) = _
    rw [Int.ediv_one]
  rcases hk with rfl | rfl | rfl | rfl | rfl | rfl | rfl
  · have ek : w32 (s (172 + 6 * i) j) = 10 := by rw [a3]; exact w32_id (by decide) (by decide)
    rw [if_neg (by rw [ek]; decide), if_pos ek, e1, if_pos (by omega), w64_id (i := (n : Int)) (by omega) (by omega), if_neg (by omega), jin_bitCount_ok L (by omega), ok_bind]
    dsimp only
    rw [e2, e3, tDiv_nn hS.1 (by omega)]
    rw [td_0, th_0, if_neg (by omega)]
  · obtain ⟨z1, z2, z3⟩ := a14 rfl
    obtain ⟨pn, hpn⟩ := Int.eq_ofNat_of_zero_le (show 0 ≤ p by omega)
    have eo : o = (o' : Int) := by rw [← a10 (Or.inl rfl), ho']
    have hbl := bhb_lt (h := x) (n := n) (o := o') (m := pn)
    have hbm := cnt_le (f := fun k => decide (pn ≤ rl (ob x o') k)) n
    have hbh := cnt_le (f := fun k => decide (pn ≤ rl (ob x o') k) && x.testBit k) n
    have hbm : bhm x o' pn n ≤ n := hbm
    have hbh : bhh x o' pn n ≤ n := hbh
    have ek : w32 (s (172 + 6 * i) j) = 12 := by rw [a3]; exact w32_id (by decide) (by decide)
    rw [if_neg (by rw [ek]; decide), if_neg (by rw [ek]; decide), if_neg (by rw [ek]; decide), if_pos ek, if_pos k1, if_pos q3, if_pos hin, if_pos k1, p5, if_pos q5, l5, if_pos hin, z1, ho', hpn, hx_behindBits_ok hx hn.2 ho2 (by omega), ok_bind]
    dsimp only
    rw [jin_bitCount_ok L (by omega), ok_bind, bhb_pc hx hn.2]
    dsimp only
    rw [w32_id (i := ((bhm x o' pn n : Nat) : Int)) (by omega) (by omega), w64_id (i := ((bhm x o' pn n : Nat) : Int)) (by omega) (by omega), bAnd_nat (by omega) (by omega), jin_bitCount_ok L (Nat.lt_of_le_of_lt Nat.and_le_left (by omega)), ok_bind, bhb_and hx hn.2]
    dsimp only
    rw [w32_id (i := ((bhh x o' pn n : Nat) : Int)) (by omega) (by omega), e3, tDiv_nn hS.1 (by omega), eo]
    rw [td_1, th_1, Int.toNat_natCast, Int.toNat_natCast]
    by_cases q : bhm x o' pn n = 0
    · rw [if_pos (by omega), if_pos q]
    · rw [if_neg (by omega), if_neg (by omega), if_neg q]
  · have hr := cnt_le (f := gRun x) n
    have ek : w32 (s (172 + 6 * i) j) = 11 := by rw [a3]; exact w32_id (by decide) (by decide)
    rw [if_neg (by rw [ek]; decide), if_neg (by rw [ek]; decide), if_pos ek, hx_runs hx hn, ok_bind]
    dsimp only
    rw [w32_id (by omega) (by omega)]
    rw [td_2, th_2, if_neg (by decide), one]
  · have eo : o = (o' : Int) := by rw [← a10 (Or.inr (Or.inl rfl)), ho']
    have hr := mx_le (f := ob x o') n
    have ek : w32 (s (172 + 6 * i) j) = 13 := by rw [a3]; exact w32_id (by decide) (by decide)
    rw [if_neg (by rw [ek]; decide), if_neg (by rw [ek]; decide), if_neg (by rw [ek]; decide), if_neg (by rw [ek]; decide), if_pos ek, hx_longestOf_ok hx hn.2, ok_bind, eo]
    dsimp only
    rw [w32_id (by omega) (by omega), Int.toNat_natCast]
    rw [td_3, th_3, if_neg (by decide), one]
  · have ek : w32 (s (172 + 6 * i) j) = 9 := by rw [a3]; exact w32_id (by decide) (by decide)
    rw [if_pos ek, jin_bitCount_ok L (by omega), ok_bind]
    dsimp only
    rw [e2]
    rw [td_4, th_4, if_neg (by decide), one]
  · have eo : o = (o' : Int) := by rw [← a10 (Or.inr (Or.inr (by decide))), ho']
    have ep : p = (p' : Int) := by rw [← a13 rfl, hp']
    have hr := cnt_le (f := gPair x o' p') n
    have ek : w32 (s (172 + 6 * i) j) = 14 := by rw [a3]; exact w32_id (by decide) (by decide)
    rw [if_neg (by rw [ek]; decide), if_neg (by rw [ek]; decide), if_neg (by rw [ek]; decide), if_neg (by rw [ek]; decide), if_neg (by rw [ek]; decide), if_pos ek, if_pos k1, p4, if_pos q4, l4, if_pos hin, hp', hx_ofBits_ok hx hn.2 hp2, ok_bind]
    dsimp only
    rw [hx_pairs hx hn.2, ok_bind, eo, ep]
    dsimp only
    rw [w32_id (by omega) (by omega), Int.toNat_natCast, Int.toNat_natCast]
    rw [td_5, th_5, if_neg (by decide), one]
  · have eo : o = (o' : Int) := by rw [← a10 (Or.inr (Or.inr (by decide))), ho']
    have ek : w32 (s (172 + 6 * i) j) = 15 := by rw [a3]; exact w32_id (by decide) (by decide)
    rw [if_neg (by rw [ek]; decide), if_neg (by rw [ek]; decide), if_neg (by rw [ek]; decide), if_neg (by rw [ek]; decide), if_neg (by rw [ek]; decide), if_neg (by rw [ek]; decide), hx_first hx hn.2, eo, Int.toNat_natCast]
    rw [td_6, th_6, if_neg (by decide), one]
end
