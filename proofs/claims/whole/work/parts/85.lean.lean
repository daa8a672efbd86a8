/-! lean, right -/
theorem sg_add {f : Nat → Int} {a : Nat} : ∀ (b : Nat), sg f (a + b) = sg f a + sg (fun k => f (a + k)) b
  | 0 => by simp [sg]
  | b + 1 => by
    rw [← Nat.add_assoc, sg, sg, sg_add b]
    omega
theorem sg_mul {f : Nat → Int} {c : Int} : ∀ {n : Nat}, sg (fun k => c * f k) n = c * sg f n
  | 0 => by simp [sg]
  | n + 1 => by rw [sg, sg, sg_mul, Int.mul_add]
theorem sg_lle {f g : Nat → Int} : ∀ {n : Nat}, (∀ k, k < n → f k ≤ g k) → sg f n ≤ sg g n
  | 0, _ => Int.le_refl _
  | n + 1, h => by
    have h1 := sg_lle (n := n) (fun k hk => h k (by omega))
    have h2 := h n (by omega)
    rw [sg, sg]
    omega
theorem sg_dom {f w : Nat → Int} {c : Int} : ∀ {n : Nat}, (∀ k, k < n → -(c * w k) ≤ f k ∧ f k ≤ c * w k) → -(c * sg w n) ≤ sg f n ∧ sg f n ≤ c * sg w n
  | 0, _ => by simp [sg]
  | n + 1, h => by
    have h1 := sg_dom (n := n) (fun k hk => h k (by omega))
    have h2 := h n (by omega)
    rw [sg, sg, Int.mul_add]
    omega
/-- how likely a row with c hits is -/
def lw (p q : Nat) (n c : Nat) : Int := (p : Int) ^ c * (q : Int) ^ (n - c)
theorem lw_nn {p q n c : Nat} : 0 ≤ lw p q n c := Int.mul_nonneg (Int.pow_nonneg (by omega)) (Int.pow_nonneg (by omega))
theorem lw_sum {p q : Nat} (hpq : p + q = 10) : ∀ n, sg (fun x => lw p q n (pcf n x)) (2 ^ n) = 10 ^ n
  | 0 => by simp [sg, lw, pcf]
  | n + 1 => by
    rw [Nat.pow_succ, Nat.mul_two, sg_add]
    have ih := lw_sum hpq n
    have e1 : sg (fun x => lw p q (n + 1) (pcf (n + 1) x)) (2 ^ n) = (q : Int) * 10 ^ n := by
      rw [← ih, ← sg_mul]
      refine sg_congr (fun x hx => ?_)
      have hc := pcf_le n x
      rw [pcf_big hx (Nat.le_succ n)]
      unfold lw
      rw [show n + 1 - pcf n x = (n - pcf n x) + 1 by omega, Int.pow_succ]
      rw [← Int.mul_assoc, Int.mul_comm]
    have e2 : sg (fun x => lw p q (n + 1) (pcf (n + 1) (2 ^ n + x))) (2 ^ n) = (p : Int) * 10 ^ n := by
      rw [← ih, ← sg_mul]
      refine sg_congr (fun x hx => ?_)
      have hc := pcf_le n x
      have eb : pcf (n + 1) (2 ^ n + x) = pcf n x + 1 := by
        rw [pcf_last, ← pcf_mod n (2 ^ n + x), Nat.add_mod_left, Nat.mod_eq_of_lt hx]
        unfold bt
        rw [Nat.add_div_left _ (Nat.two_pow_pos n), Nat.div_eq_of_lt hx]
      rw [eb]
      unfold lw
      rw [show n + 1 - (pcf n x + 1) = n - pcf n x by omega, Int.pow_succ, Int.mul_comm ((p : Int) ^ _) (p : Int), Int.mul_assoc]
    rw [e1, e2, ← Int.add_mul, Int.pow_succ, Int.mul_comm]
    congr 1
    omega
def lcF (M : Nat → Nat → Int) (i n p q x : Nat) : Int := if mhas M i x n = true then lw p q n (pcf 32 x) else 0
def lvF (M : Nat → Nat → Int) (i n p q x : Nat) : Int := if mhas M i x n = true then msum M 27720 i x n * lw p q n (pcf 32 x) else 0
theorem pow12 {n : Nat} (h : n ≤ 12) : (10 : Int) ^ n ≤ 1000000000000 := by
  have h1 : (10 : Nat) ^ n ≤ 10 ^ 12 := Nat.pow_le_pow_right (by decide) h
  have h2 : ((10 ^ n : Nat) : Int) = (10 : Int) ^ n := Int.natCast_pow 10 n
  omega
theorem lcF_bd {M : Nat → Nat → Int} {i n p q m : Nat} (hpq : p + q = 10) (hn : n ≤ 12) (hm : m ≤ 2 ^ n) : 0 ≤ sg (lcF M i n p q) m ∧ sg (lcF M i n p q) m ≤ 1000000000000 := by
  have a := sg_nn (f := lcF M i n p q) (n := m) (fun k _ => by unfold lcF; split; exact lw_nn; omega)
  have b := sg_lle (f := lcF M i n p q) (g := fun x => lw p q n (pcf n x)) (n := m) (fun k hk => by
    unfold lcF
    rw [pcf_big (show k < 2 ^ n by omega) (show n ≤ 32 by omega)]
    split
    · exact Int.le_refl _
    · exact lw_nn)
  have c := sg_mono (f := fun x => lw p q n (pcf n x)) hm (fun k _ => lw_nn)
  rw [lw_sum hpq n] at c
  have := pow12 hn
  omega
section
variable {L : Nat} {s : hh_Sv}
theorem lvF_bd {i n p q m : Nat} (h : Inv s) (hi : (i : Int) < s 242 16) (hpq : p + q = 10) (hn : n ≤ 12) (hm : m ≤ 2 ^ n) : -3991680000000000000 ≤ sg (lvF (mf s) i n p q) m ∧ sg (lvF (mf s) i n p q) m ≤ 3991680000000000000 := by
  have hc := lcF_bd (M := mf s) (i := i) hpq hn hm
  have key := sg_dom (f := lvF (mf s) i n p q) (w := lcF (mf s) i n p q) (c := 3991680) (n := m) (fun k hk => by
    have hb := msum_bd (S := 27720) (x := k) (n := n) h hi (by omega) (by omega) (by decide)
    unfold lvF lcF
    by_cases e : mhas (mf s) i k n = true
    · rw [if_pos e, if_pos e]
      have hw := lw_nn (p := p) (q := q) (n := n) (c := pcf 32 k)
      rw [← Int.neg_mul]
      exact ⟨Int.mul_le_mul_of_nonneg_right (by omega) hw, Int.mul_le_mul_of_nonneg_right (by omega) hw⟩
    · rw [if_neg e, if_neg e]
      omega)
  omega
theorem few_d : ∀ d : Nat, d < 13 → d ≠ 0 → (5354228880 : Int) / (d : Int) = 193154 * (27720 / (d : Int)) := by decide +kernel
theorem vs_few {M : Nat → Nat → Int} {i x n : Nat} (hn : 1 ≤ n ∧ n ≤ 12) : ∀ {m : Nat}, vh M i x n m = true → vs M 5354228880 i x n m = 193154 * vs M 27720 i x n m
  | 0, _ => by simp [vs, sg]
  | m + 1, h => by
    rw [vh, Bool.and_eq_true, decide_eq_true_eq] at h
    have ih := vs_few hn h.1
    have hd : tD M i x n m ≤ n := td_le hn.1
    have e : tV M 5354228880 i x n m = 193154 * tV M 27720 i x n m := by
      unfold tV
      rw [few_d _ (by omega) h.2, Int.mul_assoc]
    have e1 : vs M 5354228880 i x n (m + 1) = vs M 5354228880 i x n m + M 1 (4 * i + m) * tV M 5354228880 i x n m := rfl
    have e2 : vs M 27720 i x n (m + 1) = vs M 27720 i x n m + M 1 (4 * i + m) * tV M 27720 i x n m := rfl
    rw [e1, e2, ih, e, Int.mul_add, Int.mul_left_comm]
theorem ms_few {M : Nat → Nat → Int} {i x n : Nat} (hn : n ≤ 12) (h : mhas M i x n = true) : msum M 5354228880 i x n = 193154 * msum M 27720 i x n := by
  unfold mhas at h
  rw [Bool.and_eq_true, decide_eq_true_eq] at h
  exact vs_few ⟨h.1, hn⟩ h.2
theorem le_reckon_ok {i n p q : Nat} (h : Inv s) (hi : (i : Int) < s 242 16) (hpq : p + q = 10) (hp : 1 ≤ p ∧ p ≤ 9) (hn : 1 ≤ n ∧ n ≤ 12) : ∃ u, le_reckon L (170 + 6 * i) (n : Int) (p : Int) s = ok L 0 u ∧ (∀ k j, k ≠ 30 → k ≠ 31 → u k j = s k j) ∧ u 30 0 = sg (lvF (mf s) i n p q) (2 ^ n) ∧ u 30 1 = sg (lcF (mf s) i n p q) (2 ^ n) := by
  obtain ⟨m1, m2, m3⟩ := h.M
  obtain ⟨k1, k2, -⟩ := me_shL (L := L) (i := i) (by omega)
  have h12 : 2 ^ n ≤ 2 ^ 12 := Nat.pow_le_pow_right (by decide) hn.2
  rw [le_reckon_eq, if_pos (by decide)]
  have s1 : ∀ (j r : Nat) (u : hh_Sv), r + j = n → (∀ k j, k ≠ 30 → k ≠ 31 → u k j = s k j) → u 31 0 = (q : Int) ^ r → ∃ w, (∀ k j, k ≠ 30 → k ≠ 31 → w k j = s k j) ∧ w 31 0 = (q : Int) ^ n ∧ le_reckon_b1 L (170 + 6 * i) (n : Int) (p : Int) (r : Int) u = le_reckon_b3 L (170 + 6 * i) (n : Int) (p : Int) 1 w := by
    intro j
    induction j with
    | zero =>
      intro r u e g p1
      rw [Nat.add_zero] at e
      subst e
      refine ⟨u, g, p1, ?_⟩
      rw [le_reckon_b1_eq, if_neg (by omega)]
    | succ j ih =>
      intro r u e g p1
      rw [le_reckon_b1_eq, if_pos (by rw [w32_id (by omega) (by omega), w32_id (by omega) (by omega)]; omega), if_pos (by decide), if_pos (by decide)]
      refine ih (r + 1) _ (by omega) (fun k j a b => ?_) ?_
      · rw [up_k b]
        exact g k j a b
      · rw [up_s, p1, w32_id (by omega) (by omega), Int.pow_succ, show (10 : Int) - (p : Int) = (q : Int) by omega]
  have s2 : ∀ (j r : Nat) (u : hh_Sv), r + j = n → (∀ k j, k ≠ 30 → k ≠ 31 → u k j = s k j) → (∀ c, c ≤ r → u 31 c = lw p q n c) → ∃ w, (∀ k j, k ≠ 30 → k ≠ 31 → w k j = s k j) ∧ (∀ c, c ≤ n → w 31 c = lw p q n c) ∧ le_reckon_b3 L (170 + 6 * i) (n : Int) (p : Int) ((r : Int) + 1) u = le_reckon_b5 L (170 + 6 * i) (n : Int) 0 (up (up w 30 0 0) 30 1 0) := by
    intro j
    induction j with
    | zero =>
      intro r u e g p1
      rw [Nat.add_zero] at e
      subst e
      refine ⟨u, g, p1, ?_⟩
      rw [le_reckon_b3_eq, if_pos (by rw [w32_id (by omega) (by omega), w32_id (by omega) (by omega)]; omega)]
    | succ j ih =>
      intro r u e g p1
      have hlw : lw p q n r = lw p q n r := rfl
      have hq0 : (0 : Int) ≤ (p : Int) ^ r * (q : Int) ^ (n - (r + 1)) := Int.mul_nonneg (Int.pow_nonneg (by omega)) (Int.pow_nonneg (by omega))
      have e5 : lw p q n r = ((p : Int) ^ r * (q : Int) ^ (n - (r + 1))) * (q : Int) := by
        unfold lw
        rw [show n - r = (n - (r + 1)) + 1 by omega, Int.pow_succ, Int.mul_assoc]
      have hb : lw p q n r ≤ 1000000000000 := by
        have a1 : (p : Nat) ^ r ≤ 10 ^ r := Nat.pow_le_pow_left (by omega) r
        have a2 : (q : Nat) ^ (n - r) ≤ 10 ^ (n - r) := Nat.pow_le_pow_left (by omega) _
        have a3 : p ^ r * q ^ (n - r) ≤ 10 ^ r * 10 ^ (n - r) := Nat.mul_le_mul a1 a2
        rw [← Nat.pow_add, show r + (n - r) = n by omega] at a3
        have a4 : ((p ^ r * q ^ (n - r) : Nat) : Int) = lw p q n r := by unfold lw; rw [Int.natCast_mul, Int.natCast_pow, Int.natCast_pow]
        have a5 := pow12 hn.2
        have a6 : ((10 ^ n : Nat) : Int) = (10 : Int) ^ n := Int.natCast_pow 10 n
        omega
      have hb0 := lw_nn (p := p) (q := q) (n := n) (c := r)
      rw [le_reckon_b3_eq, if_neg (by rw [w32_id (by omega) (by omega), w32_id (by omega) (by omega)]; omega), if_pos (by omega), jma_max_ok i_lit ⟨by omega, by omega⟩, ok_bind]
      dsimp only
      have ex : (if (1 : Int) < 10 - (p : Int) then 10 - (p : Int) else 1) = (q : Int) := by split <;> omega
      rw [ex, w32_id (i := (q : Int)) (by omega) (by omega), w64_id (i := (q : Int)) (by omega) (by omega), if_neg (by omega), if_pos (by omega), show ((r : Int) + 1 - 1).toNat = r by omega, show ((r : Int) + 1).toNat = r + 1 by omega, p1 r (Nat.le_refl _), w64_id (i := lw p q n r) (by omega) (by omega), w32_id (i := (p : Int)) (by omega) (by omega), tDiv_nn hb0 (by omega), e5, Int.mul_ediv_cancel _ (show (q : Int) ≠ 0 by omega)]
      refine ih (r + 1) _ (by omega) (fun k j a b => ?_) (fun c hc => ?_)
      · rw [up_k b]
        exact g k j a b
      · by_cases ec : c = r + 1
        · subst ec
          rw [up_s]
          unfold lw
          rw [Int.pow_succ, Int.mul_assoc, Int.mul_assoc]
          congr 1
          exact Int.mul_comm _ _
        · rw [up_j ec]
          exact p1 c (by omega)
  have s3 : ∀ (j r : Nat) (u : hh_Sv), r + j = 2 ^ n → (∀ k j, k ≠ 30 → k ≠ 31 → u k j = s k j) → (∀ c, c ≤ n → u 31 c = lw p q n c) → u 30 0 = sg (lvF (mf s) i n p q) r → u 30 1 = sg (lcF (mf s) i n p q) r → ∃ w, le_reckon_b5 L (170 + 6 * i) (n : Int) (r : Int) u = ok L 0 w ∧ (∀ k j, k ≠ 30 → k ≠ 31 → w k j = s k j) ∧ w 30 0 = sg (lvF (mf s) i n p q) (2 ^ n) ∧ w 30 1 = sg (lcF (mf s) i n p q) (2 ^ n) := by
    have esh : iShl 1 (n : Int) = ((2 ^ n : Nat) : Int) := by rw [iShl_id rfl (by omega), Int.one_mul, p2_c]
    intro j
    induction j with
    | zero =>
      intro r u e g p1 p2 p3
      rw [Nat.add_zero] at e
      subst e
      refine ⟨u, ?_, g, p2, p3⟩
      rw [le_reckon_b5_eq, esh, if_neg (by omega)]
    | succ j ih =>
      intro r u e g p1 p2 p3
      have hE : Eqh s u := fun k j hk => g k j (fun q => hk (by subst q; exact ⟨by unfold scr; omega, by decide, by omega⟩)) (fun q => hk (by subst q; exact ⟨by unfold scr; omega, by decide, by omega⟩))
      have hI := hE.I h
      have emf : mf u = mf s := by
        funext k j
        exact g _ _ (by omega) (by omega)
      have hr : r < 2 ^ n := by omega
      have hb := msum_bd (S := 27720) (x := r) (n := n) h hi (by omega) (by omega) (by decide)
      have hpc : pcf 32 r ≤ n := by rw [pcf_big hr (by omega)]; exact pcf_le n r
      have s1 : sg (lvF (mf s) i n p q) (r + 1) = sg (lvF (mf s) i n p q) r + lvF (mf s) i n p q r := rfl
      have s2 : sg (lcF (mf s) i n p q) (r + 1) = sg (lcF (mf s) i n p q) r + lcF (mf s) i n p q r := rfl
      rw [le_reckon_b5_eq, esh, if_pos (by rw [w32_id (by omega) (by omega), w32_id (by omega) (by omega)]; omega), if_pos k1, me_reckon_ok hI (by rw [g _ _ (by decide) (by decide)]; exact hi) hr (by omega) (by decide), ok_bind, emf]
      dsimp only
      by_cases em : mhas (mf s) i r n = true
      · rw [if_pos em, if_neg (nv_ne (by omega)), jin_bitCount_ok L (by omega), ok_bind]
        dsimp only
        rw [if_pos (by omega), Int.toNat_natCast]
        refine ih (r + 1) _ (by omega) (fun k j a b => ?_) (fun c hc => ?_) ?_ ?_
        · rw [up_k a, up_k a]
          exact g k j a b
        · rw [up_k (by decide), up_k (by decide)]
          exact p1 c hc
        · rw [up_j (by decide), up_s, p2, s1, p1 _ hpc]
          unfold lvF
          rw [if_pos em]
        · rw [up_s, p3, s2, p1 _ hpc]
          unfold lcF
          rw [if_pos em]
      · rw [if_neg em, if_pos nv_eq]
        refine ih (r + 1) u (by omega) g p1 ?_ ?_
        · rw [p2, s1]
          unfold lvF
          rw [if_neg em, Int.add_zero]
        · rw [p3, s2]
          unfold lcF
          rw [if_neg em, Int.add_zero]
  obtain ⟨w, w1, w2, w3⟩ := s1 n 0 (up s 31 0 1) (by omega) (fun k j a b => up_k b) (by rw [up_s]; rfl)
  obtain ⟨w', v1, v2, v3⟩ := s2 n 0 w (by omega) w1 (fun c hc => by
    rw [show c = 0 by omega, w2]
    unfold lw
    rw [Int.pow_zero, Int.one_mul, Nat.sub_zero])
  have w3 : le_reckon_b1 L (170 + 6 * i) (n : Int) (p : Int) 0 (up s 31 0 1) = _ := w3
  have v3 : le_reckon_b3 L (170 + 6 * i) (n : Int) (p : Int) 1 w = _ := v3
  rw [w3, v3]
  exact s3 (2 ^ n) 0 _ (by omega) (fun k j a b => by rw [up_k a, up_k a]; exact v1 k j a b) (fun c hc => by rw [up_k (by decide), up_k (by decide)]; exact v2 c hc) (by rw [up_j (by decide), up_s]; rfl) (by rw [up_s]; rfl)
theorem md_leans_ok {i n p q : Nat} (h : Inv s) (hi : (i : Int) < s 242 16) (hpq : p + q = 10) (hp : 1 ≤ p ∧ p ≤ 9) (hn : 1 ≤ n ∧ n ≤ 12) : ∃ u, md_leans L (i : Int) (n : Int) (p : Int) s = ok L 0 u ∧ Fr 40 46 s u ∧ u 242 45 = sg (lvF (mf s) i n p q) (2 ^ n) ∧ u 242 46 = sg (lcF (mf s) i n p q) (2 ^ n) := by
  obtain ⟨m1, m2, m3⟩ := h.M
  have h12 : 2 ^ n ≤ 2 ^ 12 := Nat.pow_le_pow_right (by decide) hn.2
  have esh : iShl 1 (n : Int) = ((2 ^ n : Nat) : Int) := by rw [iShl_id rfl (by omega), Int.one_mul, p2_c]
  rw [md_leans_eq]
  have s3 : ∀ (j r : Nat) (u : hh_Sv), r + j = 2 ^ n → Fr 40 46 s u → u 242 45 = sg (lvF (mf s) i n p q) r → u 242 46 = sg (lcF (mf s) i n p q) r → ∃ w, md_leans_b1 L (i : Int) (n : Int) (p : Int) (r : Int) u = ok L 0 w ∧ Fr 40 46 s w ∧ w 242 45 = sg (lvF (mf s) i n p q) (2 ^ n) ∧ w 242 46 = sg (lcF (mf s) i n p q) (2 ^ n) := by
    intro j
    induction j with
    | zero =>
      intro r u e g p2 p3
      rw [Nat.add_zero] at e
      subst e
      refine ⟨u, ?_, g, p2, p3⟩
      rw [md_leans_b1_eq, esh, if_neg (by omega)]
    | succ j ih =>
      intro r u e g p2 p3
      have hI : Inv u := (g.q (by decide) (Or.inl (by decide))).I h
      have hr : r < 2 ^ n := by omega
      have hb := msum_bd (S := 27720) (x := r) (n := n) h hi (by omega) (by omega) (by decide)
      have hpc : pcf 32 r ≤ n := by rw [pcf_big hr (by omega)]; exact pcf_le n r
      have s1 : sg (lvF (mf s) i n p q) (r + 1) = sg (lvF (mf s) i n p q) r + lvF (mf s) i n p q r := rfl
      have s2 : sg (lcF (mf s) i n p q) (r + 1) = sg (lcF (mf s) i n p q) r + lcF (mf s) i n p q r := rfl
      obtain ⟨v, w, v1, v2, v3, v4⟩ := md_valueOf_ok (L := L) hI (i := i) (x := r) (n := n) (by rw [g _ _ (by omega)]; exact hi) hr (by omega)
      rw [g.mf] at v3 v4
      have g2 : Fr 40 46 s w := g.tr (v2.mono (by decide) (by decide))
      have q2 : w 242 45 = sg (lvF (mf s) i n p q) r := by rw [v2 _ _ (by omega)]; exact p2
      have q3 : w 242 46 = sg (lcF (mf s) i n p q) r := by rw [v2 _ _ (by omega)]; exact p3
      rw [md_leans_b1_eq, esh, if_pos (by rw [w32_id (by omega) (by omega), w32_id (by omega) (by omega)]; omega), v1, ok_bind]
      dsimp only
      by_cases em : mhas (mf s) i r n = true
      · rw [if_pos em] at v3
        rw [if_neg (by rw [v3, w32_1]; decide), md_bits_all L (by omega), ok_bind]
        dsimp only
        rw [md_power_ok ⟨by omega, by omega⟩ (by omega), ok_bind]
        dsimp only
        rw [md_bits_all L (by omega), ok_bind]
        dsimp only
        rw [show (n : Int) - ((pcf 32 r : Nat) : Int) = ((n - pcf 32 r : Nat) : Int) by omega, show (10 : Int) - (p : Int) = (q : Int) by omega, md_power_ok ⟨by omega, by omega⟩ (by omega), ok_bind]
        dsimp only
        have ev : tDiv (w64 v) 193154 = msum (mf s) 27720 i r n := by
          rw [v4 em, ms_few hn.2 em, w64_id (by omega) (by omega)]
          unfold tDiv
          rw [opq_eq, Int.mul_tdiv_cancel_left _ (by decide)]
        rw [ev]
        refine ih (r + 1) _ (by omega) ((g2.up (by decide) (by decide)).up (by decide) (by decide)) ?_ ?_
        · rw [up_j (by decide), up_s, q2, s1]
          unfold lvF
          rw [if_pos em, Int.mul_comm]
          rfl
        · rw [up_s, q3, s2]
          unfold lcF
          rw [if_pos em]
          rfl
      · rw [if_neg em] at v3
        rw [if_pos (by rw [v3]; exact w32_0)]
        refine ih (r + 1) w (by omega) g2 ?_ ?_
        · rw [q2, s1]
          unfold lvF
          rw [if_neg em, Int.add_zero]
        · rw [q3, s2]
          unfold lcF
          rw [if_neg em, Int.add_zero]
  exact s3 (2 ^ n) 0 _ (by omega) ((Fr.rf.up (by decide) (by decide)).up (by decide) (by decide)) (by rw [up_j (by decide), up_s]; rfl) (by rw [up_s]; rfl)
end
