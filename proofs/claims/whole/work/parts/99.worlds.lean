/-! worlds -/
def wX (rs : List Ru) (Z : Int) : Nat → Nat
  | 0 => 0
  | k + 1 => wX rs Z k + (dB rs (fun _ => 0) Z k).toNat * 2 ^ k
theorem wX_lt {rs : List Ru} {Z : Int} : ∀ k, wX rs Z k < 2 ^ k
  | 0 => by rw [wX]; decide
  | k + 1 => by
    have ih := wX_lt (rs := rs) (Z := Z) k
    have hb := Bool.toNat_le (dB rs (fun _ => 0) Z k)
    have h2 : (dB rs (fun _ => 0) Z k).toNat * 2 ^ k ≤ 1 * 2 ^ k := Nat.mul_le_mul_right _ hb
    rw [wX, Nat.pow_succ]
    omega
theorem wX_or {rs : List Ru} {Z : Int} {k : Nat} (hk : k < 24) : bOr ((wX rs Z k : Nat) : Int) ((((dB rs (fun _ => 0) Z k).toNat * 2 ^ k : Nat) : Int)) = ((wX rs Z (k + 1) : Nat) : Int) := by
  have h1 := wX_lt (rs := rs) (Z := Z) k
  have h2 := p2_24 (show k ≤ 24 by omega)
  have hb := Bool.toNat_le (dB rs (fun _ => 0) Z k)
  have h3 : (dB rs (fun _ => 0) Z k).toNat * 2 ^ k ≤ 1 * 2 ^ k := Nat.mul_le_mul_right _ hb
  rw [bOr_nat (by omega) (by omega), Nat.or_comm, Nat.mul_comm, ← Nat.two_pow_add_eq_or_of_lt h1, wX, Nat.mul_comm, Nat.add_comm]
def wZ (n : Nat) (Z : Int) : Nat → Int
  | 0 => Z
  | w + 1 => dZ (wZ n Z w) n
noncomputable def wvF (M : Nat → Nat → Int) (rs : List Ru) (i n : Nat) (Z : Int) (w : Nat) : Int := if mhas M i (wX rs (wZ n Z w) n) n = true then msum M 5354228880 i (wX rs (wZ n Z w) n) n else 0
noncomputable def wcF (M : Nat → Nat → Int) (rs : List Ru) (i n : Nat) (Z : Int) (w : Nat) : Int := if mhas M i (wX rs (wZ n Z w) n) n = true then 1 else 0
section
variable {L : Nat} {s : hh_Sv}
theorem wcF_bd {M : Nat → Nat → Int} {rs : List Ru} {i n : Nat} {Z : Int} (m : Nat) : 0 ≤ sg (wcF M rs i n Z) m ∧ sg (wcF M rs i n Z) m ≤ m := by
  have a := sg_nn (f := wcF M rs i n Z) (n := m) (fun k _ => by unfold wcF; split <;> omega)
  have b := sg_le (f := wcF M rs i n Z) (c := 1) (n := m) (fun k _ => by unfold wcF; split <;> omega)
  omega
theorem wvF_bd {rs : List Ru} {i n : Nat} {Z : Int} (h : Inv s) (hi : (i : Int) < s 242 16) (hn : n ≤ 24) (m : Nat) : -(2000000000000 * (m : Int)) ≤ sg (wvF (mf s) rs i n Z) m ∧ sg (wvF (mf s) rs i n Z) m ≤ 2000000000000 * (m : Int) := by
  refine sg_abs (fun k hk => ?_)
  have hb := ms_big h hi (wX_lt (rs := rs) (Z := wZ n Z k) n) hn
  unfold wvF
  split <;> omega
/-- what worlds answers -/
noncomputable def wAns (a5 V C : Int) : Int := if a5 = 2 then C else if C = 0 then -1000000000000 else frc V (5354228880 * C) a5
theorem hx_worlds_lp {t n m i : Nat} {rs : List Ru} {a5 Z0 : Int} (h : Inv s) (ht : t < 12) (hS : ru_S s t rs) (hi : (i : Int) < s 242 16) (hn : 1 ≤ n ∧ n ≤ 24) (hm : m ≤ 60) (h5 : I32 a5) (hZ : 0 ≤ Z0 ∧ Z0 < 18446744073709551616) : ∀ (j w : Nat) (u : hh_Sv) (z : Int), w + j = m → FA 29 s u → z % 18446744073709551616 = wZ n Z0 w → ∃ y, hx_worlds_b3 L (t : Int) (n : Int) (m : Int) (i : Int) a5 z (sg (wvF (mf s) rs i n Z0) w) (sg (wcF (mf s) rs i n Z0) w) (w : Int) u = ok L (wAns a5 (sg (wvF (mf s) rs i n Z0) m) (sg (wcF (mf s) rs i n Z0) m)) y ∧ FA 29 s y := by
  have hM := h.M
  obtain ⟨k1, k2, -⟩ := me_shL (L := L) (i := i) (by omega)
  have kq := ru_kd (L := L) (h.cell (t := t) (by omega))
  have eq : ru_q s t = (s 16 t).toNat := by unfold ru_q; rw [if_pos ht]
  have hin : (0 : Int) ≤ (t : Int) ∧ (t : Int) < 12 := by omega
  have v0 : VB (fun _ => 0) 100 := fun k _ => by show (0 : Int) ≤ 0 ∧ (0 : Int) ≤ 100; omega
  have inner : ∀ (Z V C w : Int) (j k : Nat) (u : hh_Sv) (z : Int), k + j = n → FA 29 s u → asC u 29 (dV rs (fun _ => 0) Z k) → z % 18446744073709551616 = dZ Z k → ∃ u' z', FA 29 s u' ∧ z' % 18446744073709551616 = dZ Z n ∧ hx_worlds_b4 L (t : Int) (n : Int) (m : Int) (i : Int) a5 z V C w ((wX rs Z k : Nat) : Int) (k : Int) u = hx_worlds_b4 L (t : Int) (n : Int) (m : Int) (i : Int) a5 z' V C w ((wX rs Z n : Nat) : Int) (n : Int) u' := by
    intro Z V C w j
    induction j with
    | zero =>
      intro k u z e g a gz
      rw [Nat.add_zero] at e
      subst e
      exact ⟨u, z, g, gz, rfl⟩
    | succ j ih =>
      intro k u z e g a gz
      have hvb := dV_bd (Z := Z) hS.ok (by decide) v0 k
      have gq := g.q (by decide)
      obtain ⟨Su, eu⟩ := hS.q h.lw gq (show t < 16 by omega)
      obtain ⟨p, p1, p2, p3⟩ := ru_aim_ok (L := L) (gq.lw h.lw) (show t < 16 by omega) Su as_29 (by decide) a hvb (by omega)
      rw [eu] at p1
      have gp := g.tr p2
      have pq := gp.q (by decide)
      obtain ⟨Sp, ep⟩ := hS.q h.lw pq (show t < 16 by omega)
      have p3 : asC p 29 (aimd rs (dV rs (fun _ => 0) Z k)) := p3
      have va := VB.aim hS.ok (show (3 : Int) ≤ 100 + (k : Int) by omega) hvb
      have ch := ru_chanceOf_ok (L := L) (pq.lw h.lw) (show t < 16 by omega) Sp as_29 p3 va (by omega)
      rw [ep] at ch
      have hz := dZ_next gz
      have hhit : hx_isHit L (z * 6364136223846793005 + 1442695040888963407) (chV rs (aimd rs (dV rs (fun _ => 0) Z k))) p = ok L (((dB rs (fun _ => 0) Z k).toNat : Nat) : Int) p := hx_isHit_ok hz chV_bd
      obtain ⟨y, y1, y2, y3⟩ := ru_goOn_ok (L := L) (b := dB rs (fun _ => 0) Z k) (pq.lw h.lw) (show t < 16 by omega) Sp as_29 (by decide) p3 va (by omega)
      rw [ep] at y1
      obtain ⟨u', z', q1, q2, q3⟩ := ih (k + 1) y (z * 6364136223846793005 + 1442695040888963407) (by omega) (gp.tr y2) y3 hz
      refine ⟨u', z', q1, q2, ?_⟩
      rw [← q3, hx_worlds_b4_eq, if_pos (by rw [w32_id (by omega) (by omega), w32_id (by omega) (by omega)]; omega), if_pos hin, Int.toNat_natCast, g _ _ (by decide), ← eq, if_pos kq, p1, ok_bind]
      dsimp only
      rw [hx_drawn_eq, ok_bind, if_pos hin]
      dsimp only
      have ek : (p 16 t).toNat = ru_q s t := by rw [gp _ _ (by decide), ← eq]
      rw [if_pos (by rw [ek]; exact kq), ek, ch, ok_bind]
      dsimp only
      rw [hhit, ok_bind]
      dsimp only
      have b6 : ∀ b : Int, b = (((dB rs (fun _ => 0) Z k).toNat * 2 ^ k : Nat) : Int) → hx_worlds_b6 L (t : Int) (n : Int) (m : Int) (i : Int) a5 (z * 6364136223846793005 + 1442695040888963407) V C w (k : Int) (((dB rs (fun _ => 0) Z k).toNat : Nat) : Int) ((wX rs Z k : Nat) : Int) b p = hx_worlds_b4 L (t : Int) (n : Int) (m : Int) (i : Int) a5 (z * 6364136223846793005 + 1442695040888963407) V C w ((wX rs Z (k + 1) : Nat) : Int) ((k : Int) + 1) y := fun b hb => by
        rw [hx_worlds_b6_eq, if_pos hin, Int.toNat_natCast, gp _ _ (by decide), ← eq, if_pos kq, y1, ok_bind, hb, wX_or (by omega)]
      cases hb : dB rs (fun _ => 0) Z k
      · rw [hb] at b6
        rw [if_pos bw_f]
        exact b6 0 (by show (0 : Int) = ((0 * 2 ^ k : Nat) : Int); rw [Nat.zero_mul]; rfl)
      · rw [hb] at b6
        rw [if_neg bw_t]
        exact b6 _ (by rw [iShl_id rfl (by omega)]; show (1 : Int) * 2 ^ k = ((1 * 2 ^ k : Nat) : Int); rw [Nat.one_mul, p2_c, Int.one_mul])
  have hC := wcF_bd (M := mf s) (rs := rs) (i := i) (n := n) (Z := Z0) m
  have hV := wvF_bd (rs := rs) (n := n) (Z := Z0) h hi hn.2 m
  intro j
  induction j with
  | zero =>
    intro w u z e g gz
    rw [Nat.add_zero] at e
    subst e
    rw [hx_worlds_b3_eq, if_neg (by omega), h5.w, w32_id (i := sg (wcF (mf s) rs i n Z0) w) (by omega) (by omega)]
    unfold wAns
    by_cases e5 : a5 = 2
    · rw [if_pos e5, if_pos e5]
      exact ⟨u, rfl, g⟩
    · rw [if_neg e5, if_neg e5]
      by_cases e0 : sg (wcF (mf s) rs i n Z0) w = 0
      · rw [if_pos e0, if_pos e0]
        exact ⟨u, rfl, g⟩
      · rw [if_neg e0, if_neg e0, hx_part_ok (by omega) (by omega) h5, ok_bind]
        exact ⟨u, rfl, g⟩
  | succ j ih =>
    intro w u z e g gz
    obtain ⟨c, c1, c2, c3⟩ := as_clear_ok (L := L) (s := u) as_29 (by decide)
    obtain ⟨u', z', q1, q2, q3⟩ := inner (wZ n Z0 w) (sg (wvF (mf s) rs i n Z0) w) (sg (wcF (mf s) rs i n Z0) w) (w : Int) n 0 c z (by omega) (g.tr c2) c3 gz
    have q3 : hx_worlds_b4 L (t : Int) (n : Int) (m : Int) (i : Int) a5 z (sg (wvF (mf s) rs i n Z0) w) (sg (wcF (mf s) rs i n Z0) w) (w : Int) 0 0 c = _ := q3
    have hI := (q1.q (by decide)).I h
    have hb := ms_big h hi (wX_lt (rs := rs) (Z := wZ n Z0 w) n) hn.2
    have emf : mf u' = mf s := by
      funext a b
      exact q1 _ _ (by omega)
    have s1 : sg (wvF (mf s) rs i n Z0) (w + 1) = sg (wvF (mf s) rs i n Z0) w + wvF (mf s) rs i n Z0 w := rfl
    have s2 : sg (wcF (mf s) rs i n Z0) (w + 1) = sg (wcF (mf s) rs i n Z0) w + wcF (mf s) rs i n Z0 w := rfl
    have hnx := ih (w + 1) u' z' (by omega) q1 q2
    rw [s1, s2] at hnx
    rw [hx_worlds_b3_eq, if_pos (by rw [w32_id (by omega) (by omega), w32_id (by omega) (by omega)]; omega), c1, ok_bind]
    dsimp only
    rw [q3, hx_worlds_b4_eq, if_neg (by omega), if_pos (by omega), Int.toNat_natCast, k2, if_pos k1, me_reckon_ok hI (by rw [q1 _ _ (by decide)]; exact hi) (wX_lt n) hn.2 (by decide), ok_bind, emf]
    dsimp only
    by_cases em : mhas (mf s) i (wX rs (wZ n Z0 w) n) n = true
    · have e1 : wvF (mf s) rs i n Z0 w = msum (mf s) 5354228880 i (wX rs (wZ n Z0 w) n) n := by unfold wvF; rw [if_pos em]
      have e2 : wcF (mf s) rs i n Z0 w = 1 := by unfold wcF; rw [if_pos em]
      rw [e1, e2] at hnx
      rw [if_pos em, if_neg (nv_ne (by omega))]
      exact hnx
    · have e1 : wvF (mf s) rs i n Z0 w = 0 := by unfold wvF; rw [if_neg em]
      have e2 : wcF (mf s) rs i n Z0 w = 0 := by unfold wcF; rw [if_neg em]
      rw [e1, e2, Int.add_zero, Int.add_zero] at hnx
      rw [if_neg em, if_pos nv_eq]
      exact hnx
/-- the reference's worlds -/
def FW (s u : hh_Sv) : Prop := ∀ k j, k ≠ 259 → k ≠ 262 → ¬ (k = 242 ∧ (j = 4 ∨ (40 ≤ j ∧ j ≤ 42))) → u k j = s k j
theorem FW.tr {u w : hh_Sv} (h1 : FW s u) (h2 : FW u w) : FW s w := fun k j a b c => (h2 k j a b c).trans (h1 k j a b c)
theorem FM.w {u : hh_Sv} (h : FM s u) : FW s u := fun k j a b _ => h k j a b
theorem FW.lw {u : hh_Sv} (g : FW s u) (h : iv_L s) : iv_L u := h.eqv (g _ _ (by decide) (by decide) (by decide)) (fun j => g _ _ (by decide) (by decide) (by omega)) (fun j => g _ _ (by decide) (by decide) (by omega)) (fun k j hk => g _ _ (by omega) (by omega) (by omega)) (fun k n _ _ _ => g _ _ (by omega) (by omega) (by omega)) (fun k j _ _ _ => g _ _ (by omega) (by omega) (by omega)) (fun k j _ _ _ => g _ _ (by omega) (by omega) (by omega))
theorem FW.mm {u : hh_Sv} (g : FW s u) (h : iv_M s) : iv_M u := h.eqv (g _ _ (by decide) (by decide) (by decide)) (g _ _ (by decide) (by decide) (by decide)) (fun k j _ _ => g _ _ (by omega) (by omega) (by omega)) (fun j _ => g _ _ (by decide) (by decide) (by omega)) (fun k j _ _ _ => g _ _ (by omega) (by omega) (by omega))
theorem FW.S {t : Nat} {rs : List Ru} {u : hh_Sv} (h : iv_L s) (g : FW s u) (ht : t < 16) (hS : ru_S s t rs) : ru_S u t rs := by
  have hc := (h.cell (t := t) (by omega)).ge
  have hq : ru_q u t = ru_q s t := ru_q_eqv (fun j => g _ _ (by decide) (by decide) (by omega)) (fun j => g _ _ (by decide) (by decide) (by omega)) (fun j => g _ _ (by decide) (by decide) (by omega)) t
  exact hS.eqv ht hq (fun a j ha => g _ _ (by omega) (by omega) (by omega)) (fun k h1 h2 => g _ _ (by omega) (by omega) (by omega)) (fun k j h1 h2 h3 => g _ _ (by omega) (by omega) (by omega)) (fun k j h1 h2 h3 => g _ _ (by omega) (by omega) (by omega))
end
