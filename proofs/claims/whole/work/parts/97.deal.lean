/-! dealt throws, in both; deal -/
def dZ (Z : Int) : Nat → Int
  | 0 => Z
  | i + 1 => (dZ Z i * 6364136223846793005 + 1442695040888963407) % 18446744073709551616
def dbt (Z c : Int) : Bool := decide (Z / 8589934592 % 100 < c)
def aimd (rs : List Ru) (v : Nat → Int) : Nat → Int := s45 v (hdN rs v) (gdN rs v (hdN rs v))
def dV (rs : List Ru) (v : Nat → Int) (Z : Int) : Nat → Nat → Int
  | 0 => v
  | i + 1 => goN rs (aimd rs (dV rs v Z i)) (dbt (dZ Z (i + 1)) (chV rs (aimd rs (dV rs v Z i))))
def dB (rs : List Ru) (v : Nat → Int) (Z : Int) (i : Nat) : Bool := dbt (dZ Z (i + 1)) (chV rs (aimd rs (dV rs v Z i)))
theorem dZ_next {z Z : Int} {i : Nat} (h : z % 18446744073709551616 = dZ Z i) : (z * 6364136223846793005 + 1442695040888963407) % 18446744073709551616 = dZ Z (i + 1) := by
  rw [dZ, ← h]
  have e : z * 6364136223846793005 + 1442695040888963407 = (z % 18446744073709551616 * 6364136223846793005 + 1442695040888963407) + 18446744073709551616 * (z / 18446744073709551616 * 6364136223846793005) := by omega
  rw [e, Int.add_mul_emod_self_left]
theorem dZ_bd {Z : Int} (h : 0 ≤ Z ∧ Z < 18446744073709551616) : ∀ i, 0 ≤ dZ Z i ∧ dZ Z i < 18446744073709551616
  | 0 => h
  | i + 1 => by rw [dZ]; omega
theorem lU33 (a : Int) : lUshr a 33 = a % 18446744073709551616 / 8589934592 := by
  unfold lUshr
  rw [opq_eq]
  rfl
theorem w64_iff {a b : Int} : w64 a = w64 b ↔ a % 18446744073709551616 = b % 18446744073709551616 := by
  rw [w64_def, w64_def]
  constructor
  · intro h
    have h1 : Int.bmod a 18446744073709551616 % ((18446744073709551616 : Nat) : Int) = a % ((18446744073709551616 : Nat) : Int) := Int.bmod_emod
    have h2 : Int.bmod b 18446744073709551616 % ((18446744073709551616 : Nat) : Int) = b % ((18446744073709551616 : Nat) : Int) := Int.bmod_emod
    have h3 : a % ((18446744073709551616 : Nat) : Int) = b % ((18446744073709551616 : Nat) : Int) := by rw [← h1, ← h2, h]
    exact h3
  · intro h
    have h1 := Int.emod_bmod a 18446744073709551616
    have h2 := Int.emod_bmod b 18446744073709551616
    have h : a % ((18446744073709551616 : Nat) : Int) = b % ((18446744073709551616 : Nat) : Int) := h
    rw [← h1, ← h2, h]
theorem aimd_bd {rs : List Ru} {v : Nat → Int} (hok : ∀ r ∈ rs, ru_ok r) : (0 ≤ hdN rs v ∧ hdN rs v ≤ 3) ∧ 0 ≤ gdN rs v (hdN rs v) ∧ gdN rs v (hdN rs v) ≤ 3 := ⟨fo_3 (Or.inl rfl) hok, fo_3 (Or.inr rfl) hok⟩
theorem VB.aim {rs : List Ru} {v : Nat → Int} {N : Int} (hok : ∀ r ∈ rs, ru_ok r) (hN : 3 ≤ N) (hv : VB v N) : VB (aimd rs v) N := by
  obtain ⟨h1, h2⟩ := aimd_bd (v := v) hok
  exact hv.p45 (by omega) (by omega)
theorem dV_bd {rs : List Ru} {v : Nat → Int} {N Z : Int} (hok : ∀ r ∈ rs, ru_ok r) (hN : 100 ≤ N) (hv : VB v N) : ∀ i : Nat, VB (dV rs v Z i) (N + i)
  | 0 => by
    rw [dV]
    intro k hk
    have := hv k hk
    omega
  | i + 1 => by
    have ih := dV_bd (Z := Z) hok hN hv i
    rw [dV]
    intro k hk
    have := VB.go hok (b := dbt (dZ Z (i + 1)) (chV rs (aimd rs (dV rs v Z i)))) (show 100 ≤ N + (i : Int) by omega) (VB.aim hok (by omega) ih) k hk
    omega
theorem chV_bd {rs : List Ru} {v : Nat → Int} : 0 ≤ chV rs v ∧ chV rs v ≤ 100 := clp_bd _
section
variable {L : Nat} {s : hh_Sv}
theorem hx_isHit_ok {z Z c : Int} (hz : z % 18446744073709551616 = Z) (hc : 0 ≤ c ∧ c ≤ 100) : hx_isHit L z c s = ok L (((dbt Z c).toNat : Nat) : Int) s := by
  have h0 : 0 ≤ Z / 8589934592 ∧ Z / 8589934592 < 2147483648 := by omega
  rw [hx_isHit_eq, lU33, hz, w64_id (i := Z / 8589934592) (by omega) (by omega), tMod_nn h0.1 (by decide), w32_id (i := c) (by omega) (by omega)]
  unfold dbt
  by_cases e : Z / 8589934592 % 100 < c
  · rw [if_pos (lCmp_lt.mpr (by rw [w64_id (by omega) (by omega), w64_id (by omega) (by omega)]; exact e)), decide_eq_true e]
    rfl
  · rw [if_neg (fun q => by
      have := lCmp_lt.mp q
      rw [w64_id (by omega) (by omega), w64_id (by omega) (by omega)] at this
      exact e this), decide_eq_false e]
    rfl
theorem md_draws_ok {Z : Int} {i : Nat} (hz : s 242 4 % 18446744073709551616 = dZ Z i) : md_draws L s = ok L (dZ Z (i + 1) / 8589934592 % 100) (up s 242 4 (s 242 4 * 6364136223846793005 + 1442695040888963407)) := by
  have h1 := dZ_next hz
  have h0 : 0 ≤ dZ Z (i + 1) / 8589934592 ∧ dZ Z (i + 1) / 8589934592 < 2147483648 := by omega
  rw [md_draws_eq, lU33, h1, w64_id (i := dZ Z (i + 1) / 8589934592) (by omega) (by omega), tMod_nn h0.1 (by decide)]
/-- the court as it grows, in both halves at once -/
def dT (s : hh_Sv) (r n : Nat) (rs : List Ru) (v : Nat → Int) (Z : Int) : Nat → hh_Sv
  | 0 => s
  | i + 1 => adM (adC (dT s r n rs v Z i) r (n + i) (((dB rs v Z i).toNat : Nat) : Int) (hdN rs (dV rs v Z i)) (gdN rs (dV rs v Z i) (hdN rs (dV rs v Z i)))) r (n + i) (((dB rs v Z i).toNat : Nat) : Int) (hdN rs (dV rs v Z i)) (gdN rs (dV rs v Z i) (hdN rs (dV rs v Z i)))
theorem dT_ok {r n : Nat} {rs : List Ru} {v : Nat → Int} {Z : Int} (h : Inv s) (hr : (r : Int) < s 242 3) (hn : s 244 r = (n : Int)) (hok : ∀ r ∈ rs, ru_ok r) : ∀ i : Nat, n + i ≤ 24 → Inv (dT s r n rs v Z i) ∧ dT s r n rs v Z i 244 r = ((n + i : Nat) : Int) ∧ ∀ k j, ¬ (11 ≤ k ∧ k ≤ 14) → ¬ (244 ≤ k ∧ k ≤ 247) → dT s r n rs v Z i k j = s k j
  | 0, _ => ⟨h, hn, fun _ _ _ _ => rfl⟩
  | i + 1, hi => by
    obtain ⟨h1, h2, h3⟩ := dT_ok (v := v) (Z := Z) h hr hn hok i (by omega)
    obtain ⟨b1, b2⟩ := aimd_bd (v := dV rs v Z i) hok
    have hb := Bool.toNat_le (dB rs v Z i)
    refine ⟨?_, ?_, fun k j q1 q2 => ?_⟩
    · rw [dT]
      exact h1.add (by rw [h3 _ _ (by decide) (by decide)]; exact hr) h2 (by omega) (by omega) b1 b2
    · rw [dT]
      unfold adM
      rw [up_s]
      omega
    · rw [dT, adM_c q2, adC_m q1]
      exact h3 k j q1 q2
theorem adC_cg {u : hh_Sv} {r l : Nat} {b hd gd : Int} (h : ∀ k j, 11 ≤ k ∧ k ≤ 14 → u k j = s k j) : ∀ k j, 11 ≤ k ∧ k ≤ 14 → adC u r l b hd gd k j = adC s r l b hd gd k j := fun k j hk => by
  unfold adC up
  rw [h 12 r (by decide), h 13 r (by decide), h 14 r (by decide), h k j hk]
theorem adM_cg {u : hh_Sv} {r l : Nat} {b hd gd : Int} (h : ∀ k j, 244 ≤ k ∧ k ≤ 247 → u k j = s k j) : ∀ k j, 244 ≤ k ∧ k ≤ 247 → adM u r l b hd gd k j = adM s r l b hd gd k j := fun k j hk => by
  unfold adM up
  rw [h 245 r (by decide), h k j hk]
/-- the class's court, its z and what is asked have changed -/
def FD (s u : hh_Sv) : Prop := ∀ k j, k ≠ 29 → ¬ (k = 9 ∧ j = 2) → ¬ (11 ≤ k ∧ k ≤ 14) → u k j = s k j
def FE (s u : hh_Sv) : Prop := ∀ k j, k ≠ 259 → k ≠ 262 → ¬ (k = 242 ∧ j = 4) → ¬ (244 ≤ k ∧ k ≤ 247) → u k j = s k j
theorem FD.lw {u : hh_Sv} (g : FD s u) (h : iv_L s) : iv_L u := h.eqv (g _ _ (by decide) (by decide) (by decide)) (fun j => g _ _ (by decide) (by omega) (by decide)) (fun j => g _ _ (by decide) (by omega) (by decide)) (fun k j hk => g _ _ (by omega) (by omega) (by omega)) (fun k n _ _ _ => g _ _ (by omega) (by omega) (by omega)) (fun k j _ _ _ => g _ _ (by omega) (by omega) (by omega)) (fun k j _ _ _ => g _ _ (by omega) (by omega) (by omega))
theorem FE.lw {u : hh_Sv} (g : FE s u) (h : iv_L s) : iv_L u := h.eqv (g _ _ (by decide) (by decide) (by decide) (by decide)) (fun j => g _ _ (by decide) (by decide) (by omega) (by decide)) (fun j => g _ _ (by decide) (by decide) (by omega) (by decide)) (fun k j hk => g _ _ (by omega) (by omega) (by omega) (by omega)) (fun k n _ _ _ => g _ _ (by omega) (by omega) (by omega) (by omega)) (fun k j _ _ _ => g _ _ (by omega) (by omega) (by omega) (by omega)) (fun k j _ _ _ => g _ _ (by omega) (by omega) (by omega) (by omega))
theorem FD.S {t : Nat} {rs : List Ru} {u : hh_Sv} (h : iv_L s) (g : FD s u) (ht : t < 16) (hS : ru_S s t rs) : ru_S u t rs ∧ ru_q u t = ru_q s t := by
  have hc := (h.cell (t := t) (by omega)).ge
  have hq : ru_q u t = ru_q s t := ru_q_eqv (fun j => g _ _ (by decide) (by omega) (by decide)) (fun j => g _ _ (by decide) (by omega) (by decide)) (fun j => g _ _ (by decide) (by omega) (by decide)) t
  exact ⟨hS.eqv ht hq (fun a j ha => g _ _ (by omega) (by omega) (by omega)) (fun k h1 h2 => g _ _ (by omega) (by omega) (by omega)) (fun k j h1 h2 h3 => g _ _ (by omega) (by omega) (by omega)) (fun k j h1 h2 h3 => g _ _ (by omega) (by omega) (by omega)), hq⟩
theorem FE.S {t : Nat} {rs : List Ru} {u : hh_Sv} (h : iv_L s) (g : FE s u) (ht : t < 16) (hS : ru_S s t rs) : ru_S u t rs := by
  have hc := (h.cell (t := t) (by omega)).ge
  have hq : ru_q u t = ru_q s t := ru_q_eqv (fun j => g _ _ (by decide) (by decide) (by omega) (by decide)) (fun j => g _ _ (by decide) (by decide) (by omega) (by decide)) (fun j => g _ _ (by decide) (by decide) (by omega) (by decide)) t
  exact hS.eqv ht hq (fun a j ha => g _ _ (by omega) (by omega) (by omega) (by omega)) (fun k h1 h2 => g _ _ (by omega) (by omega) (by omega) (by omega)) (fun k j h1 h2 h3 => g _ _ (by omega) (by omega) (by omega) (by omega)) (fun k j h1 h2 h3 => g _ _ (by omega) (by omega) (by omega) (by omega))
theorem FA.d {u : hh_Sv} (h : FA 29 s u) : FD s u := fun k j h1 _ _ => h k j h1
theorem FD.tr {u w : hh_Sv} (h1 : FD s u) (h2 : FD u w) : FD s w := fun k j a b c => (h2 k j a b c).trans (h1 k j a b c)
theorem FM.e {u : hh_Sv} (h : FM s u) : FE s u := fun k j h1 h2 _ _ => h k j h1 h2
theorem FE.tr {u w : hh_Sv} (h1 : FE s u) (h2 : FE u w) : FE s w := fun k j a b c d => (h2 k j a b c d).trans (h1 k j a b c d)
theorem w_bool (b : Bool) : (if w32 ((b.toNat : Nat) : Int) = 0 then (0 : Int) else 1) = ((b.toNat : Nat) : Int) := by
  cases b
  · rw [if_pos bw_f]; rfl
  · rw [if_neg bw_t]; rfl
/-- the class deals -/
theorem hx_deal_lp {r n m t : Nat} {rs : List Ru} {v : Nat → Int} {Z N : Int} (h : Inv s) (hr : (r : Int) < s 242 3) (hn : s 244 r = (n : Int)) (hm : n + m ≤ 24) (ht : t < 12) (hS : ru_S s t rs) (hv : VB v N) (hN : 100 ≤ N ∧ N ≤ 1000) : ∀ (j i : Nat) (u : hh_Sv) (c : Int), i + j = m → FD s u → (∀ k j, 11 ≤ k ∧ k ≤ 14 → u k j = dT s r n rs v Z i k j) → asC u 29 (dV rs v Z i) → u 9 2 % 18446744073709551616 = dZ Z i → c = ((cnt (dB rs v Z) i : Nat) : Int) → ∃ w, hx_deal_b3 L (r : Int) (m : Int) (ru_q s t) c (i : Int) u = ok L ((cnt (dB rs v Z) m : Nat) : Int) w ∧ FD s w ∧ (∀ k j, 11 ≤ k ∧ k ≤ 14 → w k j = dT s r n rs v Z m k j) ∧ w 9 2 % 18446744073709551616 = dZ Z m := by
  have hR := h.R
  have kq := ru_kd (L := L) (h.cell (t := t) (by omega))
  intro j
  induction j with
  | zero =>
    intro i u c e g gT a gz ec
    rw [Nat.add_zero] at e
    subst e
    rw [hx_deal_b3_eq, if_neg (by omega), ec]
    exact ⟨u, rfl, g, gT, gz⟩
  | succ j ih =>
    intro i u c e g gT a gz ec
    obtain ⟨hT, hT2, hT3⟩ := dT_ok (v := v) (Z := Z) h hr hn hS.ok i (by omega)
    obtain ⟨b1, b2⟩ := aimd_bd (v := dV rs v Z i) hS.ok
    have hvb := dV_bd (Z := Z) hS.ok hN.1 hv i
    have Lu := g.lw h.lw
    obtain ⟨Su, eu⟩ := FD.S h.lw g (show t < 16 by omega) hS
    obtain ⟨p, p1, p2, p3⟩ := ru_aim_ok (L := L) Lu (show t < 16 by omega) Su as_29 (by decide) a hvb (by omega)
    rw [eu] at p1
    have ez : p 9 2 = u 9 2 := p2 _ _ (by decide)
    have hz := dZ_next gz
    have gp2 : FD s (up p 9 2 (u 9 2 * 6364136223846793005 + 1442695040888963407)) := fun k j h1 h2 h3 => by
      by_cases e9 : k = 9
      · subst e9
        rw [up_j (fun q => h2 ⟨rfl, q⟩), p2 _ _ h1]
        exact g _ _ h1 h2 h3
      · rw [up_k e9, p2 _ _ h1]
        exact g _ _ h1 h2 h3
    have a2 : asC (up p 9 2 (u 9 2 * 6364136223846793005 + 1442695040888963407)) 29 (aimd rs (dV rs v Z i)) := by
      obtain ⟨c0, c1, c2, c3, c4, c5, c6⟩ := p3
      exact ⟨by rw [up_k (by decide)]; exact c0, by rw [up_k (by decide)]; exact c1, by rw [up_k (by decide)]; exact c2, by rw [up_k (by decide)]; exact c3, by rw [up_k (by decide)]; exact c4, by rw [up_k (by decide)]; exact c5, by rw [up_k (by decide)]; exact c6⟩
    obtain ⟨S2, e2⟩ := FD.S h.lw gp2 (show t < 16 by omega) hS
    have va := VB.aim hS.ok (show 3 ≤ N + (i : Int) by omega) hvb
    have ch := ru_chanceOf_ok (L := L) (gp2.lw h.lw) (show t < 16 by omega) S2 as_29 a2 va (by omega)
    rw [e2] at ch
    have hhit := hx_isHit_ok (L := L) (s := up p 9 2 (u 9 2 * 6364136223846793005 + 1442695040888963407)) hz (chV_bd (rs := rs) (v := aimd rs (dV rs v Z i)))
    have hhit : hx_isHit L (u 9 2 * 6364136223846793005 + 1442695040888963407) (chV rs (aimd rs (dV rs v Z i))) (up p 9 2 (u 9 2 * 6364136223846793005 + 1442695040888963407)) = ok L (((dB rs v Z i).toNat : Nat) : Int) (up p 9 2 (u 9 2 * 6364136223846793005 + 1442695040888963407)) := hhit
    have gT2 : ∀ k j, 11 ≤ k ∧ k ≤ 14 → up p 9 2 (u 9 2 * 6364136223846793005 + 1442695040888963407) k j = dT s r n rs v Z i k j := fun k j hk => by
      rw [up_k (by omega), p2 _ _ (by omega)]
      exact gT k j hk
    obtain ⟨r1, r2, r3, r4, r5, r6, r7, r8, r9⟩ := hT.row (r := r) (by rw [hT3 _ _ (by decide) (by decide)]; exact hr)
    rw [hT2, Int.toNat_natCast] at r6 r7 r8 r9
    have r2 : dT s r n rs v Z i 11 r = dT s r n rs v Z i 244 r := r2
    have r3 : dT s r n rs v Z i 12 r = dT s r n rs v Z i 245 r := r3
    have r7 : dT s r n rs v Z i 13 r = _ := r7
    have r8 : dT s r n rs v Z i 14 r = _ := r8
    have q13 := pk_bd (f := fun k => dT s r n rs v Z i 246 (24 * r + k)) (n := n + i) (fun k hk => (r9 k hk).1)
    have q14 := pk_bd (f := fun k => dT s r n rs v Z i 247 (24 * r + k)) (n := n + i) (fun k hk => (r9 k hk).2)
    have add := co_addThrow_ok (L := L) (s := up p 9 2 (u 9 2 * 6364136223846793005 + 1442695040888963407)) (r := r) (l := n + i) (a2 := (((dB rs v Z i).toNat : Nat) : Int)) (hd := hdN rs (dV rs v Z i)) (gd := gdN rs (dV rs v Z i) (hdN rs (dV rs v Z i))) (by omega) (by rw [gT2 _ _ (by decide), r2, hT2]) (by omega) (by rw [gT2 _ _ (by decide), r3]; exact r6) (by rw [gT2 _ _ (by decide), r7]; exact q13) (by rw [gT2 _ _ (by decide), r8]; exact q14) b1 b2
    rw [w_bool] at add
    generalize hX : adC (up p 9 2 (u 9 2 * 6364136223846793005 + 1442695040888963407)) r (n + i) (((dB rs v Z i).toNat : Nat) : Int) (hdN rs (dV rs v Z i)) (gdN rs (dV rs v Z i) (hdN rs (dV rs v Z i))) = X at add
    have gX0 : ∀ k j, ¬ (11 ≤ k ∧ k ≤ 14) → X k j = up p 9 2 (u 9 2 * 6364136223846793005 + 1442695040888963407) k j := fun k j hk => by rw [← hX]; exact adC_m hk
    have gX : FD s X := fun k j h1 h2 h3 => by
      rw [gX0 k j h3]
      exact gp2 k j h1 h2 h3
    have gXT : ∀ k j, 11 ≤ k ∧ k ≤ 14 → X k j = dT s r n rs v Z (i + 1) k j := fun k j hk => by
      rw [← hX, adC_cg gT2 k j hk, dT, adM_c (by omega)]
    have aX : asC X 29 (aimd rs (dV rs v Z i)) := by
      obtain ⟨c0, c1, c2, c3, c4, c5, c6⟩ := a2
      exact ⟨by rw [gX0 _ _ (by decide)]; exact c0, by rw [gX0 _ _ (by decide)]; exact c1, by rw [gX0 _ _ (by decide)]; exact c2, by rw [gX0 _ _ (by decide)]; exact c3, by rw [gX0 _ _ (by decide)]; exact c4, by rw [gX0 _ _ (by decide)]; exact c5, by rw [gX0 _ _ (by decide)]; exact c6⟩
    obtain ⟨S3, e3⟩ := FD.S h.lw gX (show t < 16 by omega) hS
    obtain ⟨y, y1, y2, y3⟩ := ru_goOn_ok (L := L) (b := dB rs v Z i) (gX.lw h.lw) (show t < 16 by omega) S3 as_29 (by decide) aX va (by omega)
    rw [e3] at y1
    have f5 : up p 9 2 (u 9 2 * 6364136223846793005 + 1442695040888963407) 29 5 = hdN rs (dV rs v Z i) := a2.2.2.2.2.1
    have f6 : up p 9 2 (u 9 2 * 6364136223846793005 + 1442695040888963407) 29 6 = gdN rs (dV rs v Z i) (hdN rs (dV rs v Z i)) := a2.2.2.2.2.2.1
    have hnext := ih (i + 1) y (c + (((dB rs v Z i).toNat : Nat) : Int)) (by omega) (gX.tr y2.d) (fun k j hk => by rw [y2 _ _ (by omega)]; exact gXT k j hk) y3 (by rw [y2 _ _ (by decide), gX0 _ _ (by decide), up_s]; exact hz) (by rw [ec, cnt]; omega)
    rw [hx_deal_b3_eq, if_pos (by rw [w32_id (by omega) (by omega), w32_id (by omega) (by omega)]; omega), if_pos kq, p1, ok_bind]
    dsimp only
    rw [hx_drawn_eq, ok_bind, if_pos kq, ez]
    dsimp only
    rw [ch, ok_bind]
    dsimp only
    rw [hhit, ok_bind]
    dsimp only
    rw [f5, f6, add, ok_bind, if_pos kq]
    dsimp only
    rw [y1, ok_bind]
    dsimp only
    cases hb : dB rs v Z i
    · rw [hb] at hnext
      rw [if_pos bw_f, hx_deal_b5_eq]
      exact hnext
    · rw [hb] at hnext
      rw [if_neg bw_t, hx_deal_b5_eq]
      exact hnext
end
