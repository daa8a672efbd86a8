/-! what is asked, and how a law answers, in both -/
def s45 (v : Nat → Int) (h g : Int) : Nat → Int := fun k => if k = 4 then h else if k = 5 then g else v k
theorem s45_s45 {v : Nat → Int} {a b h g : Int} : s45 (s45 v a b) h g = s45 v h g := by
  funext k
  unfold s45
  by_cases e : k = 4
  · rw [if_pos e, if_pos e]
  · rw [if_neg e, if_neg e, if_neg e]
    by_cases e2 : k = 5
    · rw [if_pos e2, if_pos e2]
    · rw [if_neg e2, if_neg e2, if_neg e2]
theorem s45_id {v : Nat → Int} : s45 v (v 4) (v 5) = v := by
  funext k
  unfold s45
  by_cases e : k = 4
  · rw [if_pos e, e]
  · rw [if_neg e]
    by_cases e2 : k = 5
    · rw [if_pos e2, e2]
    · rw [if_neg e2]
def adv (v : Nat → Int) (b : Bool) : Nat → Int := fun k => if k = 0 then (if b = true then v 0 + 1 else 0) else if k = 1 then (if b = true then 0 else v 1 + 1) else if k = 3 then v 3 + 1 else if k = 6 then v 6 + ((b.toNat : Nat) : Int) else v k
def st2 (v : Nat → Int) (x : Int) : Nat → Int := fun k => if k = 2 then x else v k
def hdN (rs : List Ru) (v : Nat → Int) : Int := fo (s45 v 0 0) 1 0 rs
def gdN (rs : List Ru) (v : Nat → Int) (h : Int) : Int := fo (s45 v h 0) 2 0 rs
def clp (x : Int) : Int := if 0 < (if x < 100 then x else 100) then (if x < 100 then x else 100) else 0
def chV (rs : List Ru) (v : Nat → Int) : Int := clp (fo v 0 50 rs - ((ru_l 6 rs : Nat) : Int) * v 4 - ((ru_l 7 rs : Nat) : Int) * v 5)
/-- behind a throw; v has its hard and guards -/
def goN (rs : List Ru) (v : Nat → Int) (b : Bool) : Nat → Int := st2 (adv v b) (fo (adv v b) 3 (v 2) rs)
theorem ru_l_le {k : Nat} : ∀ {rs : List Ru}, (∀ r ∈ rs, ru_ok r) → ru_l k rs ≤ 100
  | [], _ => by rw [ru_l]; omega
  | r :: l, h => by
    rw [ru_l]
    have h1 := (h r List.mem_cons_self).2.1
    have h2 := ru_l_le (k := k) (rs := l) (fun x hx => h x (List.mem_cons_of_mem _ hx))
    split
    · exact h1
    · exact h2
theorem fo_3 {v : Nat → Int} {k : Nat} (hk : k = 1 ∨ k = 2) : ∀ {rs : List Ru}, (∀ r ∈ rs, ru_ok r) → 0 ≤ fo v k 0 rs ∧ fo v k 0 rs ≤ 3
  | [], _ => by rw [fo]; omega
  | r :: l, h => by
    rw [fo]
    have h1 := (h r List.mem_cons_self).2.2.2.2.2
    have h2 := fo_3 (v := v) hk (rs := l) (fun x hx => h x (List.mem_cons_of_mem _ hx))
    split
    next q =>
      have := h1 (by omega)
      omega
    · exact h2
theorem clp_bd (x : Int) : 0 ≤ clp x ∧ clp x ≤ 100 := by
  unfold clp
  (repeat' split) <;> omega
theorem VB.p45 {v : Nat → Int} {N h g : Int} (hv : VB v N) (h1 : 0 ≤ h ∧ h ≤ N) (h2 : 0 ≤ g ∧ g ≤ N) : VB (s45 v h g) N := fun k hk => by
  unfold s45
  split
  · exact h1
  · split
    · exact h2
    · exact hv k hk
theorem VB.padv {v : Nat → Int} {N : Int} {b : Bool} (hv : VB v N) : VB (adv v b) (N + 1) := fun k hk => by
  have h0 := hv 0 (by decide)
  have h1 := hv 1 (by decide)
  have h3 := hv 3 (by decide)
  have h6 := hv 6 (by decide)
  have hkk := hv k hk
  unfold adv
  cases b
  · (repeat' split) <;> first | omega | (rename_i q; exact absurd q (by decide)) | (show 0 ≤ v 6 + 0 ∧ v 6 + 0 ≤ N + 1; omega)
  · (repeat' split) <;> first | omega | (rename_i q; exact absurd rfl q) | (show 0 ≤ v 6 + 1 ∧ v 6 + 1 ≤ N + 1; omega)
theorem VB.go {rs : List Ru} {v : Nat → Int} {N : Int} {b : Bool} (hok : ∀ r ∈ rs, ru_ok r) (hN : 100 ≤ N) (hv : VB v N) : VB (goN rs v b) (N + 1) := fun k hk => by
  unfold goN st2
  split
  · have h2 := hv 2 (by decide)
    exact fo_bd (by omega) (by omega) hok
  · exact VB.padv hv k hk
section
variable {L : Nat} {s : hh_Sv}
def FA (A : Nat) (s u : hh_Sv) : Prop := ∀ k j, k ≠ A → u k j = s k j
def FM (s u : hh_Sv) : Prop := ∀ k j, k ≠ 259 → k ≠ 262 → u k j = s k j
theorem FA.rf {A : Nat} : FA A s s := fun _ _ _ => rfl
theorem FM.rf : FM s s := fun _ _ _ _ => rfl
theorem FA.tr {A : Nat} {u v : hh_Sv} (h1 : FA A s u) (h2 : FA A u v) : FA A s v := fun k j h => (h2 k j h).trans (h1 k j h)
theorem FM.tr {u v : hh_Sv} (h1 : FM s u) (h2 : FM u v) : FM s v := fun k j h h' => (h2 k j h h').trans (h1 k j h h')
theorem FA.up {A j : Nat} {u : hh_Sv} {w : Int} (h : FA A s u) : FA A s (up u A j w) := fun k i hn => by
  rw [up_k hn]
  exact h k i hn
theorem FM.up {j : Nat} {u : hh_Sv} {w : Int} (h : FM s u) : FM s (up u 262 j w) := fun k i h1 h2 => by
  rw [up_k h2]
  exact h k i h1 h2
theorem FA.q {A : Nat} {u : hh_Sv} (h : FA A s u) (hA : 26 ≤ A ∧ A ≤ 71) : Eqh s u := fun k j hn => h k j (fun e => hn (by subst e; exact ⟨by unfold scr; omega, by omega, by omega⟩))
theorem FM.q {u : hh_Sv} (h : FM s u) : Eqh s u := fun k j hn => h k j (fun e => hn (by subst e; exact ⟨by unfold scr; omega, by decide, by omega⟩)) (fun e => hn (by subst e; exact ⟨by unfold scr; omega, by decide, by omega⟩))
theorem F9.m {u : hh_Sv} (h : F9 s u) : FM s u := fun k j h1 _ => h k j h1
theorem Inv.lw (h : Inv s) : iv_L s := h.1.2.2.2.1
theorem iv_L.cell (h : iv_L s) {t : Nat} (ht : t < 17) : ru_cell (ru_q s t) := h.2.2.2.1 t ht
theorem iv_L.law (h : iv_L s) {t : Nat} (ht : t < 16) : ∃ rs, ru_S s t rs := h.2.2.2.2.2 t ht
theorem Inv.cell (h : Inv s) {t : Nat} (ht : t < 17) : ru_cell (ru_q s t) := h.lw.cell ht
theorem Inv.law (h : Inv s) {t : Nat} (ht : t < 16) : ∃ rs, ru_S s t rs := h.lw.law ht
theorem Eqh.lw {u : hh_Sv} (e : Eqh s u) (h : iv_L s) : iv_L u := h.eqv (e _ _ (by unfold scr2 scr; omega)) (fun j => e _ _ (by unfold scr2 scr; omega)) (fun j => e _ _ (by unfold scr2 scr; omega)) (fun k j _ => e _ _ (by unfold scr2 scr; omega)) (fun k n _ _ _ => e _ _ (by unfold scr2 scr; omega)) (fun k j _ _ _ => e _ _ (by unfold scr2 scr; omega)) (fun k j _ _ _ => e _ _ (by unfold scr2 scr; omega))
theorem ru_S.q {t : Nat} {rs : List Ru} {u : hh_Sv} (h : iv_L s) (e : Eqh s u) (ht : t < 16) (hS : ru_S s t rs) : ru_S u t rs ∧ ru_q u t = ru_q s t := by
  have hc := (h.cell (t := t) (by omega)).ge
  have hq : ru_q u t = ru_q s t := ru_q_eqv (fun j => e _ _ (by unfold scr2 scr; omega)) (fun j => e _ _ (by unfold scr2 scr; omega)) (fun j => e _ _ (by unfold scr2 scr; omega)) t
  exact ⟨hS.eqv ht hq (fun a j ha => e _ _ (by unfold scr2 scr; omega)) (fun k h1 h2 => e _ _ (by unfold scr2 scr; omega)) (fun k j h1 h2 h3 => e _ _ (by unfold scr2 scr; omega)) (fun k j h1 h2 h3 => e _ _ (by unfold scr2 scr; omega)), hq⟩
theorem ru_S.ok {t : Nat} {rs : List Ru} (hS : ru_S s t rs) : ∀ r ∈ rs, ru_ok r := fun r hr => (hS.2.1 r hr).1
theorem cl_first {A t k : Nat} {rs : List Ru} {v : Nat → Int} {N d : Int} (h : iv_L s) (ht : t < 16) (hS : ru_S s t rs) (hA : kd L A = 20) (ha : asC s A v) (hv : VB v N) (hN : N < 2147483648) (hk : k ≤ 7) : ru_firstOf L (ru_q s t) (ru_k k) A d s = ok L (fo v k d rs) s :=
  ru_firstOf_ok (h.cell (by omega)) hA hS.2.2.2.1 hS.1 hS.2.2.1 hS.ok ha hv hN hk
theorem mo_first {t k : Nat} {rs : List Ru} {v : Nat → Int} {N d : Int} (ht : t < 16) (hS : ru_S s t rs) (ha : asM s v) (hv : VB v N) (hN : N < 2147483648) (hk : k ≤ 5) : ∃ u, md_first L (t : Int) (k : Int) d s = ok L (fo v k d rs) u ∧ F9 s u := by
  rw [← fo_f hk rs]
  refine md_first_ok ht hS.2.2.2.2.1 (Nat.le_trans (List.length_filter_le _ _) hS.1) (by rw [ru_f_at rs hS.ok]; exact hS.2.2.1) (fun r hr => hS.ok r (List.mem_filter.mp hr).1) ha hv hN (by omega)
/-! the class -/
theorem asC.up5 {A : Nat} {v : Nat → Int} {x : Int} (h : asC s A v) : asC (up s A 5 x) A (s45 v x (v 5)) := by
  obtain ⟨a0, a1, a2, a3, a4, a5, a6⟩ := h
  exact ⟨by rw [up_j (by decide), a0]; rfl, by rw [up_j (by decide), a1]; rfl, by rw [up_j (by decide), a2]; rfl, by rw [up_j (by decide), a3]; rfl, by rw [up_s]; rfl, by rw [up_j (by decide), a5]; rfl, by rw [up_j (by decide), a6]; rfl⟩
theorem asC.up6 {A : Nat} {v : Nat → Int} {x : Int} (h : asC s A v) : asC (up s A 6 x) A (s45 v (v 4) x) := by
  obtain ⟨a0, a1, a2, a3, a4, a5, a6⟩ := h
  exact ⟨by rw [up_j (by decide), a0]; rfl, by rw [up_j (by decide), a1]; rfl, by rw [up_j (by decide), a2]; rfl, by rw [up_j (by decide), a3]; rfl, by rw [up_j (by decide), a4]; rfl, by rw [up_s]; rfl, by rw [up_j (by decide), a6]; rfl⟩
theorem asC.up2 {A : Nat} {v : Nat → Int} {x : Int} (h : asC s A v) : asC (up s A 2 x) A (st2 v x) := by
  obtain ⟨a0, a1, a2, a3, a4, a5, a6⟩ := h
  exact ⟨by rw [up_j (by decide), a0]; rfl, by rw [up_j (by decide), a1]; rfl, by rw [up_s]; rfl, by rw [up_j (by decide), a3]; rfl, by rw [up_j (by decide), a4]; rfl, by rw [up_j (by decide), a5]; rfl, by rw [up_j (by decide), a6]; rfl⟩
theorem ru_aim_ok {A t : Nat} {rs : List Ru} {v : Nat → Int} {N : Int} (h : iv_L s) (ht : t < 16) (hS : ru_S s t rs) (hA : kd L A = 20) (hA2 : 26 ≤ A ∧ A ≤ 71) (ha : asC s A v) (hv : VB v N) (hN : 3 ≤ N ∧ N < 2147483648) : ∃ u, ru_aim L (ru_q s t) A s = ok L 0 u ∧ FA A s u ∧ asC u A (s45 v (hdN rs v) (gdN rs v (hdN rs v))) := by
  have h8 : 8 ≤ A := by omega
  have kq := ru_kd (L := L) (h.cell (t := t) (by omega))
  have b1 : 0 ≤ hdN rs v ∧ hdN rs v ≤ 3 := fo_3 (Or.inl rfl) hS.ok
  have g1 : FA A s (up (up s A 5 0) A 6 0) := FA.rf.up.up
  have a1 : asC (up (up s A 5 0) A 6 0) A (s45 v 0 0) := by
    have := (ha.up5 (x := 0)).up6 (x := 0)
    rw [s45_s45] at this
    exact this
  have q1 := g1.q hA2
  obtain ⟨S1, e1⟩ := hS.q h q1 ht
  have f1 : ru_firstOf L (ru_q s t) 3 A 0 (up (up s A 5 0) A 6 0) = ok L (hdN rs v) (up (up s A 5 0) A 6 0) := by
    rw [← e1]
    exact cl_first (k := 1) (q1.lw h) ht S1 hA a1 (hv.p45 (by omega) (by omega)) hN.2 (by decide)
  have g2 : FA A s (up (up (up s A 5 0) A 6 0) A 5 (hdN rs v)) := g1.up
  have a2 : asC (up (up (up s A 5 0) A 6 0) A 5 (hdN rs v)) A (s45 v (hdN rs v) 0) := by
    have := a1.up5 (x := hdN rs v)
    rw [s45_s45] at this
    exact this
  have q2 := g2.q hA2
  obtain ⟨S2, e2⟩ := hS.q h q2 ht
  have f2 : ru_firstOf L (ru_q s t) 4 A 0 (up (up (up s A 5 0) A 6 0) A 5 (hdN rs v)) = ok L (gdN rs v (hdN rs v)) (up (up (up s A 5 0) A 6 0) A 5 (hdN rs v)) := by
    rw [← e2]
    exact cl_first (k := 2) (q2.lw h) ht S2 hA a2 (hv.p45 (by omega) (by omega)) hN.2 (by decide)
  refine ⟨up (up (up (up s A 5 0) A 6 0) A 5 (hdN rs v)) A 6 (gdN rs v (hdN rs v)), ?_, g2.up, ?_⟩
  · rw [ru_aim_eq, if_pos hA, if_pos h8, if_pos hA, if_pos h8, if_pos kq, f1, ok_bind]
    dsimp only
    rw [if_pos hA, if_pos h8, if_pos kq, f2, ok_bind]
    dsimp only
    rw [if_pos hA, if_pos h8]
  · have := a2.up6 (x := gdN rs v (hdN rs v))
    rw [s45_s45] at this
    exact this
theorem mu_bd {a b N : Int} (ha : 0 ≤ a ∧ a ≤ 100) (hb : 0 ≤ b ∧ b ≤ N) : 0 ≤ a * b ∧ a * b ≤ 100 * N := ⟨Int.mul_nonneg ha.1 hb.1, Int.mul_le_mul ha.2 hb.2 hb.1 (by decide)⟩
theorem ru_chanceOf_ok {A t : Nat} {rs : List Ru} {v : Nat → Int} {N : Int} (h : iv_L s) (ht : t < 16) (hS : ru_S s t rs) (hA : kd L A = 20) (ha : asC s A v) (hv : VB v N) (hN : N ≤ 1000000) : ru_chanceOf L (ru_q s t) A s = ok L (chV rs v) s := by
  have kq := ru_kd (L := L) (h.cell (t := t) (by omega))
  have f1 : ru_firstOf L (ru_q s t) 0 A 50 s = ok L (fo v 0 50 rs) s := cl_first (k := 0) h ht hS hA ha hv (by omega) (by decide)
  obtain ⟨a0, a1, a2, a3, a4, a5, a6⟩ := ha
  have hS2 := hS
  obtain ⟨-, -, -, -, -, -, r7, -, r9, -⟩ := hS2
  have hb := fo_bd (v := v) (k := 0) (d := 50) (N := 100) (by decide) (by decide) hS.ok
  have l6 := ru_l_le (k := 6) hS.ok
  have l7 := ru_l_le (k := 7) hS.ok
  have m1 := mu_bd (a := ((ru_l 6 rs : Nat) : Int)) (by omega) (hv 4 (by decide))
  have m2 := mu_bd (a := ((ru_l 7 rs : Nat) : Int)) (by omega) (hv 5 (by decide))
  rw [ru_chanceOf_eq, if_pos kq, f1, ok_bind]
  dsimp only
  rw [if_pos kq, if_pos hA, if_pos kq, if_pos hA, r7, r9, a4, a5, jma_min_ok i_lit ⟨by omega, by omega⟩, ok_bind]
  dsimp only
  rw [jma_max_ok i_lit (by split <;> exact ⟨by omega, by omega⟩), ok_bind]
  rfl
end
