/-! the check's use; the meaning's induction with the meaning itself at hand -/
theorem hh_Ev_ind2 (P : hh_Pg) (S : Nat → Nat → Nat → hh_Lo → hh_Sk → hh_Mm → hh_Rs → Prop) (h : ∀ E : hh_EvT, (∀ d m b ls st M r, E d m b ls st M = some r → S d m b ls st M r ∧ hh_Ev P d m b ls st M = some r) → ∀ d m b ls st M r, hh_fn P E d m b ls st M = some r → S d m b ls st M r) :
    ∀ d m b ls st M r, hh_Ev P d m b ls st M = some r → S d m b ls st M r := by
  have key := hh_Ev_ind P (fun d m b ls st M r => S d m b ls st M r ∧ hh_Ev P d m b ls st M = some r) (fun E IH d m b ls st M r hr => ⟨h E IH d m b ls st M r hr, ?_⟩)
  · exact fun d m b ls st M r hr => (key d m b ls st M r hr).1
  · have h1 : ∀ d m b l s M, hh_le (E d m b l s M) (hh_Ev P d m b l s M) := fun d m b l s M r hr => (IH d m b l s M r hr).2
    rw [hh_Ev_eq rfl]
    exact hh_le_xb (hh_jp_mono h1 _ _ _ _) (fun m a M => by unfold hh_cl; exact hh_le_if (hh_le_if (h1 _ _ _ _ _ _))) _ _ _ _ _ r hr
section
variable {bytes : ByteArray} {cn kd rc : Nat} {pcs : List Nat}
theorem ck_l_at : ∀ {l : List hh_Bk} {r : List Nat}, ck_l bytes cn kd rc pcs l r = true → l.length = r.length ∧ ∀ b, b < l.length → ck_b bytes cn kd rc pcs (hh_bk l b).2.1 (hh_bk l b).1 (r.getD b 0) = true
  | [], [], _ => ⟨rfl, fun b h => absurd h (Nat.not_lt_zero b)⟩
  | [], _ :: _, h => by simp [ck_l] at h
  | _ :: _, [], h => by simp [ck_l] at h
  | b :: l, pc :: r, h => by
    simp only [ck_l, Bool.and_eq_true] at h
    obtain ⟨h1, h2⟩ := h
    obtain ⟨h3, h4⟩ := ck_l_at h2
    refine ⟨by simp [h3], fun k hk => ?_⟩
    cases k with
    | zero => exact h1
    | succ k => exact h4 k (by simpa using hk)
theorem ck_e {nx pc : Nat} {e : hh_En} {r : List hh_En} (h : ck_b bytes cn kd rc pcs nx (e :: r) pc = true) : e.1 = pc ∧ ∃ n, decode bytes pc = .ok (e.2.1, n) ∧ ck_x cn kd rc pcs pc e.2.1 e.2.2 = true ∧ (ck_n e.2.1 = 0 ∨ n = ck_n e.2.1) ∧ (ck_end e.2.1 = false → ck_b bytes cn kd rc pcs nx r (pc + n) = true) := by
  rw [ck_b, Bool.and_eq_true, Nat.beq_eq] at h
  obtain ⟨h1, h2⟩ := h
  refine ⟨h1, ?_⟩
  split at h2
  next i n hd =>
    rw [Bool.and_eq_true, Bool.and_eq_true, Bool.and_eq_true, decide_eq_true_eq, Bool.or_eq_true, Nat.beq_eq, Nat.beq_eq] at h2
    obtain ⟨⟨⟨h3, h4⟩, h6⟩, h5⟩ := h2
    subst h3
    refine ⟨n, hd, h4, h6, fun he => ?_⟩
    rw [he] at h5
    exact h5
  next => cases h2
end
theorem ck_bk {m b : Nat} (h : ck_m m = true) : ck_b (pg_y m).2.1 (pg_cn m) (pg_y m).2.2.2.1 (ck_rc (pg_y m).2.2.1) (pg_PC.getD m []) (hh_bk (pg_b m) b).2.1 (hh_bk (pg_b m) b).1 (pg_p m b) = true := by
  rw [ck_m, Bool.and_eq_true, Nat.beq_eq] at h
  obtain ⟨h1, h2⟩ := h
  obtain ⟨h3, h4⟩ := ck_l_at h1
  by_cases hb : b < (pg_b m).length
  · exact h4 b hb
  · have e1 : hh_bk (pg_b m) b = ([], 0, [], false) := by
      unfold hh_bk
      rw [List.getD_eq_getElem?_getD, List.getElem?_eq_none (by omega)]
      rfl
    have e2 : pg_p m b = 0 := by
      unfold pg_p
      rw [List.getD_eq_getElem?_getD, List.getElem?_eq_none (by omega)]
      rfl
    rw [e1, e2, ck_b, h2]
    rfl
theorem na_at : ∀ {B : List (List hh_Bk)} {F : List Bool}, na_ck B F = true → ∀ m, F.getD m false = true → na_all (B.getD m []) = true
  | [], F, _, m, _ => by cases m <;> rfl
  | b :: l, [], _, m, h => by cases m <;> simp at h
  | b :: l, f :: r, h, m, hm => by
    rw [na_ck, Bool.and_eq_true] at h
    cases m with
    | zero =>
      have hf : f = true := hm
      rw [hf] at h
      exact h.1
    | succ m => exact na_at h.2 m hm
theorem na_ok {m : Nat} (h : pg_NA.getD m false = true) (b : Nat) : (hh_bk (pg_b m) b).1.all hh_na = true := by
  have h1 := na_at na_is m h
  unfold na_all at h1
  unfold hh_bk
  by_cases hb : b < (pg_b m).length
  · rw [List.getD_eq_getElem?_getD, List.getElem?_eq_getElem hb]
    exact List.all_eq_true.mp h1 _ (List.getElem_mem hb)
  · rw [List.getD_eq_getElem?_getD, List.getElem?_eq_none (by omega)]
    rfl
