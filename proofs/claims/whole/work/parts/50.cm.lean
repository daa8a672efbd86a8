/-! the constructors, run on lists: shapes of the cells from 8 on, and what was written, the latest first -/
abbrev cm_T : Type := List (Nat × Nat × List Nat) × List (Nat × Nat × Int)
def cm_lk : List (Nat × Nat × Int) → Nat → Nat → Int
  | [], _, _ => 0
  | u :: r, a, b => if a = u.1 ∧ b = u.2.1 then u.2.2 else cm_lk r a b
def cm_sh (T : cm_T) (k : Nat) : Nat × Nat × List Nat := T.1.getD (k - 8) (99, 0, [])
def cm_sem (L : Nat) (o1 : Nat → Int) (T : cm_T) : hh_Mm := ((8 + T.1.length, fun k => if k < 8 then st_sh L k else cm_sh T k), fun a b => if a < 8 then st_sv o1 a b else cm_lk T.2 a b)
def cm_fr (T : cm_T) : Bool := T.2.all (fun u => Nat.blt u.1 (8 + T.1.length))
def cm_ok (T : cm_T) (k kd : Nat) : Bool := Nat.ble 8 k && Nat.blt k (8 + T.1.length) && Nat.beq (cm_sh T k).1 kd
section
variable (F : Nat → hh_Lo → hh_Sk → cm_T → Option cm_T) (C : Nat → List hh_Av → cm_T → Option cm_T)
def cm_stp (e : hh_En) (ls : hh_Lo) (st : hh_Sk) (T : cm_T) (kk : hh_Lo → hh_Sk → cm_T → Option cm_T) : Option cm_T := match e.2.1 with
  | .iconst n => kk ls (.inl n :: st) T
  | .bipush n => kk ls (.inl n :: st) T
  | .sipush n => kk ls (.inl n :: st) T
  | .lconst n => kk ls (.inr (.inl (n.val : Int)) :: st) T
  | .aload_n i => (match ls.getD i.val none with
    | some (.inr (.inr z)) => kk ls (.inr (.inr z) :: st) T
    | _ => none)
  | .iload_n i => (match ls.getD i.val none with
    | some (.inl z) => kk ls (.inl z :: st) T
    | _ => none)
  | .istore_n i => (match st with
    | .inl z :: st => if i.val < ls.length then kk (hh_st1 ls i.val (.inl z)) st T else none
    | _ => none)
  | .iinc i n => (match ls.getD i none with
    | some (.inl z) => kk (hh_st1 ls i (.inl (z + n))) st T
    | _ => none)
  | .dup => (match st with
    | .inr (.inr a) :: st => kk ls (.inr (.inr a) :: .inr (.inr a) :: st) T
    | _ => none)
  | .getfield _ => (match st, e.2.2.2.2.1 with
    | .inr (.inr k) :: st, 3 => if cm_ok T k (20 + e.2.2.1) = true then kk ls (.inr (.inr ((cm_sh T k).2.2.getD e.2.2.2.1 0)) :: st) T else none
    | _, _ => none)
  | .putfield _ => (match e.2.2.2.2.1, st with
    | 0, .inl v :: .inr (.inr k) :: st => if cm_ok T k (20 + e.2.2.1) = true then kk ls st (T.1, (k, e.2.2.2.1, v) :: T.2) else none
    | 1, .inr (.inl v) :: .inr (.inr k) :: st => if cm_ok T k (20 + e.2.2.1) = true then kk ls st (T.1, (k, e.2.2.2.1, v) :: T.2) else none
    | 2, .inr (.inr v) :: .inr (.inr k) :: st => if cm_ok T k (20 + e.2.2.1) = true then (if 0 < v then kk ls st (T.1, (k, e.2.2.2.1, (v : Int)) :: T.2) else none) else none
    | 3, .inr (.inr v) :: .inr (.inr k) :: st => if cm_ok T k (20 + e.2.2.1) = true then (if 0 < v then kk ls st (T.1.set (k - 8) ((cm_sh T k).1, (cm_sh T k).2.1, (cm_sh T k).2.2.set e.2.2.2.1 v), T.2) else none) else none
    | _, _ => none)
  | .new _ => if cm_fr T = true then kk ls (.inr (.inr (8 + T.1.length)) :: st) (T.1 ++ [(20 + e.2.2.1, e.2.2.2.1, List.replicate e.2.2.2.1 0)], T.2) else none
  | .newarray _ => (match st with
    | .inl n :: st => if cm_fr T = true then (if 0 ≤ n ∧ n < 10000 then kk ls (.inr (.inr (8 + T.1.length)) :: st) (T.1 ++ [(e.2.2.1, n.toNat, List.replicate (if e.2.2.1 < 4 then 0 else n.toNat) 0)], T.2) else none) else none
    | _ => none)
  | .anewarray _ => (match st with
    | .inl n :: st => if cm_fr T = true then (if 0 ≤ n ∧ n < 10000 then kk ls (.inr (.inr (8 + T.1.length)) :: st) (T.1 ++ [(4 + e.2.2.1, n.toNat, List.replicate (if 4 + e.2.2.1 < 4 then 0 else n.toNat) 0)], T.2) else none) else none
    | _ => none)
  | .aastore => (match st with
    | .inr (.inr v) :: .inl i :: .inr (.inr k) :: st => if cm_ok T k (4 + e.2.2.1) = true then (if cm_ok T v (20 + e.2.2.1) = true then (if 0 ≤ i ∧ i < (cm_sh T k).2.1 then (match e.2.2.1 with
      | 6 => kk ls st (T.1, (k, i.toNat, (v : Int)) :: T.2)
      | _ => kk ls st (T.1.set (k - 8) ((cm_sh T k).1, (cm_sh T k).2.1, (cm_sh T k).2.2.set i.toNat v), T.2)) else none) else none) else none
    | _ => none)
  | .if_icmp c _ => (match st with
    | .inl y :: .inl x :: st => br c (Int.bmod x 4294967296) (Int.bmod y 4294967296) (F e.2.2.1 ls st T) (kk ls st T)
    | _ => none)
  | .goto _ => F e.2.2.1 ls st T
  | .return_ => (match st with
    | [] => some T
    | _ => none)
  | .invokespecial _ => (match e.2.2.1 with
    | 0 => (match st with
      | .inr (.inr k) :: st => if 8 ≤ k ∧ hh_cat st ≤ 8 then kk ls st T else none
      | _ => none)
    | _ => (match st.getD (e.2.2.2.1 - 1) (.inl 0) with
      | .inr (.inr k) => if cm_ok T k (20 + e.2.2.2.2.2) = true then (if e.2.2.2.1 ≤ st.length then (if hh_cat (st.drop e.2.2.2.1) ≤ 8 then (match e.2.2.2.2.1 with
        | 4 => (C e.2.2.1 (st.take e.2.2.2.1).reverse T).bind (fun T => kk ls (st.drop e.2.2.2.1) T)
        | _ => none) else none) else none) else none
      | _ => none))
  | _ => none
def cm_xb (nx : Nat) : List hh_En → hh_Lo → hh_Sk → cm_T → Option cm_T
  | [], ls, st, T => F nx ls st T
  | e :: r, ls, st, T => cm_stp F C e ls st T (fun ls st T => cm_xb nx r ls st T)
end
abbrev cm_ET : Type := Nat → Nat → Nat → hh_Lo → hh_Sk → cm_T → Option cm_T
def cm_rk (m : Nat) : Nat := if m = 178 ∨ m = 177 ∨ m = 176 ∨ m = 55 ∨ m = 54 ∨ m = 133 then 1000 else pg_H.getD m 0
def cm_cl (E : cm_ET) (d : Nat) (m : Nat) (as : List hh_Av) (T : cm_T) : Option cm_T := if cm_rk m < d ∧ cm_rk m < 1000 then (if (hh_lay as).length ≤ pg_l m then E (cm_rk m) m 0 (hh_ent (pg_l m) as) [] T else none) else none
def cm_jp (E : cm_ET) (d m : Nat) (Bs : List hh_Bk) : Nat → Nat → hh_Lo → hh_Sk → cm_T → Option cm_T
  | 0, b, ls, st, T => E d m b (hh_msk (hh_bk Bs b).2.2.1 ls) st T
  | n + 1, b, ls, st, T => match (hh_bk Bs b).2.2.2 with
    | true => cm_xb (cm_jp E d m Bs n) (cm_cl E d) (hh_bk Bs b).2.1 (hh_bk Bs b).1 (hh_msk (hh_bk Bs b).2.2.1 ls) st T
    | false => E d m b (hh_msk (hh_bk Bs b).2.2.1 ls) st T
def cm_ev : Nat → cm_ET
  | 0 => fun _ _ _ _ _ _ => none
  | n + 1 => fun d m b ls st T => cm_xb (cm_jp (cm_ev n) d m (pg_b m) 40) (cm_cl (cm_ev n) d) (hh_bk (pg_b m) b).2.1 (hh_bk (pg_b m) b).1 ls st T
section
variable {L : Nat} {o1 : Nat → Int} {T : cm_T}
theorem cm_ok_of {k kd : Nat} (h : cm_ok T k kd = true) : 8 ≤ k ∧ k < 8 + T.1.length ∧ (hh_sh (cm_sem L o1 T) k) = cm_sh T k ∧ (cm_sh T k).1 = kd := by
  unfold cm_ok at h
  rw [Bool.and_eq_true, Bool.and_eq_true, Nat.beq_eq] at h
  obtain ⟨⟨h1, h2⟩, h3⟩ := h
  have h1 := Nat.le_of_ble_eq_true h1
  have h2 : k < 8 + T.1.length := Nat.le_of_ble_eq_true (show Nat.ble (k + 1) _ = true from h2)
  refine ⟨h1, h2, ?_, h3⟩
  show (if k < 8 then st_sh L k else cm_sh T k) = _
  rw [if_neg (by omega)]
theorem cm_up {k j : Nat} {v : Int} (h8 : 8 ≤ k) : cm_sem L o1 (T.1, (k, j, v) :: T.2) = ((cm_sem L o1 T).1, up (cm_sem L o1 T).2 k j v) := by
  refine Prod.ext rfl (funext fun a => funext fun b => ?_)
  show (if a < 8 then st_sv o1 a b else (if a = k ∧ b = j then v else cm_lk T.2 a b)) = (if a = k ∧ b = j then v else if a < 8 then st_sv o1 a b else cm_lk T.2 a b)
  by_cases h : a < 8
  · rw [if_pos h, if_neg (by omega), if_pos h]
  · rw [if_neg h, if_neg h]
theorem cm_us {k : Nat} {w : Nat × Nat × List Nat} (h8 : 8 ≤ k) (hk : k < 8 + T.1.length) : cm_sem L o1 (T.1.set (k - 8) w, T.2) = (((cm_sem L o1 T).1.1, hh_us (cm_sem L o1 T).1.2 k w), (cm_sem L o1 T).2) := by
  refine Prod.ext (Prod.ext ?_ (funext fun a => ?_)) rfl
  · show 8 + (T.1.set (k - 8) w).length = 8 + T.1.length
    rw [List.length_set]
  · show (if a < 8 then st_sh L a else (T.1.set (k - 8) w).getD (a - 8) (99, 0, [])) = (if a = k then w else if a < 8 then st_sh L a else T.1.getD (a - 8) (99, 0, []))
    by_cases h : a < 8
    · rw [if_pos h, if_neg (by omega), if_pos h]
    · rw [if_neg h, if_neg h, List.getD_eq_getElem?_getD, List.getD_eq_getElem?_getD, List.getElem?_set]
      by_cases e : a = k
      · subst e
        rw [if_pos rfl, if_pos rfl, if_pos (by omega)]
        rfl
      · rw [if_neg e, if_neg (by omega)]
theorem cm_lk0 {n : Nat} {b : Nat} : ∀ {u : List (Nat × Nat × Int)}, u.all (fun u => Nat.blt u.1 n) = true → cm_lk u n b = 0
  | [], _ => rfl
  | x :: u, h => by
    rw [List.all_cons, Bool.and_eq_true] at h
    have h1 : x.1 < n := Nat.le_of_ble_eq_true (show Nat.ble (x.1 + 1) n = true from h.1)
    rw [cm_lk, if_neg (by omega)]
    exact cm_lk0 h.2
theorem cm_gr {w : Nat × Nat × List Nat} (h : cm_fr T = true) : cm_sem L o1 (T.1 ++ [w], T.2) = (((cm_sem L o1 T).1.1 + 1, hh_us (cm_sem L o1 T).1.2 (cm_sem L o1 T).1.1 w), hh_z (cm_sem L o1 T).2 (cm_sem L o1 T).1.1) := by
  refine Prod.ext (Prod.ext ?_ (funext fun a => ?_)) (funext fun a => funext fun b => ?_)
  · show 8 + (T.1 ++ [w]).length = 8 + T.1.length + 1
    rw [List.length_append]
    rfl
  · show (if a < 8 then st_sh L a else (T.1 ++ [w]).getD (a - 8) (99, 0, [])) = (if a = 8 + T.1.length then w else if a < 8 then st_sh L a else T.1.getD (a - 8) (99, 0, []))
    by_cases h : a < 8
    · rw [if_pos h, if_neg (by omega), if_pos h]
    · rw [if_neg h, if_neg h, List.getD_eq_getElem?_getD, List.getD_eq_getElem?_getD]
      by_cases e : a = 8 + T.1.length
      · rw [if_pos e, List.getElem?_append_right (by omega), show a - 8 - T.1.length = 0 by omega]
        rfl
      · rw [if_neg e]
        by_cases e2 : a - 8 < T.1.length
        · rw [List.getElem?_append_left e2]
        · rw [List.getElem?_append_right (by omega), List.getElem?_eq_none (by simp; omega), List.getElem?_eq_none (by omega)]
  · show (if a < 8 then st_sv o1 a b else cm_lk T.2 a b) = (if a = 8 + T.1.length then 0 else if a < 8 then st_sv o1 a b else cm_lk T.2 a b)
    by_cases e : a = 8 + T.1.length
    · rw [if_pos e, if_neg (by omega), e]
      exact cm_lk0 h
    · rw [if_neg e]
end
section
variable {L : Nat} {o1 : Nat → Int} {T T2 : cm_T} {F : Nat → hh_Lo → hh_Sk → cm_T → Option cm_T} {C : Nat → List hh_Av → cm_T → Option cm_T} {F' : Nat → hh_Lo → hh_Sk → hh_Mm → Option hh_Rs} {C' : Nat → List hh_Av → hh_Mm → Option hh_Rs} {kk : hh_Lo → hh_Sk → cm_T → Option cm_T} {kk' : hh_Lo → hh_Sk → hh_Mm → Option hh_Rs}
theorem cm_br {c : Jvm.ClassFile.Cond} {x y : Int} {A B : Option cm_T} {A' B' : Option hh_Rs} (h : br c x y A B = some T2) (hA : A = some T2 → A' = some (0, cm_sem L o1 T2)) (hB : B = some T2 → B' = some (0, cm_sem L o1 T2)) : br c x y A' B' = some (0, cm_sem L o1 T2) := by
  cases c <;> simp only [br] at h ⊢ <;> split at h <;> first | (rw [if_pos (by assumption)]; first | exact hA h | exact hB h) | (rw [if_neg (by assumption)]; first | exact hA h | exact hB h)
set_option maxHeartbeats 4000000 in
theorem cm_stp_ok {e : hh_En} {ls : hh_Lo} {st : hh_Sk} (hF : ∀ b ls st T, F b ls st T = some T2 → F' b ls st (cm_sem L o1 T) = some (0, cm_sem L o1 T2)) (hC : ∀ m as T T3, C m as T = some T3 → C' m as (cm_sem L o1 T) = some (0, cm_sem L o1 T3)) (hk : ∀ ls st T, kk ls st T = some T2 → kk' ls st (cm_sem L o1 T) = some (0, cm_sem L o1 T2))
    (h : cm_stp F C e ls st T kk = some T2) : hh_stp pg_KI pg_KS F' C' e ls st (cm_sem L o1 T) kk' = some (0, cm_sem L o1 T2) := by
  obtain ⟨pc, i, ex⟩ := e
  cases i
  case iconst => exact hk _ _ _ h
  case bipush => exact hk _ _ _ h
  case sipush => exact hk _ _ _ h
  case lconst => exact hk _ _ _ h
  case aload_n j =>
    simp only [cm_stp] at h
    split at h
    next z hz =>
      simp only [hh_stp, s_ld, hz]
      exact hk _ _ _ h
    · cases h
  case iload_n j =>
    simp only [cm_stp] at h
    split at h
    next z hz =>
      simp only [hh_stp, s_ld, hz]
      exact hk _ _ _ h
    · cases h
  case istore_n j =>
    simp only [cm_stp] at h
    split at h
    next z st =>
      split at h
      next hj =>
        simp only [hh_stp, s_sto, hh_frc_eq]
        rw [if_pos hj]
        exact hk _ _ _ h
      · cases h
    · cases h
  case iinc j z =>
    simp only [cm_stp] at h
    split at h
    next z hz =>
      simp only [hh_stp, s_iinc, hz, hh_frc_eq]
      exact hk _ _ _ h
    · cases h
  case dup =>
    simp only [cm_stp] at h
    split at h
    · exact hk _ _ _ h
    · cases h
  case getfield idx =>
    obtain ⟨x1, x2, x3, x4⟩ := ex
    simp only [cm_stp] at h
    split at h
    next k st =>
      split at h
      next ho =>
        obtain ⟨q1, q2, q3, q4⟩ := cm_ok_of (L := L) (o1 := o1) ho
        simp only [hh_stp, s_get]
        rw [q3, if_pos q4]
        exact hk _ _ _ h
      · cases h
    · cases h
  case putfield idx =>
    obtain ⟨x1, x2, x3, x4⟩ := ex
    simp only [cm_stp] at h
    split at h
    next v k st =>
      split at h
      next ho =>
        obtain ⟨q1, q2, q3, q4⟩ := cm_ok_of (L := L) (o1 := o1) ho
        simp only [hh_stp, s_put]
        rw [q3, if_pos q4, if_pos q1, ← cm_up q1]
        exact hk _ _ _ h
      · cases h
    next v k st =>
      split at h
      next ho =>
        obtain ⟨q1, q2, q3, q4⟩ := cm_ok_of (L := L) (o1 := o1) ho
        simp only [hh_stp, s_put]
        rw [q3, if_pos q4, if_pos q1, ← cm_up q1]
        exact hk _ _ _ h
      · cases h
    next v k st =>
      split at h
      next ho =>
        split at h
        next hv =>
          obtain ⟨q1, q2, q3, q4⟩ := cm_ok_of (L := L) (o1 := o1) ho
          simp only [hh_stp, s_put]
          rw [q3, if_pos q4, if_pos q1, if_pos hv, ← cm_up q1]
          exact hk _ _ _ h
        · cases h
      · cases h
    next v k st =>
      split at h
      next ho =>
        split at h
        next hv =>
          obtain ⟨q1, q2, q3, q4⟩ := cm_ok_of (L := L) (o1 := o1) ho
          simp only [hh_stp, s_put]
          rw [q3, if_pos q4, if_pos q1, if_pos hv, ← cm_us q1 q2]
          exact hk _ _ _ h
        · cases h
      · cases h
    · cases h
  case new idx =>
    simp only [cm_stp] at h
    split at h
    next hf =>
      simp only [hh_stp, s_new]
      rw [← cm_gr hf]
      exact hk _ _ _ h
    · cases h
  case newarray t =>
    simp only [cm_stp] at h
    split at h
    next n st =>
      split at h
      next hf =>
        split at h
        next hn =>
          simp only [hh_stp, s_newa]
          rw [if_pos hn, ← cm_gr hf]
          exact hk _ _ _ h
        · cases h
      · cases h
    · cases h
  case anewarray t =>
    simp only [cm_stp] at h
    split at h
    next n st =>
      split at h
      next hf =>
        split at h
        next hn =>
          simp only [hh_stp, s_newa]
          rw [if_pos hn, ← cm_gr hf]
          exact hk _ _ _ h
        · cases h
      · cases h
    · cases h
  case aastore =>
    obtain ⟨x1, x2, x3, x4⟩ := ex
    simp only [cm_stp] at h
    split at h
    next v i k st =>
      split at h
      next ho =>
        split at h
        next hv =>
          split at h
          next hi =>
            obtain ⟨q1, q2, q3, q4⟩ := cm_ok_of (L := L) (o1 := o1) ho
            obtain ⟨p1, p2, p3, p4⟩ := cm_ok_of (L := L) (o1 := o1) hv
            simp only [hh_stp, s_aast]
            rw [q3, if_pos q4, p3, if_pos p4, if_pos ⟨q1, p1⟩, if_pos hi]
            split at h
            · rw [← cm_up q1]
              exact hk _ _ _ h
            next hne =>
              split
              · exact absurd rfl hne
              · rw [← cm_us q1 q2]
                exact hk _ _ _ h
          · cases h
        · cases h
      · cases h
    · cases h
  case if_icmp c o =>
    simp only [cm_stp] at h
    split at h
    next y x st =>
      simp only [hh_stp, s_icmp]
      rw [w32_def, w32_def]
      exact cm_br h (fun q => hF _ _ _ _ q) (fun q => hk _ _ _ q)
    · cases h
  case goto o => exact hF _ _ _ _ h
  case return_ =>
    simp only [cm_stp] at h
    split at h
    · cases h
      rfl
    · cases h
  case invokespecial idx =>
    obtain ⟨x1, x2, x3, x4⟩ := ex
    simp only [cm_stp] at h
    simp only [hh_stp]
    split at h
    · split at h
      next k st =>
        split at h
        next hc =>
          simp only [s_oi]
          rw [if_pos hc]
          exact hk _ _ _ h
        · cases h
      · cases h
    next hne =>
      split
      next e0 => exact absurd rfl hne
      split at h
      next k hk0 =>
        split at h
        next ho =>
          split at h
          next h1 =>
            split at h
            next h2 =>
              split at h
              next =>
                obtain ⟨q1, q2, q3, q4⟩ := cm_ok_of (L := L) (o1 := o1) ho
                rw [Option.bind_eq_some_iff] at h
                obtain ⟨T3, h3, h4⟩ := h
                simp only [s_recv, hk0, s_call]
                rw [q3, if_pos q4, if_pos h1, if_pos h2, hC _ _ _ _ h3]
                exact hk _ _ _ h4
              · cases h
            · cases h
          · cases h
        · cases h
      · cases h
  all_goals (cases h; done)
theorem cm_xb_ok {nx : Nat} (hF : ∀ b ls st T, F b ls st T = some T2 → F' b ls st (cm_sem L o1 T) = some (0, cm_sem L o1 T2)) (hC : ∀ m as T T3, C m as T = some T3 → C' m as (cm_sem L o1 T) = some (0, cm_sem L o1 T3)) : ∀ {es : List hh_En} {ls : hh_Lo} {st : hh_Sk} {T : cm_T}, cm_xb F C nx es ls st T = some T2 → hh_xb pg_KI pg_KS F' C' nx es ls st (cm_sem L o1 T) = some (0, cm_sem L o1 T2)
  | [], ls, st, T, h => hF _ _ _ _ h
  | e :: es, ls, st, T, h => cm_stp_ok hF hC (fun ls st T h => cm_xb_ok hF hC h) h
end
theorem cm_rk_eq {m : Nat} {as : List hh_Av} {M : hh_Mm} (h : cm_rk m < 1000) : pg_r m as M = cm_rk m := by
  unfold cm_rk at h ⊢
  split at h
  · omega
  next hn =>
    rw [if_neg hn]
    unfold pg_r
    split <;> first | rfl | (exfalso; apply hn; decide)
theorem cm_ok_ev (L : Nat) (o1 : Nat → Int) : ∀ (n d m b : Nat) (ls : hh_Lo) (st : hh_Sk) (T T2 : cm_T), cm_ev n d m b ls st T = some T2 → hh_Ev PG d m b ls st (cm_sem L o1 T) = some (0, cm_sem L o1 T2)
  | 0, d, m, b, ls, st, T, T2, h => by cases h
  | n + 1, d, m, b, ls, st, T, T2, h => by
    have hC : ∀ m as T T3, cm_cl (cm_ev n) d m as T = some T3 → hh_cl PG (hh_Ev PG) d m as (cm_sem L o1 T) = some (0, cm_sem L o1 T3) := by
      intro m as T T3 h
      unfold cm_cl at h
      split at h
      next hr =>
        split at h
        next hl =>
          unfold hh_cl
          have e : PG.2.2.2.2 m as (cm_sem L o1 T) = cm_rk m := cm_rk_eq hr.2
          rw [e, if_pos hr.1]
          show (if (hh_lay as).length ≤ pg_l m then _ else none) = _
          rw [if_pos hl]
          exact cm_ok_ev L o1 n _ _ _ _ _ _ _ h
        · cases h
      · cases h
    have hJ : ∀ (k b : Nat) (ls : hh_Lo) (st : hh_Sk) (T : cm_T), cm_jp (cm_ev n) d m (pg_b m) k b ls st T = some T2 → hh_jp PG (hh_Ev PG) d m (pg_b m) k b ls st (cm_sem L o1 T) = some (0, cm_sem L o1 T2) := by
      intro k
      induction k with
      | zero =>
        intro b ls st T h
        simp only [hh_jp, hh_frc_eq]
        exact cm_ok_ev L o1 n _ _ _ _ _ _ _ h
      | succ k ih =>
        intro b ls st T h
        simp only [cm_jp] at h
        simp only [hh_jp, hh_frc_eq]
        split at h
        next hb =>
          rw [hb]
          exact cm_xb_ok ih hC h
        next hb =>
          rw [hb]
          exact cm_ok_ev L o1 n _ _ _ _ _ _ _ h
    rw [hh_Ev_eq (P := PG) (m := m) (Bs := pg_b m) rfl]
    exact cm_xb_ok (hJ 40) hC h
