/-! the tables against the code's own bytes: a check, and that it holds of every method -/
def pg_FC : List Nat := [0, 0, 0, 0, 0, 0, 0, 1, 1, 1, 1, 1, 1, 1, 1, 1, 1, 2, 2, 2, 2, 2, 2, 2, 2, 2, 2, 3, 3, 3, 4, 4, 4, 4, 4, 4, 5, 5, 5, 5, 5, 5, 6, 6, 6, 6, 6, 6, 6, 6, 6, 6, 6, 7, 7, 7, 7, 7, 7, 7, 7, 8, 8, 9, 9, 9, 9, 9, 9, 9, 9, 9, 9, 9, 9, 9, 9, 9, 9, 9, 9, 9, 9, 9, 9, 9, 9, 9, 9, 9, 9, 9, 9, 9, 9, 9, 9, 9, 9, 10, 10, 10, 10, 10, 10, 10, 10, 10, 10, 10, 10, 10, 10, 10, 10, 10, 10, 10, 10, 10, 10, 10, 10, 10, 10, 10, 10, 10, 10, 10, 10, 10, 10, 10, 10, 10, 10, 10, 10, 10, 10, 10, 10, 10, 10, 10, 10, 10, 10, 10, 10, 10, 10, 10, 10, 10, 10, 10, 10, 10, 10, 10, 10, 10, 10, 10, 10, 10, 10, 10, 10, 10, 13, 13]
set_option maxRecDepth 100000 in
theorem pg_FC_ok : pg_F.map (fun f => f.1) = pg_FC.map cn_n := by decide +kernel
def pg_NA : List Bool := [false, false, false, true, true, true, true, true, false, true, true, true, true, true, true, true, true, true, true, true, true, true, true, true, false, true, true, true, true, false, true, false, true, true, true, true, false, true, true, true, true, true, true, true, true, true, true, true, true, true, true, true, true, true, true, true, true, true, true, false, true, true, true, true, true, true, true, true, true, false, true, true, true, true, false, true, true, true, true, false, true, true, true, true, true, true, true, true, true, true, true, true, true, true, true, true, true, true, true, true, true, true, true, true, true, true, true, true, true, true, true, true, true, true, true, true, true, true, true, true, true, true, true, true, true, true, true, true, true, true, true, true, true, true, true, true, true, true, true, true, true, true, true, true, true, true, true, true, true, true, false, true, true, true, true, true, true, true, true, true, true, true, true, true, true, true, true, true, true, true, true, true, true, true, true, true, true, true, true, true, true, true, true, true, true, true, true, true, true, true, true, true, true, true, true, true, true, true, true, true, true, true, true, true, true, true, true, true, true, true, true, true, true, true, true, true, true, true, true, true, true, true, true, true, true, true, true, true, true, true, true, true, true, true, true, true, true, true, true, true, true, true, true, true, true, true, true, true, true, true, true, true, true, true, true, true, true, true, true, true, true, true, true, true, true, true, true, true, true, true, true, true, true, true, true, true, true, true, true, true, true, true, true, true, false]
def ck_ts (pcs : List Nat) (pc : Nat) (lo : Int) : Nat → List (Int × Nat) → List Int → Bool
  | i, q :: l, o :: r => decide (q.1 = lo + (i : Nat)) && decide ((pc : Int) + o = (pcs.getD q.2 0 : Nat)) && ck_ts pcs pc lo (i + 1) l r
  | _, [], [] => true
  | _, _, _ => false
def ck_ls (pcs : List Nat) (pc : Nat) : List (Int × Nat) → List (Int × Int) → Bool
  | q :: l, o :: r => decide (q.1 = o.1) && decide ((pc : Int) + o.2 = (pcs.getD q.2 0 : Nat)) && ck_ls pcs pc l r
  | [], [] => true
  | _, _ => false
def lk2 (a b : Nat) : List (Nat × Nat) → Bool
  | [] => false
  | q :: r => (Nat.beq q.1 a && Nat.beq q.2 b) || lk2 a b r
def lk3 (a b c : Nat) : List (Nat × Nat × Nat) → Bool
  | [] => false
  | q :: r => (Nat.beq q.1 a && Nat.beq q.2.1 b && Nat.beq q.2.2 c) || lk3 a b c r
def lkz (a b : Nat) (c : Int) : List (Nat × Nat × Int) → Bool
  | [] => false
  | q :: r => (Nat.beq q.1 a && Nat.beq q.2.1 b && decide (q.2.2 = c)) || lkz a b c r
theorem lk2_mem {a b : Nat} : ∀ {l : List (Nat × Nat)}, lk2 a b l = true → (a, b) ∈ l
  | q :: r, h => by
    simp only [lk2, Bool.or_eq_true, Bool.and_eq_true, Nat.beq_eq] at h
    rcases h with ⟨h1, h2⟩ | h
    · rw [← h1, ← h2]; exact List.mem_cons_self
    · exact List.mem_cons_of_mem _ (lk2_mem h)
theorem lk3_mem {a b c : Nat} : ∀ {l : List (Nat × Nat × Nat)}, lk3 a b c l = true → (a, b, c) ∈ l
  | q :: r, h => by
    simp only [lk3, Bool.or_eq_true, Bool.and_eq_true, Nat.beq_eq] at h
    rcases h with ⟨⟨h1, h2⟩, h3⟩ | h
    · rw [← h1, ← h2, ← h3]; exact List.mem_cons_self
    · exact List.mem_cons_of_mem _ (lk3_mem h)
theorem lkz_mem {a b : Nat} {c : Int} : ∀ {l : List (Nat × Nat × Int)}, lkz a b c l = true → (a, b, c) ∈ l
  | q :: r, h => by
    simp only [lkz, Bool.or_eq_true, Bool.and_eq_true, Nat.beq_eq, decide_eq_true_eq] at h
    rcases h with ⟨⟨h1, h2⟩, h3⟩ | h
    · rw [← h1, ← h2, ← h3]; exact List.mem_cons_self
    · exact List.mem_cons_of_mem _ (lkz_mem h)
def ck_rc (t : Option FieldType) : Nat := match t with
  | none => 0
  | some .int => 1
  | some .long => 2
  | some (.object _) => 3
  | some .boolean => 4
  | some .byte => 5
  | some .char => 5
  | _ => 9
def ck_f (cn k : Nat) (x : hh_Ex) : Bool := Nat.beq (pg_FC.getD x.2.2.2 99) cn && (match pg_F[x.2.2.2]? with
  | some f => Nat.beq f.2.1 k && Nat.beq f.2.2.1 x.1 && Nat.beq f.2.2.2 x.2.1
  | none => false)
/-- a call: number of places, answer's kind, the class of the receiver -/
def ck_c (kd : Nat) (x : hh_Ex) : Bool := Nat.ble 2 x.1 && Nat.blt x.1 284 && Nat.beq (pg_y x.1).2.2.2.1 kd && Nat.beq x.2.1 ((pg_y x.1).2.2.2.2 + (if kd = 0 then 0 else 1)) && (if kd = 2 then Nat.beq x.2.2.1 4 else Nat.beq x.2.2.1 (hh_rk (pg_y x.1).2.2.1) && pg_NA.getD x.1 false) && (if kd = 0 then true else (Nat.blt (pg_cn x.1) 11 && Nat.beq x.2.2.2 (pg_cn x.1)) || (Nat.beq kd 1 && Nat.beq (pg_cn x.1) 13 && Nat.beq x.2.2.2 70))
def ck_x (cn kd rc : Nat) (pcs : List Nat) (pc : Nat) (i : Instr) (x : hh_Ex) : Bool := match i with
  | .bipush n => decide (-128 ≤ n ∧ n < 128)
  | .sipush n => decide (-32768 ≤ n ∧ n < 32768)
  | .ldc k => (match x.2.1 with
    | 0 => lkz cn k (pg_KI.getD x.1 0) pg_kc
    | _ => Nat.beq cn 5 && Nat.beq k 72)
  | .ldc_w k => lkz cn k (pg_KI.getD x.1 0) pg_kc
  | .ldc2_w k => lkz cn k (pg_KI.getD x.1 0) pg_kl
  | .getfield k => ck_f cn k x && (if x.1 < 11 then Nat.beq x.2.2.1 (hh_ft x.1 x.2.1) else Nat.beq x.1 70 && Nat.beq x.2.2.1 (if x.2.1 = 0 then 3 else 0))
  | .putfield k => ck_f cn k x && Nat.blt x.1 11 && Nat.beq x.2.2.1 (hh_ft x.1 x.2.1) && (if x.2.2.1 = 3 then Nat.beq kd 2 && Nat.beq x.1 cn && Nat.blt x.2.1 (hh_FY.getD x.1 []).length else true)
  | .getstatic k => lk3 cn k x.1 pg_gt
  | .baload => Nat.beq x.1 1 || Nat.beq x.1 2
  | .bastore => Nat.beq x.1 1 || Nat.beq x.1 2
  | .aaload => Nat.beq x.1 4 || Nat.beq x.1 5 || Nat.beq x.1 8 || Nat.beq x.1 10
  | .aastore => Nat.beq x.1 0 || Nat.beq x.1 1 || Nat.beq x.1 4 || Nat.beq x.1 6
  | .new k => lk3 cn k x.1 pg_nl && Nat.blt x.1 11 && Nat.beq x.2.1 (hh_FY.getD x.1 []).length
  | .newarray t => (match t with
    | .int => Nat.beq x.1 0
    | .byte => Nat.beq x.1 1
    | .boolean => Nat.beq x.1 2
    | .long => Nat.beq x.1 3
    | _ => false)
  | .anewarray k => lk3 cn k x.1 pg_nl && (Nat.beq x.1 0 || Nat.beq x.1 1 || Nat.beq x.1 4 || Nat.beq x.1 6)
  | .ifCond _ o => decide ((pc : Int) + o = (pcs.getD x.1 0 : Nat))
  | .if_icmp _ o => decide ((pc : Int) + o = (pcs.getD x.1 0 : Nat))
  | .goto o => decide ((pc : Int) + o = (pcs.getD x.1 0 : Nat))
  | .tableswitch d lo hi offs => decide ((pc : Int) + d = (pcs.getD (pg_KS.getD x.1 (0, [])).1 0 : Nat)) && Nat.beq (pg_KS.getD x.1 (0, [])).2.length offs.size && decide (hi = lo + offs.size - 1) && ck_ts pcs pc lo 0 (pg_KS.getD x.1 (0, [])).2 offs.toList
  | .lookupswitch d ps => (ps.toList.zip (ps.toList.drop 1)).all (fun (a, next) => a.1 < next.1) && decide ((pc : Int) + d = (pcs.getD (pg_KS.getD x.1 (0, [])).1 0 : Nat)) && Nat.beq (pg_KS.getD x.1 (0, [])).2.length ps.toList.length && ck_ls pcs pc (pg_KS.getD x.1 (0, [])).2 ps.toList
  | .ireturn => Nat.beq x.1 rc && (Nat.beq rc 1 || Nat.beq rc 4 || Nat.beq rc 5)
  | .lreturn => Nat.beq rc 2
  | .areturn => Nat.beq rc 3
  | .return_ => Nat.beq rc 0
  | .invokevirtual k => lk3 cn k x.1 pg_mr && ck_c 1 x
  | .invokespecial k => (match x.1 with
    | 0 => lk2 cn k pg_oi
    | _ => lk3 cn k x.1 pg_mr && ck_c 2 x)
  | .invokestatic k => (match x.1 with
    | 1 => lk2 cn k pg_ac
    | _ => lk3 cn k x.1 pg_mr && ck_c 0 x)
  | _ => true
def ck_end (i : Instr) : Bool := match i with
  | .goto _ => true
  | .tableswitch _ _ _ _ => true
  | .lookupswitch _ _ => true
  | .ireturn => true
  | .lreturn => true
  | .areturn => true
  | .return_ => true
  | _ => false
def ck_n (i : Instr) : Nat := match i with
  | .bipush _ => 2
  | .ldc _ => 2
  | .iload _ => 2
  | .lload _ => 2
  | .aload _ => 2
  | .istore _ => 2
  | .lstore _ => 2
  | .astore _ => 2
  | .newarray _ => 2
  | .sipush _ => 3
  | .ldc_w _ => 3
  | .ldc2_w _ => 3
  | .iinc _ _ => 3
  | .getfield _ => 3
  | .putfield _ => 3
  | .getstatic _ => 3
  | .new _ => 3
  | .anewarray _ => 3
  | .ifCond _ _ => 3
  | .if_icmp _ _ => 3
  | .goto _ => 3
  | .invokevirtual _ => 3
  | .invokespecial _ => 3
  | .invokestatic _ => 3
  | .tableswitch _ _ _ _ => 0
  | .lookupswitch _ _ => 0
  | _ => 1
def ck_b (bytes : ByteArray) (cn kd rc : Nat) (pcs : List Nat) (nx : Nat) : List hh_En → Nat → Bool
  | [], pc => Nat.beq pc (pcs.getD nx 0)
  | e :: r, pc => Nat.beq e.1 pc && (match decode bytes pc with
    | .ok (i, n) => decide (i = e.2.1) && ck_x cn kd rc pcs pc i e.2.2 && (Nat.beq (ck_n i) 0 || Nat.beq n (ck_n i)) && (if ck_end i then true else ck_b bytes cn kd rc pcs nx r (pc + n))
    | .error _ => false)
def ck_l (bytes : ByteArray) (cn kd rc : Nat) (pcs : List Nat) : List hh_Bk → List Nat → Bool
  | [], [] => true
  | b :: l, pc :: r => ck_b bytes cn kd rc pcs b.2.1 b.1 pc && ck_l bytes cn kd rc pcs l r
  | _, _ => false
def ck_m (m : Nat) : Bool := ck_l (pg_y m).2.1 (pg_cn m) (pg_y m).2.2.2.1 (ck_rc (pg_y m).2.2.1) (pg_PC.getD m []) (pg_b m) (pg_PC.getD m []) && Nat.beq ((pg_PC.getD m []).getD 0 0) 0
def na_all (l : List hh_Bk) : Bool := l.all (fun b => b.1.all hh_na)
def na_ck : List (List hh_Bk) → List Bool → Bool
  | b :: l, f :: r => (if f then na_all b else true) && na_ck l r
  | _, _ => true
theorem na_is : na_ck pg_B pg_NA = true := by decide +kernel
