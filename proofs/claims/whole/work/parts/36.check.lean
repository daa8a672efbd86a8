/-! the tables against the code's own bytes: a check, and that it holds of every method -/
def pg_FC : List Nat := [0, 0, 0, 0, 0, 0, 0, 1, 1, 1, 1, 1, 1, 1, 1, 1, 1, 2, 2, 2, 2, 2, 2, 2, 2, 2, 2, 3, 3, 3, 4, 4, 4, 4, 4, 4, 5, 5, 5, 5, 5, 5, 6, 6, 6, 6, 6, 6, 6, 6, 6, 6, 6, 7, 7, 7, 7, 7, 7, 7, 7, 8, 8, 9, 9, 9, 9, 9, 9, 9, 9, 9, 9, 9, 9, 9, 9, 9, 9, 9, 9, 9, 9, 9, 9, 9, 9, 9, 9, 9, 9, 9, 9, 9, 9, 9, 9, 9, 9, 10, 10, 10, 10, 10, 10, 10, 10, 10, 10, 10, 10, 10, 10, 10, 10, 10, 10, 10, 10, 10, 10, 10, 10, 10, 10, 10, 10, 10, 10, 10, 10, 10, 10, 10, 10, 10, 10, 10, 10, 10, 10, 10, 10, 10, 10, 10, 10, 10, 10, 10, 10, 10, 10, 10, 10, 10, 10, 10, 10, 10, 10, 10, 10, 10, 10, 10, 10, 10, 10, 10, 10, 10, 13, 13]
set_option maxRecDepth 100000 in
theorem pg_FC_ok : pg_F.map (fun f => f.1) = pg_FC.map cn_n := by decide +kernel
def pg_NA : List Bool := [false, false, false, true, true, true, true, true, false, true, true, true, true, true, true, true, true, true, true, true, true, true, true, true, false, true, true, true, true, false, true, false, true, true, true, true, false, true, true, true, true, true, true, true, true, true, true, true, true, true, true, true, true, true, true, true, true, true, true, false, true, true, true, true, true, true, true, true, true, false, true, true, true, true, false, true, true, true, true, false, true, true, true, true, true, true, true, true, true, true, true, true, true, true, true, true, true, true, true, true, true, true, true, true, true, true, true, true, true, true, true, true, true, true, true, true, true, true, true, true, true, true, true, true, true, true, true, true, true, true, true, true, true, true, true, true, true, true, true, true, true, true, true, true, true, true, true, true, true, true, false, true, true, true, true, true, true, true, true, true, true, true, true, true, true, true, true, true, true, true, true, true, true, true, true, true, true, true, true, true, true, true, true, true, true, true, true, true, true, true, true, true, true, true, true, true, true, true, true, true, true, true, true, true, true, true, true, true, true, true, true, true, true, true, true, true, true, true, true, true, true, true, true, true, true, true, true, true, true, true, true, true, true, true, true, true, true, true, true, true, true, true, true, true, true, true, true, true, true, true, true, true, true, true, true, true, true, true, true, true, true, true, true, true, true, true, true, true, true, true, true, true, true, true, true, true, true, true, true, true, true, true, true, true, false]
def ck_ts (pcs : List Nat) (pc : Nat) (lo : Int) : Nat → List (Int × Nat) → List Int → Bool
  | i, q :: l, o :: r => decide (q.1 = lo + (i : Nat)) && decide ((pc : Int) + o = (pcs.getD q.2 0 : Nat)) && ck_ts pcs pc lo (i + 1) l r
  | _, [], [] => true
  | _, _, _ => false
def ck_ls (pcs : List Nat) (pc : Nat) : List (Int × Nat) → List (Int × Int) → Bool
  | q :: l, o :: r => decide (q.1 = o.1) && decide ((pc : Int) + o.2 = (pcs.getD q.2 0 : Nat)) && ck_ls pcs pc l r
  | [], [] => true
  | _, _ => false
def lk2 (a b : Nat) : List (Nat × Nat) → Bool
  | [] => false
  | q :: r => (Nat.beq q.1 a && Nat.beq q.2 b) || lk2 a b r
def lk3 (a b c : Nat) : List (Nat × Nat × Nat) → Bool
  | [] => false
  | q :: r => (Nat.beq q.1 a && Nat.beq q.2.1 b && Nat.beq q.2.2 c) || lk3 a b c r
def lkz (a b : Nat) (c : Int) : List (Nat × Nat × Int) → Bool
  | [] => false
  | q :: r => (Nat.beq q.1 a && Nat.beq q.2.1 b && decide (q.2.2 = c)) || lkz a b c r
theorem lk2_mem {a b : Nat} : ∀ {l : List (Nat × Nat)}, lk2 a b l = true → (a, b) ∈ l
  | q :: r, h => by
    simp only [lk2, Bool.or_eq_true, Bool.and_eq_true, Nat.beq_eq] at h
    rcases h with ⟨h1, h2⟩ | h
    · rw [← h1, ← h2]; exact List.mem_cons_self
    · exact List.mem_cons_of_mem _ (lk2_mem h)
theorem lk3_mem {a b c : Nat} : ∀ {l : List (Nat × Nat × Nat)}, lk3 a b c l = true → (a, b, c) ∈ l
  | q :: r, h => by
    simp only [lk3, Bool.or_eq_true, Bool.and_eq_true, Nat.beq_eq] at h
    rcases h with ⟨⟨h1, h2⟩, h3⟩ | h
    · rw [← h1, ← h2, ← h3]; exact List.mem_cons_self
    · exact List.mem_cons_of_mem _ (lk3_mem h)
theorem lkz_mem {a b : Nat} {c : Int} : ∀ {l : List (Nat × Nat × Int)}, lkz a b c l = true → (a, b, c) ∈ l
  | q :: r, h => by
    simp only [lkz, Bool.or_eq_true, Bool.and_eq_true, Nat.beq_eq, decide_eq_true_eq] at h
    rcases h with ⟨⟨h1, h2⟩, h3⟩ | h
    · rw [← h1, ← h2, ← h3]; exact List.mem_cons_self
    · exact List.mem_cons_of_mem _ (lkz_mem h)
def ck_rc (t : Option FieldType) : Nat := match t with
  | none => 0
  | some .int => 1
  | some .long => 2
  | some (.object _) => 3
  | some .boolean => 4
  | some .byte => 5
  | some .char => 5
  | _ => 9
def ck_f (cn k : Nat) (x : hh_Ex) : Bool := Nat.beq (pg_FC.getD x.2.2.2 99) cn && (match pg_F[x.2.2.2]? with
  | some f => Nat.beq f.2.1 k && Nat.beq f.2.2.1 x.1 && Nat.beq f.2.2.2 x.2.1
  | none => false)
/-- a call: number of places, answer's kind, the class of the receiver -/
def ck_c (kd : Nat) (x : hh_Ex) : Bool := Nat.ble 2 x.1 && Nat.blt x.1 284 && Nat.beq (pg_y x.1).2.2.2.1 kd && Nat.beq x.2.1 ((pg_y x.1).2.2.2.2 + (if kd = 0 then 0 else 1)) && (if kd = 2 then Nat.beq x.2.2.1 4 else Nat.beq x.2.2.1 (hh_rk (pg_y x.1).2.2.1) && pg_NA.getD x.1 false) && (if kd = 0 then true else (Nat.blt (pg_cn x.1) 11 && Nat.beq x.2.2.2 (pg_cn x.1)) || (Nat.beq kd 1 && Nat.beq (pg_cn x.1) 13 && Nat.beq x.2.2.2 70))
def ck_x (cn kd rc : Nat) (pcs : List Nat) (pc : Nat) (i : Instr) (x : hh_Ex) : Bool := match i with
  | .bipush n => decide (-128 ≤ n ∧ n < 128)
  | .sipush n => decide (-32768 ≤ n ∧ n < 32768)
  | .ldc k => (match x.2.1 with
    | 0 => lkz cn k (pg_KI.getD x.1 0) pg_kc
    | _ => Nat.beq cn 5 && Nat.beq k 72)
  | .ldc_w k => lkz cn k (pg_KI.getD x.1 0) pg_kc
  | .ldc2_w k => lkz cn k (pg_KI.getD x.1 0) pg_kl
  | .getfield k => ck_f cn k x && (if x.1 < 11 then Nat.beq x.2.2.1 (hh_ft x.1 x.2.1) else Nat.beq x.1 70 && Nat.beq x.2.2.1 (if x.2.1 = 0 then 3 else 0))
  | .putfield k => ck_f cn k x && Nat.blt x.1 11 && Nat.beq x.2.2.1 (hh_ft x.1 x.2.1) && (if x.2.2.1 = 3 then Nat.beq kd 2 && Nat.beq x.1 cn && Nat.blt x.2.1 (hh_FY.getD x.1 []).length else true)
  | .getstatic k => lk3 cn k x.1 pg_gt
  | .baload => Nat.beq x.1 1 || Nat.beq x.1 2
  | .bastore => Nat.beq x.1 1 || Nat.beq x.1 2
  | .aaload => Nat.beq x.1 4 || Nat.beq x.1 5 || Nat.beq x.1 8 || Nat.beq x.1 10
  | .aastore => Nat.beq x.1 0 || Nat.beq x.1 1 || Nat.beq x.1 4 || Nat.beq x.1 6
  | .new k => lk3 cn k x.1 pg_nl && Nat.blt x.1 11 && Nat.beq x.2.1 (hh_FY.getD x.1 []).length
  | .newarray t => (match t with
    | .int => Nat.beq x.1 0
    | .byte => Nat.beq x.1 1
    | .boolean => Nat.beq x.1 2
    | .long => Nat.beq x.1 3
    | _ => false)
  | .anewarray k => lk3 cn k x.1 pg_nl && (Nat.beq x.1 0 || Nat.beq x.1 1 || Nat.beq x.1 4 || Nat.beq x.1 6)
  | .ifCond _ o => decide ((pc : Int) + o = (pcs.getD x.1 0 : Nat))
  | .if_icmp _ o => decide ((pc : Int) + o = (pcs.getD x.1 0 : Nat))
  | .goto o => decide ((pc : Int) + o = (pcs.getD x.1 0 : Nat))
  | .tableswitch d lo hi offs => decide ((pc : Int) + d = (pcs.getD (pg_KS.getD x.1 (0, [])).1 0 : Nat)) && Nat.beq (pg_KS.getD x.1 (0, [])).2.length offs.size && decide (hi = lo + offs.size - 1) && ck_ts pcs pc lo 0 (pg_KS.getD x.1 (0, [])).2 offs.toList
  | .lookupswitch d ps => (ps.toList.zip (ps.toList.drop 1)).all (fun (a, next) => a.1 < next.1) && decide ((pc : Int) + d = (pcs.getD (pg_KS.getD x.1 (0, [])).1 0 : Nat)) && Nat.beq (pg_KS.getD x.1 (0, [])).2.length ps.toList.length && ck_ls pcs pc (pg_KS.getD x.1 (0, [])).2 ps.toList
  | .ireturn => Nat.beq x.1 rc && (Nat.beq rc 1 || Nat.beq rc 4 || Nat.beq rc 5)
  | .lreturn => Nat.beq rc 2
  | .areturn => Nat.beq rc 3
  | .return_ => Nat.beq rc 0
  | .invokevirtual k => lk3 cn k x.1 pg_mr && ck_c 1 x
  | .invokespecial k => (match x.1 with
    | 0 => lk2 cn k pg_oi
    | _ => lk3 cn k x.1 pg_mr && ck_c 2 x)
  | .invokestatic k => (match x.1 with
    | 1 => lk2 cn k pg_ac
    | _ => lk3 cn k x.1 pg_mr && ck_c 0 x)
  | _ => true
def ck_end (i : Instr) : Bool := match i with
  | .goto _ => true
  | .tableswitch _ _ _ _ => true
  | .lookupswitch _ _ => true
  | .ireturn => true
  | .lreturn => true
  | .areturn => true
  | .return_ => true
  | _ => false
def ck_n (i : Instr) : Nat := match i with
  | .bipush _ => 2
  | .ldc _ => 2
  | .iload _ => 2
  | .lload _ => 2
  | .aload _ => 2
  | .istore _ => 2
  | .lstore _ => 2
  | .astore _ => 2
  | .newarray _ => 2
  | .sipush _ => 3
  | .ldc_w _ => 3
  | .ldc2_w _ => 3
  | .iinc _ _ => 3
  | .getfield _ => 3
  | .putfield _ => 3
  | .getstatic _ => 3
  | .new _ => 3
  | .anewarray _ => 3
  | .ifCond _ _ => 3
  | .if_icmp _ _ => 3
  | .goto _ => 3
  | .invokevirtual _ => 3
  | .invokespecial _ => 3
  | .invokestatic _ => 3
  | .tableswitch _ _ _ _ => 0
  | .lookupswitch _ _ => 0
  | _ => 1
def ck_b (bytes : ByteArray) (cn kd rc : Nat) (pcs : List Nat) (nx : Nat) : List hh_En → Nat → Bool
  | [], pc => Nat.beq pc (pcs.getD nx 0)
  | e :: r, pc => Nat.beq e.1 pc && (match decode bytes pc with
    | .ok (i, n) => decide (i = e.2.1) && ck_x cn kd rc pcs pc i e.2.2 && (Nat.beq (ck_n i) 0 || Nat.beq n (ck_n i)) && (if ck_end i then true else ck_b bytes cn kd rc pcs nx r (pc + n))
    | .error _ => false)
def ck_l (bytes : ByteArray) (cn kd rc : Nat) (pcs : List Nat) : List hh_Bk → List Nat → Bool
  | [], [] => true
  | b :: l, pc :: r => ck_b bytes cn kd rc pcs b.2.1 b.1 pc && ck_l bytes cn kd rc pcs l r
  | _, _ => false
def ck_m (m : Nat) : Bool := ck_l (pg_y m).2.1 (pg_cn m) (pg_y m).2.2.2.1 (ck_rc (pg_y m).2.2.1) (pg_PC.getD m []) (pg_b m) (pg_PC.getD m []) && Nat.beq ((pg_PC.getD m []).getD 0 0) 0
def na_all (l : List hh_Bk) : Bool := l.all (fun b => b.1.all hh_na)
def na_ck : List (List hh_Bk) → List Bool → Bool
  | b :: l, f :: r => (if f then na_all b else true) && na_ck l r
  | _, _ => true
theorem na_is : na_ck pg_B pg_NA = true := by decide +kernel
theorem ck_2 : ck_m 2 = true := by decide +kernel
theorem ck_3 : ck_m 3 = true := by decide +kernel
theorem ck_4 : ck_m 4 = true := by decide +kernel
theorem ck_5 : ck_m 5 = true := by decide +kernel
theorem ck_6 : ck_m 6 = true := by decide +kernel
theorem ck_7 : ck_m 7 = true := by decide +kernel
theorem ck_8 : ck_m 8 = true := by decide +kernel
theorem ck_9 : ck_m 9 = true := by decide +kernel
theorem ck_10 : ck_m 10 = true := by decide +kernel
theorem ck_11 : ck_m 11 = true := by decide +kernel
theorem ck_12 : ck_m 12 = true := by decide +kernel
theorem ck_13 : ck_m 13 = true := by decide +kernel
theorem ck_14 : ck_m 14 = true := by decide +kernel
theorem ck_15 : ck_m 15 = true := by decide +kernel
theorem ck_16 : ck_m 16 = true := by decide +kernel
theorem ck_17 : ck_m 17 = true := by decide +kernel
theorem ck_18 : ck_m 18 = true := by decide +kernel
theorem ck_19 : ck_m 19 = true := by decide +kernel
theorem ck_20 : ck_m 20 = true := by decide +kernel
theorem ck_21 : ck_m 21 = true := by decide +kernel
theorem ck_22 : ck_m 22 = true := by decide +kernel
theorem ck_23 : ck_m 23 = true := by decide +kernel
theorem ck_24 : ck_m 24 = true := by decide +kernel
theorem ck_25 : ck_m 25 = true := by decide +kernel
theorem ck_26 : ck_m 26 = true := by decide +kernel
theorem ck_27 : ck_m 27 = true := by decide +kernel
theorem ck_28 : ck_m 28 = true := by decide +kernel
theorem ck_29 : ck_m 29 = true := by decide +kernel
theorem ck_30 : ck_m 30 = true := by decide +kernel
theorem ck_31 : ck_m 31 = true := by decide +kernel
theorem ck_32 : ck_m 32 = true := by decide +kernel
theorem ck_33 : ck_m 33 = true := by decide +kernel
theorem ck_34 : ck_m 34 = true := by decide +kernel
theorem ck_35 : ck_m 35 = true := by decide +kernel
theorem ck_36 : ck_m 36 = true := by decide +kernel
theorem ck_37 : ck_m 37 = true := by decide +kernel
theorem ck_38 : ck_m 38 = true := by decide +kernel
theorem ck_39 : ck_m 39 = true := by decide +kernel
theorem ck_40 : ck_m 40 = true := by decide +kernel
theorem ck_41 : ck_m 41 = true := by decide +kernel
theorem ck_42 : ck_m 42 = true := by decide +kernel
theorem ck_43 : ck_m 43 = true := by decide +kernel
theorem ck_44 : ck_m 44 = true := by decide +kernel
theorem ck_45 : ck_m 45 = true := by decide +kernel
theorem ck_46 : ck_m 46 = true := by decide +kernel
theorem ck_47 : ck_m 47 = true := by decide +kernel
theorem ck_48 : ck_m 48 = true := by decide +kernel
theorem ck_49 : ck_m 49 = true := by decide +kernel
theorem ck_50 : ck_m 50 = true := by decide +kernel
theorem ck_51 : ck_m 51 = true := by decide +kernel
theorem ck_52 : ck_m 52 = true := by decide +kernel
theorem ck_53 : ck_m 53 = true := by decide +kernel
theorem ck_54 : ck_m 54 = true := by decide +kernel
theorem ck_55 : ck_m 55 = true := by decide +kernel
theorem ck_56 : ck_m 56 = true := by decide +kernel
theorem ck_57 : ck_m 57 = true := by decide +kernel
theorem ck_58 : ck_m 58 = true := by decide +kernel
theorem ck_59 : ck_m 59 = true := by decide +kernel
theorem ck_60 : ck_m 60 = true := by decide +kernel
theorem ck_61 : ck_m 61 = true := by decide +kernel
theorem ck_62 : ck_m 62 = true := by decide +kernel
theorem ck_63 : ck_m 63 = true := by decide +kernel
theorem ck_64 : ck_m 64 = true := by decide +kernel
theorem ck_65 : ck_m 65 = true := by decide +kernel
theorem ck_66 : ck_m 66 = true := by decide +kernel
theorem ck_67 : ck_m 67 = true := by decide +kernel
theorem ck_68 : ck_m 68 = true := by decide +kernel
theorem ck_69 : ck_m 69 = true := by decide +kernel
theorem ck_70 : ck_m 70 = true := by decide +kernel
theorem ck_71 : ck_m 71 = true := by decide +kernel
theorem ck_72 : ck_m 72 = true := by decide +kernel
theorem ck_73 : ck_m 73 = true := by decide +kernel
theorem ck_74 : ck_m 74 = true := by decide +kernel
theorem ck_75 : ck_m 75 = true := by decide +kernel
theorem ck_76 : ck_m 76 = true := by decide +kernel
theorem ck_77 : ck_m 77 = true := by decide +kernel
theorem ck_78 : ck_m 78 = true := by decide +kernel
theorem ck_79 : ck_m 79 = true := by decide +kernel
theorem ck_80 : ck_m 80 = true := by decide +kernel
theorem ck_81 : ck_m 81 = true := by decide +kernel
theorem ck_82 : ck_m 82 = true := by decide +kernel
theorem ck_83 : ck_m 83 = true := by decide +kernel
theorem ck_84 : ck_m 84 = true := by decide +kernel
theorem ck_85 : ck_m 85 = true := by decide +kernel
theorem ck_86 : ck_m 86 = true := by decide +kernel
theorem ck_87 : ck_m 87 = true := by decide +kernel
theorem ck_88 : ck_m 88 = true := by decide +kernel
theorem ck_89 : ck_m 89 = true := by decide +kernel
theorem ck_90 : ck_m 90 = true := by decide +kernel
theorem ck_91 : ck_m 91 = true := by decide +kernel
theorem ck_92 : ck_m 92 = true := by decide +kernel
theorem ck_93 : ck_m 93 = true := by decide +kernel
theorem ck_94 : ck_m 94 = true := by decide +kernel
theorem ck_95 : ck_m 95 = true := by decide +kernel
theorem ck_96 : ck_m 96 = true := by decide +kernel
theorem ck_97 : ck_m 97 = true := by decide +kernel
theorem ck_98 : ck_m 98 = true := by decide +kernel
theorem ck_99 : ck_m 99 = true := by decide +kernel
theorem ck_100 : ck_m 100 = true := by decide +kernel
theorem ck_101 : ck_m 101 = true := by decide +kernel
theorem ck_102 : ck_m 102 = true := by decide +kernel
theorem ck_103 : ck_m 103 = true := by decide +kernel
theorem ck_104 : ck_m 104 = true := by decide +kernel
theorem ck_105 : ck_m 105 = true := by decide +kernel
theorem ck_106 : ck_m 106 = true := by decide +kernel
theorem ck_107 : ck_m 107 = true := by decide +kernel
theorem ck_108 : ck_m 108 = true := by decide +kernel
theorem ck_109 : ck_m 109 = true := by decide +kernel
theorem ck_110 : ck_m 110 = true := by decide +kernel
theorem ck_111 : ck_m 111 = true := by decide +kernel
theorem ck_112 : ck_m 112 = true := by decide +kernel
theorem ck_113 : ck_m 113 = true := by decide +kernel
theorem ck_114 : ck_m 114 = true := by decide +kernel
theorem ck_115 : ck_m 115 = true := by decide +kernel
theorem ck_116 : ck_m 116 = true := by decide +kernel
theorem ck_117 : ck_m 117 = true := by decide +kernel
theorem ck_118 : ck_m 118 = true := by decide +kernel
theorem ck_119 : ck_m 119 = true := by decide +kernel
theorem ck_120 : ck_m 120 = true := by decide +kernel
theorem ck_121 : ck_m 121 = true := by decide +kernel
theorem ck_122 : ck_m 122 = true := by decide +kernel
theorem ck_123 : ck_m 123 = true := by decide +kernel
theorem ck_124 : ck_m 124 = true := by decide +kernel
theorem ck_125 : ck_m 125 = true := by decide +kernel
theorem ck_126 : ck_m 126 = true := by decide +kernel
theorem ck_127 : ck_m 127 = true := by decide +kernel
theorem ck_128 : ck_m 128 = true := by decide +kernel
theorem ck_129 : ck_m 129 = true := by decide +kernel
theorem ck_130 : ck_m 130 = true := by decide +kernel
theorem ck_131 : ck_m 131 = true := by decide +kernel
theorem ck_132 : ck_m 132 = true := by decide +kernel
theorem ck_133 : ck_m 133 = true := by decide +kernel
theorem ck_134 : ck_m 134 = true := by decide +kernel
theorem ck_135 : ck_m 135 = true := by decide +kernel
theorem ck_136 : ck_m 136 = true := by decide +kernel
theorem ck_137 : ck_m 137 = true := by decide +kernel
theorem ck_138 : ck_m 138 = true := by decide +kernel
theorem ck_139 : ck_m 139 = true := by decide +kernel
theorem ck_140 : ck_m 140 = true := by decide +kernel
theorem ck_141 : ck_m 141 = true := by decide +kernel
theorem ck_142 : ck_m 142 = true := by decide +kernel
theorem ck_143 : ck_m 143 = true := by decide +kernel
theorem ck_144 : ck_m 144 = true := by decide +kernel
theorem ck_145 : ck_m 145 = true := by decide +kernel
theorem ck_146 : ck_m 146 = true := by decide +kernel
theorem ck_147 : ck_m 147 = true := by decide +kernel
theorem ck_148 : ck_m 148 = true := by decide +kernel
theorem ck_149 : ck_m 149 = true := by decide +kernel
theorem ck_150 : ck_m 150 = true := by decide +kernel
theorem ck_151 : ck_m 151 = true := by decide +kernel
theorem ck_152 : ck_m 152 = true := by decide +kernel
theorem ck_153 : ck_m 153 = true := by decide +kernel
theorem ck_154 : ck_m 154 = true := by decide +kernel
theorem ck_155 : ck_m 155 = true := by decide +kernel
theorem ck_156 : ck_m 156 = true := by decide +kernel
theorem ck_157 : ck_m 157 = true := by decide +kernel
theorem ck_158 : ck_m 158 = true := by decide +kernel
theorem ck_159 : ck_m 159 = true := by decide +kernel
theorem ck_160 : ck_m 160 = true := by decide +kernel
theorem ck_161 : ck_m 161 = true := by decide +kernel
theorem ck_162 : ck_m 162 = true := by decide +kernel
theorem ck_163 : ck_m 163 = true := by decide +kernel
theorem ck_164 : ck_m 164 = true := by decide +kernel
theorem ck_165 : ck_m 165 = true := by decide +kernel
theorem ck_166 : ck_m 166 = true := by decide +kernel
theorem ck_167 : ck_m 167 = true := by decide +kernel
theorem ck_168 : ck_m 168 = true := by decide +kernel
theorem ck_169 : ck_m 169 = true := by decide +kernel
theorem ck_170 : ck_m 170 = true := by decide +kernel
theorem ck_171 : ck_m 171 = true := by decide +kernel
theorem ck_172 : ck_m 172 = true := by decide +kernel
theorem ck_173 : ck_m 173 = true := by decide +kernel
theorem ck_174 : ck_m 174 = true := by decide +kernel
theorem ck_175 : ck_m 175 = true := by decide +kernel
theorem ck_176 : ck_m 176 = true := by decide +kernel
theorem ck_177 : ck_m 177 = true := by decide +kernel
theorem ck_178 : ck_m 178 = true := by decide +kernel
theorem ck_179 : ck_m 179 = true := by decide +kernel
theorem ck_180 : ck_m 180 = true := by decide +kernel
theorem ck_181 : ck_m 181 = true := by decide +kernel
theorem ck_182 : ck_m 182 = true := by decide +kernel
theorem ck_183 : ck_m 183 = true := by decide +kernel
theorem ck_184 : ck_m 184 = true := by decide +kernel
theorem ck_185 : ck_m 185 = true := by decide +kernel
theorem ck_186 : ck_m 186 = true := by decide +kernel
theorem ck_187 : ck_m 187 = true := by decide +kernel
theorem ck_188 : ck_m 188 = true := by decide +kernel
theorem ck_189 : ck_m 189 = true := by decide +kernel
theorem ck_190 : ck_m 190 = true := by decide +kernel
theorem ck_191 : ck_m 191 = true := by decide +kernel
theorem ck_192 : ck_m 192 = true := by decide +kernel
theorem ck_193 : ck_m 193 = true := by decide +kernel
theorem ck_194 : ck_m 194 = true := by decide +kernel
theorem ck_195 : ck_m 195 = true := by decide +kernel
theorem ck_196 : ck_m 196 = true := by decide +kernel
theorem ck_197 : ck_m 197 = true := by decide +kernel
theorem ck_198 : ck_m 198 = true := by decide +kernel
theorem ck_199 : ck_m 199 = true := by decide +kernel
theorem ck_200 : ck_m 200 = true := by decide +kernel
theorem ck_201 : ck_m 201 = true := by decide +kernel
theorem ck_202 : ck_m 202 = true := by decide +kernel
theorem ck_203 : ck_m 203 = true := by decide +kernel
theorem ck_204 : ck_m 204 = true := by decide +kernel
theorem ck_205 : ck_m 205 = true := by decide +kernel
theorem ck_206 : ck_m 206 = true := by decide +kernel
theorem ck_207 : ck_m 207 = true := by decide +kernel
theorem ck_208 : ck_m 208 = true := by decide +kernel
theorem ck_209 : ck_m 209 = true := by decide +kernel
theorem ck_210 : ck_m 210 = true := by decide +kernel
theorem ck_211 : ck_m 211 = true := by decide +kernel
theorem ck_212 : ck_m 212 = true := by decide +kernel
theorem ck_213 : ck_m 213 = true := by decide +kernel
theorem ck_214 : ck_m 214 = true := by decide +kernel
theorem ck_215 : ck_m 215 = true := by decide +kernel
theorem ck_216 : ck_m 216 = true := by decide +kernel
theorem ck_217 : ck_m 217 = true := by decide +kernel
theorem ck_218 : ck_m 218 = true := by decide +kernel
theorem ck_219 : ck_m 219 = true := by decide +kernel
theorem ck_220 : ck_m 220 = true := by decide +kernel
theorem ck_221 : ck_m 221 = true := by decide +kernel
theorem ck_222 : ck_m 222 = true := by decide +kernel
theorem ck_223 : ck_m 223 = true := by decide +kernel
theorem ck_224 : ck_m 224 = true := by decide +kernel
theorem ck_225 : ck_m 225 = true := by decide +kernel
theorem ck_226 : ck_m 226 = true := by decide +kernel
theorem ck_227 : ck_m 227 = true := by decide +kernel
theorem ck_228 : ck_m 228 = true := by decide +kernel
theorem ck_229 : ck_m 229 = true := by decide +kernel
theorem ck_230 : ck_m 230 = true := by decide +kernel
theorem ck_231 : ck_m 231 = true := by decide +kernel
theorem ck_232 : ck_m 232 = true := by decide +kernel
theorem ck_233 : ck_m 233 = true := by decide +kernel
theorem ck_234 : ck_m 234 = true := by decide +kernel
theorem ck_235 : ck_m 235 = true := by decide +kernel
theorem ck_236 : ck_m 236 = true := by decide +kernel
theorem ck_237 : ck_m 237 = true := by decide +kernel
theorem ck_238 : ck_m 238 = true := by decide +kernel
theorem ck_239 : ck_m 239 = true := by decide +kernel
theorem ck_240 : ck_m 240 = true := by decide +kernel
theorem ck_241 : ck_m 241 = true := by decide +kernel
theorem ck_242 : ck_m 242 = true := by decide +kernel
theorem ck_243 : ck_m 243 = true := by decide +kernel
theorem ck_244 : ck_m 244 = true := by decide +kernel
theorem ck_245 : ck_m 245 = true := by decide +kernel
theorem ck_246 : ck_m 246 = true := by decide +kernel
theorem ck_247 : ck_m 247 = true := by decide +kernel
theorem ck_248 : ck_m 248 = true := by decide +kernel
theorem ck_249 : ck_m 249 = true := by decide +kernel
theorem ck_250 : ck_m 250 = true := by decide +kernel
theorem ck_251 : ck_m 251 = true := by decide +kernel
theorem ck_252 : ck_m 252 = true := by decide +kernel
theorem ck_253 : ck_m 253 = true := by decide +kernel
theorem ck_254 : ck_m 254 = true := by decide +kernel
theorem ck_255 : ck_m 255 = true := by decide +kernel
theorem ck_256 : ck_m 256 = true := by decide +kernel
theorem ck_257 : ck_m 257 = true := by decide +kernel
theorem ck_258 : ck_m 258 = true := by decide +kernel
theorem ck_259 : ck_m 259 = true := by decide +kernel
theorem ck_260 : ck_m 260 = true := by decide +kernel
theorem ck_261 : ck_m 261 = true := by decide +kernel
theorem ck_262 : ck_m 262 = true := by decide +kernel
theorem ck_263 : ck_m 263 = true := by decide +kernel
theorem ck_264 : ck_m 264 = true := by decide +kernel
theorem ck_265 : ck_m 265 = true := by decide +kernel
theorem ck_266 : ck_m 266 = true := by decide +kernel
theorem ck_267 : ck_m 267 = true := by decide +kernel
theorem ck_268 : ck_m 268 = true := by decide +kernel
theorem ck_269 : ck_m 269 = true := by decide +kernel
theorem ck_270 : ck_m 270 = true := by decide +kernel
theorem ck_271 : ck_m 271 = true := by decide +kernel
theorem ck_272 : ck_m 272 = true := by decide +kernel
theorem ck_273 : ck_m 273 = true := by decide +kernel
theorem ck_274 : ck_m 274 = true := by decide +kernel
theorem ck_275 : ck_m 275 = true := by decide +kernel
theorem ck_276 : ck_m 276 = true := by decide +kernel
theorem ck_277 : ck_m 277 = true := by decide +kernel
theorem ck_278 : ck_m 278 = true := by decide +kernel
theorem ck_279 : ck_m 279 = true := by decide +kernel
theorem ck_280 : ck_m 280 = true := by decide +kernel
theorem ck_281 : ck_m 281 = true := by decide +kernel
theorem ck_282 : ck_m 282 = true := by decide +kernel
theorem ck_283 : ck_m 283 = true := by decide +kernel
theorem ck_284 : ck_m 284 = true := by decide +kernel
set_option maxRecDepth 100000 in
theorem ck_ok : ∀ m : Nat, 2 ≤ m → m < 285 → ck_m m = true
  | 0, h, _ => absurd h (by decide)
  | 1, h, _ => absurd h (by decide)
  | 2, _, _ => ck_2
  | 3, _, _ => ck_3
  | 4, _, _ => ck_4
  | 5, _, _ => ck_5
  | 6, _, _ => ck_6
  | 7, _, _ => ck_7
  | 8, _, _ => ck_8
  | 9, _, _ => ck_9
  | 10, _, _ => ck_10
  | 11, _, _ => ck_11
  | 12, _, _ => ck_12
  | 13, _, _ => ck_13
  | 14, _, _ => ck_14
  | 15, _, _ => ck_15
  | 16, _, _ => ck_16
  | 17, _, _ => ck_17
  | 18, _, _ => ck_18
  | 19, _, _ => ck_19
  | 20, _, _ => ck_20
  | 21, _, _ => ck_21
  | 22, _, _ => ck_22
  | 23, _, _ => ck_23
  | 24, _, _ => ck_24
  | 25, _, _ => ck_25
  | 26, _, _ => ck_26
  | 27, _, _ => ck_27
  | 28, _, _ => ck_28
  | 29, _, _ => ck_29
  | 30, _, _ => ck_30
  | 31, _, _ => ck_31
  | 32, _, _ => ck_32
  | 33, _, _ => ck_33
  | 34, _, _ => ck_34
  | 35, _, _ => ck_35
  | 36, _, _ => ck_36
  | 37, _, _ => ck_37
  | 38, _, _ => ck_38
  | 39, _, _ => ck_39
  | 40, _, _ => ck_40
  | 41, _, _ => ck_41
  | 42, _, _ => ck_42
  | 43, _, _ => ck_43
  | 44, _, _ => ck_44
  | 45, _, _ => ck_45
  | 46, _, _ => ck_46
  | 47, _, _ => ck_47
  | 48, _, _ => ck_48
  | 49, _, _ => ck_49
  | 50, _, _ => ck_50
  | 51, _, _ => ck_51
  | 52, _, _ => ck_52
  | 53, _, _ => ck_53
  | 54, _, _ => ck_54
  | 55, _, _ => ck_55
  | 56, _, _ => ck_56
  | 57, _, _ => ck_57
  | 58, _, _ => ck_58
  | 59, _, _ => ck_59
  | 60, _, _ => ck_60
  | 61, _, _ => ck_61
  | 62, _, _ => ck_62
  | 63, _, _ => ck_63
  | 64, _, _ => ck_64
  | 65, _, _ => ck_65
  | 66, _, _ => ck_66
  | 67, _, _ => ck_67
  | 68, _, _ => ck_68
  | 69, _, _ => ck_69
  | 70, _, _ => ck_70
  | 71, _, _ => ck_71
  | 72, _, _ => ck_72
  | 73, _, _ => ck_73
  | 74, _, _ => ck_74
  | 75, _, _ => ck_75
  | 76, _, _ => ck_76
  | 77, _, _ => ck_77
  | 78, _, _ => ck_78
  | 79, _, _ => ck_79
  | 80, _, _ => ck_80
  | 81, _, _ => ck_81
  | 82, _, _ => ck_82
  | 83, _, _ => ck_83
  | 84, _, _ => ck_84
  | 85, _, _ => ck_85
  | 86, _, _ => ck_86
  | 87, _, _ => ck_87
  | 88, _, _ => ck_88
  | 89, _, _ => ck_89
  | 90, _, _ => ck_90
  | 91, _, _ => ck_91
  | 92, _, _ => ck_92
  | 93, _, _ => ck_93
  | 94, _, _ => ck_94
  | 95, _, _ => ck_95
  | 96, _, _ => ck_96
  | 97, _, _ => ck_97
  | 98, _, _ => ck_98
  | 99, _, _ => ck_99
  | 100, _, _ => ck_100
  | 101, _, _ => ck_101
  | 102, _, _ => ck_102
  | 103, _, _ => ck_103
  | 104, _, _ => ck_104
  | 105, _, _ => ck_105
  | 106, _, _ => ck_106
  | 107, _, _ => ck_107
  | 108, _, _ => ck_108
  | 109, _, _ => ck_109
  | 110, _, _ => ck_110
  | 111, _, _ => ck_111
  | 112, _, _ => ck_112
  | 113, _, _ => ck_113
  | 114, _, _ => ck_114
  | 115, _, _ => ck_115
  | 116, _, _ => ck_116
  | 117, _, _ => ck_117
  | 118, _, _ => ck_118
  | 119, _, _ => ck_119
  | 120, _, _ => ck_120
  | 121, _, _ => ck_121
  | 122, _, _ => ck_122
  | 123, _, _ => ck_123
  | 124, _, _ => ck_124
  | 125, _, _ => ck_125
  | 126, _, _ => ck_126
  | 127, _, _ => ck_127
  | 128, _, _ => ck_128
  | 129, _, _ => ck_129
  | 130, _, _ => ck_130
  | 131, _, _ => ck_131
  | 132, _, _ => ck_132
  | 133, _, _ => ck_133
  | 134, _, _ => ck_134
  | 135, _, _ => ck_135
  | 136, _, _ => ck_136
  | 137, _, _ => ck_137
  | 138, _, _ => ck_138
  | 139, _, _ => ck_139
  | 140, _, _ => ck_140
  | 141, _, _ => ck_141
  | 142, _, _ => ck_142
  | 143, _, _ => ck_143
  | 144, _, _ => ck_144
  | 145, _, _ => ck_145
  | 146, _, _ => ck_146
  | 147, _, _ => ck_147
  | 148, _, _ => ck_148
  | 149, _, _ => ck_149
  | 150, _, _ => ck_150
  | 151, _, _ => ck_151
  | 152, _, _ => ck_152
  | 153, _, _ => ck_153
  | 154, _, _ => ck_154
  | 155, _, _ => ck_155
  | 156, _, _ => ck_156
  | 157, _, _ => ck_157
  | 158, _, _ => ck_158
  | 159, _, _ => ck_159
  | 160, _, _ => ck_160
  | 161, _, _ => ck_161
  | 162, _, _ => ck_162
  | 163, _, _ => ck_163
  | 164, _, _ => ck_164
  | 165, _, _ => ck_165
  | 166, _, _ => ck_166
  | 167, _, _ => ck_167
  | 168, _, _ => ck_168
  | 169, _, _ => ck_169
  | 170, _, _ => ck_170
  | 171, _, _ => ck_171
  | 172, _, _ => ck_172
  | 173, _, _ => ck_173
  | 174, _, _ => ck_174
  | 175, _, _ => ck_175
  | 176, _, _ => ck_176
  | 177, _, _ => ck_177
  | 178, _, _ => ck_178
  | 179, _, _ => ck_179
  | 180, _, _ => ck_180
  | 181, _, _ => ck_181
  | 182, _, _ => ck_182
  | 183, _, _ => ck_183
  | 184, _, _ => ck_184
  | 185, _, _ => ck_185
  | 186, _, _ => ck_186
  | 187, _, _ => ck_187
  | 188, _, _ => ck_188
  | 189, _, _ => ck_189
  | 190, _, _ => ck_190
  | 191, _, _ => ck_191
  | 192, _, _ => ck_192
  | 193, _, _ => ck_193
  | 194, _, _ => ck_194
  | 195, _, _ => ck_195
  | 196, _, _ => ck_196
  | 197, _, _ => ck_197
  | 198, _, _ => ck_198
  | 199, _, _ => ck_199
  | 200, _, _ => ck_200
  | 201, _, _ => ck_201
  | 202, _, _ => ck_202
  | 203, _, _ => ck_203
  | 204, _, _ => ck_204
  | 205, _, _ => ck_205
  | 206, _, _ => ck_206
  | 207, _, _ => ck_207
  | 208, _, _ => ck_208
  | 209, _, _ => ck_209
  | 210, _, _ => ck_210
  | 211, _, _ => ck_211
  | 212, _, _ => ck_212
  | 213, _, _ => ck_213
  | 214, _, _ => ck_214
  | 215, _, _ => ck_215
  | 216, _, _ => ck_216
  | 217, _, _ => ck_217
  | 218, _, _ => ck_218
  | 219, _, _ => ck_219
  | 220, _, _ => ck_220
  | 221, _, _ => ck_221
  | 222, _, _ => ck_222
  | 223, _, _ => ck_223
  | 224, _, _ => ck_224
  | 225, _, _ => ck_225
  | 226, _, _ => ck_226
  | 227, _, _ => ck_227
  | 228, _, _ => ck_228
  | 229, _, _ => ck_229
  | 230, _, _ => ck_230
  | 231, _, _ => ck_231
  | 232, _, _ => ck_232
  | 233, _, _ => ck_233
  | 234, _, _ => ck_234
  | 235, _, _ => ck_235
  | 236, _, _ => ck_236
  | 237, _, _ => ck_237
  | 238, _, _ => ck_238
  | 239, _, _ => ck_239
  | 240, _, _ => ck_240
  | 241, _, _ => ck_241
  | 242, _, _ => ck_242
  | 243, _, _ => ck_243
  | 244, _, _ => ck_244
  | 245, _, _ => ck_245
  | 246, _, _ => ck_246
  | 247, _, _ => ck_247
  | 248, _, _ => ck_248
  | 249, _, _ => ck_249
  | 250, _, _ => ck_250
  | 251, _, _ => ck_251
  | 252, _, _ => ck_252
  | 253, _, _ => ck_253
  | 254, _, _ => ck_254
  | 255, _, _ => ck_255
  | 256, _, _ => ck_256
  | 257, _, _ => ck_257
  | 258, _, _ => ck_258
  | 259, _, _ => ck_259
  | 260, _, _ => ck_260
  | 261, _, _ => ck_261
  | 262, _, _ => ck_262
  | 263, _, _ => ck_263
  | 264, _, _ => ck_264
  | 265, _, _ => ck_265
  | 266, _, _ => ck_266
  | 267, _, _ => ck_267
  | 268, _, _ => ck_268
  | 269, _, _ => ck_269
  | 270, _, _ => ck_270
  | 271, _, _ => ck_271
  | 272, _, _ => ck_272
  | 273, _, _ => ck_273
  | 274, _, _ => ck_274
  | 275, _, _ => ck_275
  | 276, _, _ => ck_276
  | 277, _, _ => ck_277
  | 278, _, _ => ck_278
  | 279, _, _ => ck_279
  | 280, _, _ => ck_280
  | 281, _, _ => ck_281
  | 282, _, _ => ck_282
  | 283, _, _ => ck_283
  | 284, _, _ => ck_284
  | n + 285, _, h => absurd h (by omega)
