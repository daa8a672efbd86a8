/-! the plain machine: ints, longs as whole numbers (a representative), references as cell numbers; a method is a list of blocks -/
abbrev hh_Av : Type := Int ⊕ (Int ⊕ Nat)
abbrev hh_Lo : Type := List (Option hh_Av)
abbrev hh_Sk : Type := List hh_Av
abbrev hh_Sh : Type := Nat × (Nat → Nat × Nat × List Nat)
abbrev hh_Sv : Type := Nat → Nat → Int
abbrev hh_Mm : Type := hh_Sh × hh_Sv
abbrev hh_Rs : Type := Int × hh_Mm
abbrev hh_Ex : Type := Nat × Nat × Nat × Nat
abbrev hh_En : Type := Nat × Instr × hh_Ex
abbrev hh_Bk : Type := List hh_En × Nat × List Bool × Bool
/-- the same number, not to be looked into -/
noncomputable def opq (x : Int) : Int := Classical.choose (⟨x, rfl⟩ : ∃ y, y = x)
theorem opq_eq (x : Int) : opq x = x := Classical.choose_spec (⟨x, rfl⟩ : ∃ y, y = x)
noncomputable def w32 (z : Int) : Int := opq (Int.bmod z 4294967296)
noncomputable def w64 (z : Int) : Int := opq (Int.bmod z 18446744073709551616)
noncomputable def b8 (z : Int) : Int := opq (Int.bmod z 256)
noncomputable def u16 (z : Int) : Int := opq (z % 65536)
noncomputable def bAnd (a b : Int) : Int := opq (BitVec.ofInt 64 a &&& BitVec.ofInt 64 b).toInt
noncomputable def bOr (a b : Int) : Int := opq (BitVec.ofInt 64 a ||| BitVec.ofInt 64 b).toInt
noncomputable def bXor (a b : Int) : Int := opq (BitVec.ofInt 64 a ^^^ BitVec.ofInt 64 b).toInt
noncomputable def iShl (a b : Int) : Int := opq (a * 2 ^ (b % 32).toNat)
noncomputable def iShr (a b : Int) : Int := opq (w32 a / 2 ^ (b % 32).toNat)
noncomputable def iUshr (a b : Int) : Int := opq ((a % 4294967296) / 2 ^ (b % 32).toNat)
noncomputable def lShl (a b : Int) : Int := opq (a * 2 ^ (b % 64).toNat)
noncomputable def lUshr (a b : Int) : Int := opq ((a % 18446744073709551616) / 2 ^ (b % 64).toNat)
noncomputable def tDiv (a b : Int) : Int := opq (Int.tdiv a b)
noncomputable def tMod (a b : Int) : Int := opq (Int.tmod a b)
noncomputable def lCmp (a b : Int) : Int := opq (if w64 a < w64 b then -1 else if w64 a = w64 b then 0 else 1)
def hh_sh (M : hh_Mm) (k : Nat) : Nat × Nat × List Nat := M.1.2 k
def hh_us (f : Nat → Nat × Nat × List Nat) (k : Nat) (v : Nat × Nat × List Nat) : Nat → Nat × Nat × List Nat := fun a => if a = k then v else f a
def up (s : hh_Sv) (k j : Nat) (v : Int) : hh_Sv := fun a b => if a = k ∧ b = j then v else s a b
def hh_z (s : hh_Sv) (k : Nat) : hh_Sv := fun a b => if a = k then 0 else s a b
def cpy (s : hh_Sv) (q sp d dp n : Nat) : hh_Sv := fun a b => if a = d ∧ dp ≤ b ∧ b < dp + n then s q (sp + (b - dp)) else s a b
def hh_clr (ls : hh_Lo) (i : Nat) : hh_Lo := match i with
  | 0 => ls
  | i + 1 => match ls.getD i none with
    | some (.inr (.inl _)) => ls.set i none
    | _ => ls
def hh_st1 (ls : hh_Lo) (i : Nat) (v : hh_Av) : hh_Lo := (hh_clr ls i).set i (some v)
def hh_st2 (ls : hh_Lo) (i : Nat) (v : hh_Av) : hh_Lo := ((hh_clr ls i).set i (some v)).set (i + 1) none
/-- the same, the list laid out first -/
def hh_frc {α : Type} : List α → (List α → Option hh_Rs) → Option hh_Rs
  | [], k => k []
  | x :: l, k => hh_frc l (fun r => k (x :: r))
theorem hh_frc_eq {α : Type} : ∀ (l : List α) (k : List α → Option hh_Rs), hh_frc l k = k l
  | [], _ => rfl
  | x :: l, k => hh_frc_eq l (fun r => k (x :: r))
def hh_lay : List hh_Av → hh_Lo
  | [] => []
  | .inl z :: r => some (.inl z) :: hh_lay r
  | .inr (.inl z) :: r => some (.inr (.inl z)) :: none :: hh_lay r
  | .inr (.inr z) :: r => some (.inr (.inr z)) :: hh_lay r
def hh_ent (n : Nat) (as : List hh_Av) : hh_Lo := hh_lay as ++ List.replicate (n - (hh_lay as).length) none
def hh_cat : hh_Sk → Nat
  | [] => 0
  | .inl _ :: r => hh_cat r + 1
  | .inr (.inl _) :: r => hh_cat r + 2
  | .inr (.inr _) :: r => hh_cat r + 1
def br {α : Type} (c : Jvm.ClassFile.Cond) (x y : Int) (A B : α) : α := match c with
  | .eq => if x = y then A else B
  | .ne => if x = y then B else A
  | .lt => if x < y then A else B
  | .ge => if x < y then B else A
  | .gt => if y < x then A else B
  | .le => if y < x then B else A
def swt {α : Type} (F : Nat → α) (d : Nat) (x : Int) : List (Int × Nat) → α
  | [] => F d
  | q :: r => if x = q.1 then F q.2 else swt F d x r
section
variable (KI : List Int) (KS : List (Nat × List (Int × Nat))) (F : Nat → hh_Lo → hh_Sk → hh_Mm → Option hh_Rs) (C : Nat → List hh_Av → hh_Mm → Option hh_Rs)
def s_ld (i t : Nat) (ls : hh_Lo) (st : hh_Sk) (M : hh_Mm) (kk : hh_Lo → hh_Sk → hh_Mm → Option hh_Rs) : Option hh_Rs := match t, ls.getD i none with
  | 0, some (.inl z) => kk ls (.inl z :: st) M
  | 1, some (.inr (.inl z)) => kk ls (.inr (.inl z) :: st) M
  | 2, some (.inr (.inr z)) => kk ls (.inr (.inr z) :: st) M
  | _, _ => none
def s_sto (i t : Nat) (ls : hh_Lo) (st : hh_Sk) (M : hh_Mm) (kk : hh_Lo → hh_Sk → hh_Mm → Option hh_Rs) : Option hh_Rs := match t, st with
  | 0, .inl z :: st => if i < ls.length then hh_frc (hh_st1 ls i (.inl z)) (fun ls => kk ls st M) else none
  | 1, .inr (.inl z) :: st => if i + 1 < ls.length then hh_frc (hh_st2 ls i (.inr (.inl z))) (fun ls => kk ls st M) else none
  | 2, .inr (.inr z) :: st => if i < ls.length then hh_frc (hh_st1 ls i (.inr (.inr z))) (fun ls => kk ls st M) else none
  | _, _ => none
def s_iinc (i : Nat) (n : Int) (ls : hh_Lo) (st : hh_Sk) (M : hh_Mm) (kk : hh_Lo → hh_Sk → hh_Mm → Option hh_Rs) : Option hh_Rs := match ls.getD i none with
  | some (.inl z) => hh_frc (hh_st1 ls i (.inl (z + n))) (fun ls => kk ls st M)
  | _ => none
def s_ii (f : Int → Int → Int) (ls : hh_Lo) (st : hh_Sk) (M : hh_Mm) (kk : hh_Lo → hh_Sk → hh_Mm → Option hh_Rs) : Option hh_Rs := match st with
  | .inl b :: .inl a :: st => kk ls (.inl (f a b) :: st) M
  | _ => none
def s_ll (f : Int → Int → Int) (ls : hh_Lo) (st : hh_Sk) (M : hh_Mm) (kk : hh_Lo → hh_Sk → hh_Mm → Option hh_Rs) : Option hh_Rs := match st with
  | .inr (.inl b) :: .inr (.inl a) :: st => kk ls (.inr (.inl (f a b)) :: st) M
  | _ => none
def s_li (f : Int → Int → Int) (ls : hh_Lo) (st : hh_Sk) (M : hh_Mm) (kk : hh_Lo → hh_Sk → hh_Mm → Option hh_Rs) : Option hh_Rs := match st with
  | .inl b :: .inr (.inl a) :: st => kk ls (.inr (.inl (f a b)) :: st) M
  | _ => none
noncomputable def s_idiv (f : Int → Int → Int) (ls : hh_Lo) (st : hh_Sk) (M : hh_Mm) (kk : hh_Lo → hh_Sk → hh_Mm → Option hh_Rs) : Option hh_Rs := match st with
  | .inl b :: .inl a :: st => if w32 b = 0 then none else kk ls (.inl (f (w32 a) (w32 b)) :: st) M
  | _ => none
noncomputable def s_ldiv (f : Int → Int → Int) (ls : hh_Lo) (st : hh_Sk) (M : hh_Mm) (kk : hh_Lo → hh_Sk → hh_Mm → Option hh_Rs) : Option hh_Rs := match st with
  | .inr (.inl b) :: .inr (.inl a) :: st => if w64 b = 0 then none else kk ls (.inr (.inl (f (w64 a) (w64 b))) :: st) M
  | _ => none
def s_i (f : Int → Int) (ls : hh_Lo) (st : hh_Sk) (M : hh_Mm) (kk : hh_Lo → hh_Sk → hh_Mm → Option hh_Rs) : Option hh_Rs := match st with
  | .inl a :: st => kk ls (.inl (f a) :: st) M
  | _ => none
def s_il (f : Int → Int) (ls : hh_Lo) (st : hh_Sk) (M : hh_Mm) (kk : hh_Lo → hh_Sk → hh_Mm → Option hh_Rs) : Option hh_Rs := match st with
  | .inl a :: st => kk ls (.inr (.inl (f a)) :: st) M
  | _ => none
def s_l (ls : hh_Lo) (st : hh_Sk) (M : hh_Mm) (kk : hh_Lo → hh_Sk → hh_Mm → Option hh_Rs) : Option hh_Rs := match st with
  | .inr (.inl a) :: st => kk ls (.inr (.inl (-a)) :: st) M
  | _ => none
def s_l2i (ls : hh_Lo) (st : hh_Sk) (M : hh_Mm) (kk : hh_Lo → hh_Sk → hh_Mm → Option hh_Rs) : Option hh_Rs := match st with
  | .inr (.inl a) :: st => kk ls (.inl a :: st) M
  | _ => none
noncomputable def s_lcmp (ls : hh_Lo) (st : hh_Sk) (M : hh_Mm) (kk : hh_Lo → hh_Sk → hh_Mm → Option hh_Rs) : Option hh_Rs := match st with
  | .inr (.inl b) :: .inr (.inl a) :: st => kk ls (.inl (lCmp a b) :: st) M
  | _ => none
def s_dup (ls : hh_Lo) (st : hh_Sk) (M : hh_Mm) (kk : hh_Lo → hh_Sk → hh_Mm → Option hh_Rs) : Option hh_Rs := match st with
  | .inl a :: st => kk ls (.inl a :: .inl a :: st) M
  | .inr (.inr a) :: st => kk ls (.inr (.inr a) :: .inr (.inr a) :: st) M
  | _ => none
def s_dup2 (ls : hh_Lo) (st : hh_Sk) (M : hh_Mm) (kk : hh_Lo → hh_Sk → hh_Mm → Option hh_Rs) : Option hh_Rs := match st with
  | .inr (.inl a) :: st => kk ls (.inr (.inl a) :: .inr (.inl a) :: st) M
  | .inl a :: .inr (.inr b) :: st => kk ls (.inl a :: .inr (.inr b) :: .inl a :: .inr (.inr b) :: st) M
  | _ => none
def s_pop (ls : hh_Lo) (st : hh_Sk) (M : hh_Mm) (kk : hh_Lo → hh_Sk → hh_Mm → Option hh_Rs) : Option hh_Rs := match st with
  | .inl a :: st => kk ls st M
  | .inr (.inr a) :: st => kk ls st M
  | _ => none
def s_get (x : hh_Ex) (ls : hh_Lo) (st : hh_Sk) (M : hh_Mm) (kk : hh_Lo → hh_Sk → hh_Mm → Option hh_Rs) : Option hh_Rs := match st with
  | .inr (.inr k) :: st => if (hh_sh M k).1 = 20 + x.1 then (match x.2.2.1 with
    | 0 => kk ls (.inl (M.2 k x.2.1) :: st) M
    | 1 => kk ls (.inr (.inl (M.2 k x.2.1)) :: st) M
    | 2 => kk ls (.inr (.inr (M.2 k x.2.1).toNat) :: st) M
    | 4 => kk ls (.inl (M.2 k x.2.1) :: st) M
    | _ => kk ls (.inr (.inr ((hh_sh M k).2.2.getD x.2.1 0)) :: st) M) else none
  | _ => none
def s_put (x : hh_Ex) (ls : hh_Lo) (st : hh_Sk) (M : hh_Mm) (kk : hh_Lo → hh_Sk → hh_Mm → Option hh_Rs) : Option hh_Rs := match x.2.2.1, st with
  | 0, .inl v :: .inr (.inr k) :: st => if (hh_sh M k).1 = 20 + x.1 then (if 8 ≤ k then kk ls st (M.1, up M.2 k x.2.1 v) else none) else none
  | 4, .inl v :: .inr (.inr k) :: st => if (hh_sh M k).1 = 20 + x.1 then (if 8 ≤ k then (if v = 0 ∨ v = 1 then kk ls st (M.1, up M.2 k x.2.1 v) else none) else none) else none
  | 1, .inr (.inl v) :: .inr (.inr k) :: st => if (hh_sh M k).1 = 20 + x.1 then (if 8 ≤ k then kk ls st (M.1, up M.2 k x.2.1 v) else none) else none
  | 2, .inr (.inr v) :: .inr (.inr k) :: st => if (hh_sh M k).1 = 20 + x.1 then (if 8 ≤ k then (if 0 < v then kk ls st (M.1, up M.2 k x.2.1 v) else none) else none) else none
  | 3, .inr (.inr v) :: .inr (.inr k) :: st => if (hh_sh M k).1 = 20 + x.1 then (if 8 ≤ k then (if 0 < v then kk ls st ((M.1.1, hh_us M.1.2 k ((hh_sh M k).1, (hh_sh M k).2.1, (hh_sh M k).2.2.set x.2.1 v)), M.2) else none) else none) else none
  | _, _ => none
def s_ald (t : Nat) (ls : hh_Lo) (st : hh_Sk) (M : hh_Mm) (kk : hh_Lo → hh_Sk → hh_Mm → Option hh_Rs) : Option hh_Rs := match st with
  | .inl i :: .inr (.inr k) :: st => if (hh_sh M k).1 = t then (if 0 ≤ i ∧ i < (hh_sh M k).2.1 then (match t with
    | 3 => kk ls (.inr (.inl (M.2 k i.toNat)) :: st) M
    | _ => kk ls (.inl (M.2 k i.toNat) :: st) M) else none) else none
  | _ => none
def s_aald (t : Nat) (ls : hh_Lo) (st : hh_Sk) (M : hh_Mm) (kk : hh_Lo → hh_Sk → hh_Mm → Option hh_Rs) : Option hh_Rs := match st with
  | .inl i :: .inr (.inr k) :: st => if (hh_sh M k).1 = t then (if 0 ≤ i ∧ i < (hh_sh M k).2.1 then (match t with
    | 10 => kk ls (.inr (.inr (M.2 k i.toNat).toNat) :: st) M
    | _ => kk ls (.inr (.inr ((hh_sh M k).2.2.getD i.toNat 0)) :: st) M) else none) else none
  | _ => none
noncomputable def s_ast (t : Nat) (ls : hh_Lo) (st : hh_Sk) (M : hh_Mm) (kk : hh_Lo → hh_Sk → hh_Mm → Option hh_Rs) : Option hh_Rs := match t, st with
  | 0, .inl v :: .inl i :: .inr (.inr k) :: st => if (hh_sh M k).1 = 0 then (if 8 ≤ k then (if 0 ≤ i ∧ i < (hh_sh M k).2.1 then kk ls st (M.1, up M.2 k i.toNat v) else none) else none) else none
  | 1, .inl v :: .inl i :: .inr (.inr k) :: st => if (hh_sh M k).1 = 1 then (if 8 ≤ k then (if 0 ≤ i ∧ i < (hh_sh M k).2.1 then kk ls st (M.1, up M.2 k i.toNat (b8 v)) else none) else none) else none
  | 2, .inl v :: .inl i :: .inr (.inr k) :: st => if (hh_sh M k).1 = 2 then (if 8 ≤ k then (if 0 ≤ i ∧ i < (hh_sh M k).2.1 then (if v = 0 ∨ v = 1 then kk ls st (M.1, up M.2 k i.toNat v) else none) else none) else none) else none
  | 3, .inr (.inl v) :: .inl i :: .inr (.inr k) :: st => if (hh_sh M k).1 = 3 then (if 8 ≤ k then (if 0 ≤ i ∧ i < (hh_sh M k).2.1 then kk ls st (M.1, up M.2 k i.toNat v) else none) else none) else none
  | _, _ => none
def s_aast (ci : Nat) (ls : hh_Lo) (st : hh_Sk) (M : hh_Mm) (kk : hh_Lo → hh_Sk → hh_Mm → Option hh_Rs) : Option hh_Rs := match st with
  | .inr (.inr v) :: .inl i :: .inr (.inr k) :: st => if (hh_sh M k).1 = 4 + ci then (if (hh_sh M v).1 = 20 + ci then (if 8 ≤ k ∧ 8 ≤ v then (if 0 ≤ i ∧ i < (hh_sh M k).2.1 then (match ci with
    | 6 => kk ls st (M.1, up M.2 k i.toNat v)
    | _ => kk ls st ((M.1.1, hh_us M.1.2 k ((hh_sh M k).1, (hh_sh M k).2.1, (hh_sh M k).2.2.set i.toNat v)), M.2)) else none) else none) else none) else none
  | _ => none
def s_alen (ls : hh_Lo) (st : hh_Sk) (M : hh_Mm) (kk : hh_Lo → hh_Sk → hh_Mm → Option hh_Rs) : Option hh_Rs := match st with
  | .inr (.inr k) :: st => if (hh_sh M k).1 < 20 then kk ls (.inl ((hh_sh M k).2.1 : Nat) :: st) M else none
  | _ => none
def s_new (ci n : Nat) (ls : hh_Lo) (st : hh_Sk) (M : hh_Mm) (kk : hh_Lo → hh_Sk → hh_Mm → Option hh_Rs) : Option hh_Rs :=
  kk ls (.inr (.inr M.1.1) :: st) ((M.1.1 + 1, hh_us M.1.2 M.1.1 (20 + ci, n, List.replicate n 0)), hh_z M.2 M.1.1)
def s_newa (t : Nat) (ls : hh_Lo) (st : hh_Sk) (M : hh_Mm) (kk : hh_Lo → hh_Sk → hh_Mm → Option hh_Rs) : Option hh_Rs := match st with
  | .inl n :: st => if 0 ≤ n ∧ n < 10000 then kk ls (.inr (.inr M.1.1) :: st) ((M.1.1 + 1, hh_us M.1.2 M.1.1 (t, n.toNat, List.replicate (if t < 4 then 0 else n.toNat) 0)), hh_z M.2 M.1.1) else none
  | _ => none
def s_cpy (ls : hh_Lo) (st : hh_Sk) (M : hh_Mm) (kk : hh_Lo → hh_Sk → hh_Mm → Option hh_Rs) : Option hh_Rs := match st with
  | .inl n :: .inl dp :: .inr (.inr d) :: .inl sp :: .inr (.inr q) :: st =>
    if (hh_sh M q).1 = (hh_sh M d).1 then (if (hh_sh M d).1 = 0 ∨ (hh_sh M d).1 = 3 then (if 8 ≤ q ∧ 8 ≤ d then (if 0 ≤ n ∧ 0 ≤ dp ∧ 0 ≤ sp ∧ dp + n ≤ (hh_sh M d).2.1 ∧ sp + n ≤ (hh_sh M q).2.1 then (if hh_cat st ≤ 8 then kk ls st (M.1, cpy M.2 q sp.toNat d dp.toNat n.toNat) else none) else none) else none) else none) else none
  | _ => none
def s_call (x : hh_Ex) (ls : hh_Lo) (st : hh_Sk) (M : hh_Mm) (kk : hh_Lo → hh_Sk → hh_Mm → Option hh_Rs) : Option hh_Rs :=
  if x.2.1 ≤ st.length then (if hh_cat (st.drop x.2.1) ≤ 8 then (match x.2.2.1 with
    | 0 => (C x.1 (st.take x.2.1).reverse M).bind (fun r => kk ls (st.drop x.2.1) (M.1, r.2.2))
    | 1 => (C x.1 (st.take x.2.1).reverse M).bind (fun r => kk ls (.inl r.1 :: st.drop x.2.1) (M.1, r.2.2))
    | 2 => (C x.1 (st.take x.2.1).reverse M).bind (fun r => kk ls (.inr (.inl r.1) :: st.drop x.2.1) (M.1, r.2.2))
    | 3 => (C x.1 (st.take x.2.1).reverse M).bind (fun r => kk ls (.inr (.inr r.1.toNat) :: st.drop x.2.1) (M.1, r.2.2))
    | _ => (C x.1 (st.take x.2.1).reverse M).bind (fun r => kk ls (st.drop x.2.1) r.2)) else none) else none
def s_recv (x : hh_Ex) (st : hh_Sk) (M : hh_Mm) (r : Option hh_Rs) : Option hh_Rs := match st.getD (x.2.1 - 1) (.inl 0) with
  | .inr (.inr k) => if (hh_sh M k).1 = 20 + x.2.2.2 then r else none
  | _ => none
noncomputable def s_ifc (c : Jvm.ClassFile.Cond) (b : Nat) (ls : hh_Lo) (st : hh_Sk) (M : hh_Mm) (kk : hh_Lo → hh_Sk → hh_Mm → Option hh_Rs) : Option hh_Rs := match st with
  | .inl a :: st => br c (w32 a) 0 (F b ls st M) (kk ls st M)
  | _ => none
noncomputable def s_icmp (c : Jvm.ClassFile.Cond) (b : Nat) (ls : hh_Lo) (st : hh_Sk) (M : hh_Mm) (kk : hh_Lo → hh_Sk → hh_Mm → Option hh_Rs) : Option hh_Rs := match st with
  | .inl y :: .inl x :: st => br c (w32 x) (w32 y) (F b ls st M) (kk ls st M)
  | _ => none
noncomputable def s_sw (t : Nat) (ls : hh_Lo) (st : hh_Sk) (M : hh_Mm) : Option hh_Rs := match st with
  | .inl a :: st => swt (fun b => F b ls st M) (KS.getD t (0, [])).1 (w32 a) (KS.getD t (0, [])).2
  | _ => none
def s_ret (t : Nat) (st : hh_Sk) (M : hh_Mm) : Option hh_Rs := match t, st with
  | 0, [] => some (0, M)
  | 1, [.inl a] => some (a, M)
  | 2, [.inr (.inl a)] => some (a, M)
  | 3, [.inr (.inr a)] => if 0 < a then some ((a : Int), M) else none
  | 4, [.inl a] => if a = 0 ∨ a = 1 then some (a, M) else none
  | 5, [.inl a] => if 0 ≤ a ∧ a < 128 then some (a, M) else none
  | _, _ => none
def s_oi (ls : hh_Lo) (st : hh_Sk) (M : hh_Mm) (kk : hh_Lo → hh_Sk → hh_Mm → Option hh_Rs) : Option hh_Rs := match st with
  | .inr (.inr k) :: st => if 8 ≤ k ∧ hh_cat st ≤ 8 then kk ls st M else none
  | _ => none
noncomputable def hh_stp (e : hh_En) (ls : hh_Lo) (st : hh_Sk) (M : hh_Mm) (kk : hh_Lo → hh_Sk → hh_Mm → Option hh_Rs) : Option hh_Rs := match e.2.1 with
  | .iconst n => kk ls (.inl n :: st) M
  | .bipush n => kk ls (.inl n :: st) M
  | .sipush n => kk ls (.inl n :: st) M
  | .lconst n => kk ls (.inr (.inl (n.val : Int)) :: st) M
  | .ldc _ => (match e.2.2.2.1 with
    | 0 => kk ls (.inl (KI.getD e.2.2.1 0) :: st) M
    | _ => kk ls (.inr (.inr 3) :: st) M)
  | .ldc_w _ => kk ls (.inl (KI.getD e.2.2.1 0) :: st) M
  | .ldc2_w _ => kk ls (.inr (.inl (KI.getD e.2.2.1 0)) :: st) M
  | .iload i => s_ld i 0 ls st M kk
  | .iload_n i => s_ld i.val 0 ls st M kk
  | .lload i => s_ld i 1 ls st M kk
  | .lload_n i => s_ld i.val 1 ls st M kk
  | .aload i => s_ld i 2 ls st M kk
  | .aload_n i => s_ld i.val 2 ls st M kk
  | .istore i => s_sto i 0 ls st M kk
  | .istore_n i => s_sto i.val 0 ls st M kk
  | .lstore i => s_sto i 1 ls st M kk
  | .lstore_n i => s_sto i.val 1 ls st M kk
  | .astore i => s_sto i 2 ls st M kk
  | .astore_n i => s_sto i.val 2 ls st M kk
  | .iinc i n => s_iinc i n ls st M kk
  | .iadd => s_ii (fun a b => a + b) ls st M kk
  | .isub => s_ii (fun a b => a - b) ls st M kk
  | .imul => s_ii (fun a b => a * b) ls st M kk
  | .iand => s_ii bAnd ls st M kk
  | .ior => s_ii bOr ls st M kk
  | .ixor => s_ii bXor ls st M kk
  | .ishl => s_ii iShl ls st M kk
  | .ishr => s_ii iShr ls st M kk
  | .iushr => s_ii iUshr ls st M kk
  | .idiv => s_idiv tDiv ls st M kk
  | .irem => s_idiv tMod ls st M kk
  | .ineg => s_i (fun a => -a) ls st M kk
  | .i2b => s_i b8 ls st M kk
  | .i2c => s_i u16 ls st M kk
  | .i2l => s_il w32 ls st M kk
  | .l2i => s_l2i ls st M kk
  | .ladd => s_ll (fun a b => a + b) ls st M kk
  | .lsub => s_ll (fun a b => a - b) ls st M kk
  | .lmul => s_ll (fun a b => a * b) ls st M kk
  | .land => s_ll bAnd ls st M kk
  | .lor => s_ll bOr ls st M kk
  | .lxor => s_ll bXor ls st M kk
  | .lshl => s_li lShl ls st M kk
  | .lushr => s_li lUshr ls st M kk
  | .ldiv => s_ldiv tDiv ls st M kk
  | .lrem => s_ldiv tMod ls st M kk
  | .lneg => s_l ls st M kk
  | .lcmp => s_lcmp ls st M kk
  | .dup => s_dup ls st M kk
  | .dup2 => s_dup2 ls st M kk
  | .pop => s_pop ls st M kk
  | .getfield _ => s_get e.2.2 ls st M kk
  | .putfield _ => s_put e.2.2 ls st M kk
  | .getstatic _ => (match e.2.2.1 with
    | 0 => kk ls (.inr (.inr 2) :: st) M
    | 1 => kk ls (.inl 1 :: st) M
    | _ => kk ls (.inr (.inr 5) :: st) M)
  | .iaload => s_ald 0 ls st M kk
  | .baload => s_ald e.2.2.1 ls st M kk
  | .laload => s_ald 3 ls st M kk
  | .aaload => s_aald e.2.2.1 ls st M kk
  | .iastore => s_ast 0 ls st M kk
  | .bastore => s_ast e.2.2.1 ls st M kk
  | .lastore => s_ast 3 ls st M kk
  | .aastore => s_aast e.2.2.1 ls st M kk
  | .arraylength => s_alen ls st M kk
  | .new _ => s_new e.2.2.1 e.2.2.2.1 ls st M kk
  | .newarray _ => s_newa e.2.2.1 ls st M kk
  | .anewarray _ => s_newa (4 + e.2.2.1) ls st M kk
  | .ifCond c _ => s_ifc F c e.2.2.1 ls st M kk
  | .if_icmp c _ => s_icmp F c e.2.2.1 ls st M kk
  | .goto _ => F e.2.2.1 ls st M
  | .tableswitch _ _ _ _ => s_sw KS F e.2.2.1 ls st M
  | .lookupswitch _ _ => s_sw KS F e.2.2.1 ls st M
  | .ireturn => s_ret e.2.2.1 st M
  | .lreturn => s_ret 2 st M
  | .areturn => s_ret 3 st M
  | .return_ => s_ret 0 st M
  | .invokevirtual _ => s_recv e.2.2 st M (s_call C e.2.2 ls st M kk)
  | .invokespecial _ => (match e.2.2.1 with
    | 0 => s_oi ls st M kk
    | _ => s_recv e.2.2 st M (s_call C e.2.2 ls st M kk))
  | .invokestatic _ => (match e.2.2.1 with
    | 1 => s_cpy ls st M kk
    | _ => s_call C e.2.2 ls st M kk)
  | _ => none
def hh_msk : List Bool → hh_Lo → hh_Lo
  | true :: r, x :: l => x :: hh_msk r l
  | false :: r, _ :: l => none :: hh_msk r l
  | _, l => l
noncomputable def hh_xb (nx : Nat) : List hh_En → hh_Lo → hh_Sk → hh_Mm → Option hh_Rs
  | [], ls, st, M => F nx ls st M
  | e :: r, ls, st, M => hh_stp KI KS F C e ls st M (fun ls st M => hh_xb nx r ls st M)
end
