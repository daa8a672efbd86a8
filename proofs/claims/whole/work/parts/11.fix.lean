/-! the plain machine's meaning: the least fixed point -/
def hh_le (x y : Option hh_Rs) : Prop := ∀ r, x = some r → y = some r
theorem hh_le_iff {x y : Option hh_Rs} : Lean.Order.PartialOrder.rel x y ↔ hh_le x y := by
  constructor
  · intro h r hr
    cases h with
    | bot => cases hr
    | refl => exact hr
  · intro h
    cases x with
    | none => exact Lean.Order.FlatOrder.rel.bot
    | some r => rw [h r rfl]; exact Lean.Order.FlatOrder.rel.refl
theorem hh_le_bind {x y : Option hh_Rs} {f g : hh_Rs → Option hh_Rs} (h : hh_le x y) (hf : ∀ r, hh_le (f r) (g r)) : hh_le (x.bind f) (y.bind g) := by
  intro r hr
  cases x with
  | none => cases hr
  | some z => rw [h z rfl]; exact hf z r hr
theorem hh_le_br {c : Jvm.ClassFile.Cond} {x y : Int} {A B A' B' : Option hh_Rs} (h : hh_le A A') (h2 : hh_le B B') : hh_le (br c x y A B) (br c x y A' B') := by
  cases c <;> simp only [br] <;> split <;> assumption
theorem hh_le_swt {F F' : Nat → Option hh_Rs} (h : ∀ b, hh_le (F b) (F' b)) (d : Nat) (x : Int) : ∀ l : List (Int × Nat), hh_le (swt F d x l) (swt F' d x l)
  | [] => h d
  | q :: r => by
    simp only [swt]
    split
    · exact h _
    · exact hh_le_swt h d x r
theorem hh_le_if {c : Prop} [Decidable c] {A B : Option hh_Rs} (h : hh_le A B) : hh_le (if c then A else none) (if c then B else none) := by
  split
  · exact h
  · exact fun _ h => by cases h
theorem hh_le_no {B : Option hh_Rs} : hh_le none B := fun _ h => by cases h
section
variable {KI : List Int} {KS : List (Nat × List (Int × Nat))} {F F' : Nat → hh_Lo → hh_Sk → hh_Mm → Option hh_Rs} {C C' : Nat → List hh_Av → hh_Mm → Option hh_Rs}
variable {kk kk' : hh_Lo → hh_Sk → hh_Mm → Option hh_Rs}
set_option maxHeartbeats 4000000 in
theorem hh_le_call (hC : ∀ m a M, hh_le (C m a M) (C' m a M)) (hk : ∀ l s M, hh_le (kk l s M) (kk' l s M)) (x : hh_Ex) (ls : hh_Lo) (st : hh_Sk) (M : hh_Mm) : hh_le (s_call C x ls st M kk) (s_call C' x ls st M kk') := by
  unfold s_call
  refine hh_le_if (hh_le_if ?_)
  split <;> exact hh_le_bind (hC _ _ _) (fun r => hk _ _ _)
theorem hh_le_recv {x : hh_Ex} {st : hh_Sk} {M : hh_Mm} {r r' : Option hh_Rs} (h : hh_le r r') : hh_le (s_recv x st M r) (s_recv x st M r') := by
  unfold s_recv
  split
  · exact hh_le_if h
  · exact hh_le_no
set_option maxHeartbeats 8000000 in
theorem hh_le_stp (hF : ∀ b l s M, hh_le (F b l s M) (F' b l s M)) (hC : ∀ m a M, hh_le (C m a M) (C' m a M)) (hk : ∀ l s M, hh_le (kk l s M) (kk' l s M)) (e : hh_En) (ls : hh_Lo) (st : hh_Sk) (M : hh_Mm) :
    hh_le (hh_stp KI KS F C e ls st M kk) (hh_stp KI KS F' C' e ls st M kk') := by
  obtain ⟨pc, i, ex⟩ := e
  cases i
  case invokevirtual => exact hh_le_recv (hh_le_call hC hk _ _ _ _)
  case invokespecial =>
    simp only [hh_stp]
    split
    · unfold s_oi; split <;> first | exact hh_le_if (hk _ _ _) | exact hh_le_no
    · exact hh_le_recv (hh_le_call hC hk _ _ _ _)
  case invokestatic =>
    simp only [hh_stp]
    split
    · unfold s_cpy; split <;> first | exact hh_le_if (hh_le_if (hh_le_if (hh_le_if (hh_le_if (hk _ _ _))))) | exact hh_le_no
    · exact hh_le_call hC hk _ _ _ _
  case ifCond => simp only [hh_stp, s_ifc]; split <;> first | exact hh_le_br (hF _ _ _ _) (hk _ _ _) | exact hh_le_no
  case if_icmp => simp only [hh_stp, s_icmp]; split <;> first | exact hh_le_br (hF _ _ _ _) (hk _ _ _) | exact hh_le_no
  case tableswitch => simp only [hh_stp, s_sw]; split <;> first | exact hh_le_swt (fun b => hF _ _ _ _) _ _ _ | exact hh_le_no
  case lookupswitch => simp only [hh_stp, s_sw]; split <;> first | exact hh_le_swt (fun b => hF _ _ _ _) _ _ _ | exact hh_le_no
  case ireturn => exact fun _ h => h
  case lreturn => exact fun _ h => h
  case areturn => exact fun _ h => h
  case return_ => exact fun _ h => h
  case goto => exact hF _ _ _ _
  case ldc => simp only [hh_stp]; split <;> exact hk _ _ _
  case getstatic => simp only [hh_stp]; split <;> exact hk _ _ _
  case getfield =>
    simp only [hh_stp, s_get]
    split
    · refine hh_le_if ?_
      split <;> exact hk _ _ _
    · exact hh_le_no
  case putfield =>
    simp only [hh_stp, s_put]
    split <;> first | exact hh_le_if (hh_le_if (hk _ _ _)) | exact hh_le_if (hh_le_if (hh_le_if (hk _ _ _))) | exact hh_le_no
  case aaload =>
    simp only [hh_stp, s_aald]
    split
    · refine hh_le_if (hh_le_if ?_)
      split <;> exact hk _ _ _
    · exact hh_le_no
  case aastore =>
    simp only [hh_stp, s_aast]
    split
    · refine hh_le_if (hh_le_if (hh_le_if (hh_le_if ?_)))
      split <;> exact hk _ _ _
    · exact hh_le_no
  case idiv => simp only [hh_stp, s_idiv]; split <;> first | (split <;> first | exact hh_le_no | exact hk _ _ _) | exact hh_le_no
  case irem => simp only [hh_stp, s_idiv]; split <;> first | (split <;> first | exact hh_le_no | exact hk _ _ _) | exact hh_le_no
  case ldiv => simp only [hh_stp, s_ldiv]; split <;> first | (split <;> first | exact hh_le_no | exact hk _ _ _) | exact hh_le_no
  case lrem => simp only [hh_stp, s_ldiv]; split <;> first | (split <;> first | exact hh_le_no | exact hk _ _ _) | exact hh_le_no
  case iaload =>
    simp only [hh_stp, s_ald]
    split
    · refine hh_le_if (hh_le_if ?_); exact hk _ _ _
    · exact hh_le_no
  case laload =>
    simp only [hh_stp, s_ald]
    split
    · refine hh_le_if (hh_le_if ?_); exact hk _ _ _
    · exact hh_le_no
  case baload =>
    simp only [hh_stp, s_ald]
    split
    · refine hh_le_if (hh_le_if ?_)
      split <;> exact hk _ _ _
    · exact hh_le_no
  case iastore => simp only [hh_stp, s_ast]; split <;> first | exact hh_le_if (hh_le_if (hh_le_if (hk _ _ _))) | exact hh_le_if (hh_le_if (hh_le_if (hh_le_if (hk _ _ _)))) | exact hh_le_no
  case lastore => simp only [hh_stp, s_ast]; split <;> first | exact hh_le_if (hh_le_if (hh_le_if (hk _ _ _))) | exact hh_le_if (hh_le_if (hh_le_if (hh_le_if (hk _ _ _)))) | exact hh_le_no
  case bastore => simp only [hh_stp, s_ast]; split <;> first | exact hh_le_if (hh_le_if (hh_le_if (hk _ _ _))) | exact hh_le_if (hh_le_if (hh_le_if (hh_le_if (hk _ _ _)))) | exact hh_le_no
  all_goals first
    | exact hh_le_no
    | exact hk _ _ _
    | (simp only [hh_stp, hh_frc_eq, s_ld, s_sto, s_iinc, s_ii, s_ll, s_li, s_i, s_il, s_l, s_l2i, s_lcmp, s_dup, s_dup2, s_pop, s_alen, s_new, s_newa]
       first
         | exact hk _ _ _
         | (split <;> first | exact hk _ _ _ | exact hh_le_if (hk _ _ _) | exact hh_le_no))
theorem hh_le_xb (hF : ∀ b l s M, hh_le (F b l s M) (F' b l s M)) (hC : ∀ m a M, hh_le (C m a M) (C' m a M)) (nx : Nat) : ∀ (r : List hh_En) (ls : hh_Lo) (st : hh_Sk) (M : hh_Mm), hh_le (hh_xb KI KS F C nx r ls st M) (hh_xb KI KS F' C' nx r ls st M)
  | [], ls, st, M => hF nx ls st M
  | e :: r, ls, st, M => hh_le_stp hF hC (fun l s M => hh_le_xb hF hC nx r l s M) e ls st M
end
/-! a program: its numbers, switches, blocks; of a method how many locals, and its rank at a call -/
abbrev hh_Pg : Type := List Int × List (Nat × List (Int × Nat)) × (Nat → List hh_Bk) × (Nat → Nat) × (Nat → List hh_Av → hh_Mm → Nat)
abbrev hh_EvT : Type := Nat → Nat → Nat → hh_Lo → hh_Sk → hh_Mm → Option hh_Rs
def hh_bk (Bs : List hh_Bk) (b : Nat) : hh_Bk := Bs.getD b ([], 0, [], false)
def hh_cl (P : hh_Pg) (E : hh_EvT) (d : Nat) (m : Nat) (as : List hh_Av) (M : hh_Mm) : Option hh_Rs := if P.2.2.2.2 m as M < d then (if (hh_lay as).length ≤ P.2.2.2.1 m then E (P.2.2.2.2 m as M) m 0 (hh_ent (P.2.2.2.1 m) as) [] M else none) else none
/-- a jump: to a block that is read on in place, or to one of its own -/
noncomputable def hh_jp (P : hh_Pg) (E : hh_EvT) (d m : Nat) (Bs : List hh_Bk) : Nat → Nat → hh_Lo → hh_Sk → hh_Mm → Option hh_Rs
  | 0, b, ls, st, M => hh_frc (hh_msk (hh_bk Bs b).2.2.1 ls) (fun ls => E d m b ls st M)
  | n + 1, b, ls, st, M => match (hh_bk Bs b).2.2.2 with
    | true => hh_frc (hh_msk (hh_bk Bs b).2.2.1 ls) (fun ls => hh_xb P.1 P.2.1 (hh_jp P E d m Bs n) (hh_cl P E d) (hh_bk Bs b).2.1 (hh_bk Bs b).1 ls st M)
    | false => hh_frc (hh_msk (hh_bk Bs b).2.2.1 ls) (fun ls => E d m b ls st M)
noncomputable def hh_fn (P : hh_Pg) (E : hh_EvT) : hh_EvT := fun d m b ls st M => hh_xb P.1 P.2.1 (hh_jp P E d m (P.2.2.1 m) 40) (hh_cl P E d) (hh_bk (P.2.2.1 m) b).2.1 (hh_bk (P.2.2.1 m) b).1 ls st M
theorem hh_jp_mono {P : hh_Pg} {x y : hh_EvT} (h1 : ∀ d m b l s M, hh_le (x d m b l s M) (y d m b l s M)) (d m : Nat) (Bs : List hh_Bk) : ∀ n b ls st M, hh_le (hh_jp P x d m Bs n b ls st M) (hh_jp P y d m Bs n b ls st M)
  | 0, b, ls, st, M => by simp only [hh_jp, hh_frc_eq]; exact h1 _ _ _ _ _ _
  | n + 1, b, ls, st, M => by
    simp only [hh_jp, hh_frc_eq]
    split
    · exact hh_le_xb (hh_jp_mono h1 d m Bs n) (fun m a M => by unfold hh_cl; exact hh_le_if (hh_le_if (h1 _ _ _ _ _ _))) _ _ _ _ _
    · exact h1 _ _ _ _ _ _
theorem hh_fn_mono (P : hh_Pg) : Lean.Order.monotone (hh_fn P) := by
  intro x y h d m b ls st M
  rw [hh_le_iff]
  have h1 : ∀ d m b l s M, hh_le (x d m b l s M) (y d m b l s M) := fun d m b l s M => hh_le_iff.mp (h d m b l s M)
  exact hh_le_xb (hh_jp_mono h1 _ _ _ _) (fun m a M => by unfold hh_cl; exact hh_le_if (hh_le_if (h1 _ _ _ _ _ _))) _ _ _ _ _
noncomputable def hh_Ev (P : hh_Pg) : hh_EvT := Lean.Order.fix (hh_fn P) (hh_fn_mono P)
theorem hh_Ev_eq {P : hh_Pg} {d m : Nat} {Bs : List hh_Bk} (hB : P.2.2.1 m = Bs) {b : Nat} {ls : hh_Lo} {st : hh_Sk} {M : hh_Mm} :
    hh_Ev P d m b ls st M = hh_xb P.1 P.2.1 (hh_jp P (hh_Ev P) d m Bs 40) (hh_cl P (hh_Ev P) d) (hh_bk Bs b).2.1 (hh_bk Bs b).1 ls st M := by
  subst hB
  have h := Lean.Order.fix_eq (hh_fn_mono P)
  exact congrFun (congrFun (congrFun (congrFun (congrFun (congrFun h d) m) b) ls) st) M
/-- what holds of every answer: shown of one round -/
theorem hh_Ev_ind (P : hh_Pg) (S : Nat → Nat → Nat → hh_Lo → hh_Sk → hh_Mm → hh_Rs → Prop) (h : ∀ E : hh_EvT, (∀ d m b ls st M r, E d m b ls st M = some r → S d m b ls st M r) → ∀ d m b ls st M r, hh_fn P E d m b ls st M = some r → S d m b ls st M r) :
    ∀ d m b ls st M r, hh_Ev P d m b ls st M = some r → S d m b ls st M r := by
  refine Lean.Order.fix_induct (hh_fn_mono P) (motive := fun E => ∀ d m b ls st M r, E d m b ls st M = some r → S d m b ls st M r) ?_ h
  refine Lean.Order.admissible_pi_apply (fun d (E : Nat → Nat → hh_Lo → hh_Sk → hh_Mm → Option hh_Rs) => ∀ m b ls st M r, E m b ls st M = some r → S d m b ls st M r) (fun d => ?_)
  refine Lean.Order.admissible_pi_apply (fun m (E : Nat → hh_Lo → hh_Sk → hh_Mm → Option hh_Rs) => ∀ b ls st M r, E b ls st M = some r → S d m b ls st M r) (fun m => ?_)
  refine Lean.Order.admissible_pi_apply (fun b (E : hh_Lo → hh_Sk → hh_Mm → Option hh_Rs) => ∀ ls st M r, E ls st M = some r → S d m b ls st M r) (fun b => ?_)
  refine Lean.Order.admissible_pi_apply (fun ls (E : hh_Sk → hh_Mm → Option hh_Rs) => ∀ st M r, E st M = some r → S d m b ls st M r) (fun ls => ?_)
  refine Lean.Order.admissible_pi_apply (fun st (E : hh_Mm → Option hh_Rs) => ∀ M r, E M = some r → S d m b ls st M r) (fun st => ?_)
  refine Lean.Order.admissible_pi_apply (fun M (E : Option hh_Rs) => ∀ r, E = some r → S d m b ls st M r) (fun M => ?_)
  exact Lean.Order.admissible_flatOrder (b := (none : Option hh_Rs)) (fun E : Option hh_Rs => ∀ r, E = some r → S d m b ls st M r) (fun r hr => by cases hr)
