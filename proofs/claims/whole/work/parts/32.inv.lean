/-! what a step leaves: cells only grow; where nothing is made, none comes -/
def hh_na (e : hh_En) : Bool := match e.2.1 with
  | .new _ => false
  | .newarray _ => false
  | .anewarray _ => false
  | .putfield _ => decide (e.2.2.2.2.1 ≠ 3)
  | .aastore => decide (e.2.2.1 = 6)
  | .invokevirtual _ => decide (e.2.2.2.2.1 ≤ 3)
  | .invokespecial _ => decide (e.2.2.1 = 0) || decide (e.2.2.2.2.1 ≤ 3)
  | .invokestatic _ => decide (e.2.2.1 = 1) || decide (e.2.2.2.2.1 ≤ 3)
  | _ => true
section
variable {KI : List Int} {KS : List (Nat × List (Int × Nat))} {F : Nat → hh_Lo → hh_Sk → hh_Mm → Option hh_Rs} {C : Nat → List hh_Av → hh_Mm → Option hh_Rs} {kk : hh_Lo → hh_Sk → hh_Mm → Option hh_Rs} {r : hh_Rs}
def hh_iv (F : Nat → hh_Lo → hh_Sk → hh_Mm → Option hh_Rs) (kk : hh_Lo → hh_Sk → hh_Mm → Option hh_Rs) (M : hh_Mm) (na : Bool) (r : hh_Rs) : Prop :=
  (∃ ls2 st2 M2, kk ls2 st2 M2 = some r ∧ M.1.1 ≤ M2.1.1 ∧ (na = true → M2.1 = M.1)) ∨ (∃ b ls2 st2, F b ls2 st2 M = some r) ∨ r.2 = M
theorem hh_iv.k {M : hh_Mm} {na : Bool} {ls2 : hh_Lo} {st2 : hh_Sk} (h : kk ls2 st2 M = some r) : hh_iv F kk M na r := Or.inl ⟨_, _, _, h, Nat.le_refl _, fun _ => rfl⟩
theorem hh_iv.ks {M : hh_Mm} {na : Bool} {ls2 : hh_Lo} {st2 : hh_Sk} {v : hh_Sv} (h : kk ls2 st2 (M.1, v) = some r) : hh_iv F kk M na r := Or.inl ⟨_, _, _, h, Nat.le_refl _, fun _ => rfl⟩
theorem hh_iv.f {M : hh_Mm} {na : Bool} {b : Nat} {ls2 : hh_Lo} {st2 : hh_Sk} (h : F b ls2 st2 M = some r) : hh_iv F kk M na r := Or.inr (Or.inl ⟨_, _, _, h⟩)
theorem hh_iv_br {M : hh_Mm} {na : Bool} {c : Jvm.ClassFile.Cond} {x y : Int} {b : Nat} {ls : hh_Lo} {st : hh_Sk} (h : br c x y (F b ls st M) (kk ls st M) = some r) : hh_iv F kk M na r := by
  cases c <;> simp only [br] at h <;> split at h <;> first | exact hh_iv.k h | exact hh_iv.f h
theorem hh_iv_swt {M : hh_Mm} {na : Bool} {d : Nat} {x : Int} {ls : hh_Lo} {st : hh_Sk} : ∀ {l : List (Int × Nat)}, swt (fun b => F b ls st M) d x l = some r → hh_iv F kk M na r
  | [], h => hh_iv.f h
  | q :: t, h => by
    simp only [swt] at h
    split at h
    · exact hh_iv.f h
    · exact hh_iv_swt h
theorem hh_iv_call {M : hh_Mm} {na : Bool} {x : hh_Ex} {ls : hh_Lo} {st : hh_Sk} (hC : ∀ m a r', C m a M = some r' → M.1.1 ≤ r'.2.1.1) (hna : na = true → x.2.2.1 ≤ 3) (h : s_call C x ls st M kk = some r) : hh_iv F kk M na r := by
  unfold s_call at h
  split at h
  · split at h
    · split at h <;> rw [Option.bind_eq_some_iff] at h <;> obtain ⟨z, h1, h2⟩ := h
      · exact hh_iv.ks h2
      · exact hh_iv.ks h2
      · exact hh_iv.ks h2
      · exact hh_iv.ks h2
      next n0 n1 n2 n3 =>
        refine Or.inl ⟨_, _, _, h2, hC _ _ _ h1, fun q => ?_⟩
        have := hna q
        exfalso
        have a0 : ¬ x.2.2.1 = 0 := n0
        have a1 : ¬ x.2.2.1 = 1 := n1
        have a2 : ¬ x.2.2.1 = 2 := n2
        have a3 : ¬ x.2.2.1 = 3 := n3
        omega
    · cases h
  · cases h
theorem hh_iv_recv {x : hh_Ex} {st : hh_Sk} {M : hh_Mm} {z : Option hh_Rs} (h : s_recv x st M z = some r) : z = some r := by
  unfold s_recv at h
  split at h
  · split at h
    · exact h
    · cases h
  · cases h
set_option maxHeartbeats 4000000 in
theorem hh_iv_stp {e : hh_En} {ls : hh_Lo} {st : hh_Sk} {M : hh_Mm} (hC : ∀ m a r', C m a M = some r' → M.1.1 ≤ r'.2.1.1) (h : hh_stp KI KS F C e ls st M kk = some r) : hh_iv F kk M (hh_na e) r := by
  obtain ⟨pc, i, ex⟩ := e
  cases i
  case invokevirtual => exact hh_iv_call hC (fun q => of_decide_eq_true q) (hh_iv_recv h)
  case invokespecial =>
    simp only [hh_stp] at h
    split at h
    · unfold s_oi at h; split at h
      · split at h <;> first | exact hh_iv.k h | cases h
      · cases h
    next hne =>
      refine hh_iv_call hC (fun q => ?_) (hh_iv_recv h)
      simp only [hh_na, Bool.or_eq_true, decide_eq_true_eq] at q
      rcases q with q | q
      · exact absurd q hne
      · exact q
  case invokestatic =>
    simp only [hh_stp] at h
    split at h
    · unfold s_cpy at h
      split at h
      · (repeat' split at h) <;> first | exact hh_iv.ks h | cases h
      · cases h
    next hne =>
      refine hh_iv_call hC (fun q => ?_) h
      simp only [hh_na, Bool.or_eq_true, decide_eq_true_eq] at q
      rcases q with q | q
      · exact absurd q hne
      · exact q
  case ifCond => simp only [hh_stp, s_ifc] at h; split at h <;> first | exact hh_iv_br h | cases h
  case if_icmp => simp only [hh_stp, s_icmp] at h; split at h <;> first | exact hh_iv_br h | cases h
  case tableswitch => simp only [hh_stp, s_sw] at h; split at h <;> first | exact hh_iv_swt h | cases h
  case lookupswitch => simp only [hh_stp, s_sw] at h; split at h <;> first | exact hh_iv_swt h | cases h
  case goto => exact hh_iv.f h
  case new => exact Or.inl ⟨_, _, _, h, Nat.le_succ _, fun q => by cases q⟩
  case newarray =>
    simp only [hh_stp, s_newa] at h
    split at h
    · split at h
      · exact Or.inl ⟨_, _, _, h, Nat.le_succ _, fun q => by cases q⟩
      · cases h
    · cases h
  case anewarray =>
    simp only [hh_stp, s_newa] at h
    split at h
    · split at h
      · exact Or.inl ⟨_, _, _, h, Nat.le_succ _, fun q => by cases q⟩
      · cases h
    · cases h
  case putfield =>
    simp only [hh_stp, s_put] at h
    split at h
    · (repeat' split at h) <;> first | exact hh_iv.ks h | cases h
    · (repeat' split at h) <;> first | exact hh_iv.ks h | cases h
    · (repeat' split at h) <;> first | exact hh_iv.ks h | cases h
    · (repeat' split at h) <;> first | exact hh_iv.ks h | cases h
    next e3 =>
      (repeat' split at h) <;> first | (refine Or.inl ⟨_, _, _, h, Nat.le_refl _, fun q => ?_⟩; exact absurd e3 (of_decide_eq_true q)) | cases h
    · cases h
  case aastore =>
    simp only [hh_stp, s_aast] at h
    split at h
    · split at h
      · split at h
        · split at h
          · split at h
            · split at h
              · exact hh_iv.ks h
              next hne => exact Or.inl ⟨_, _, _, h, Nat.le_refl _, fun q => absurd (of_decide_eq_true q) hne⟩
            · cases h
          · cases h
        · cases h
      · cases h
    · cases h
  all_goals first
    | (cases h; done)
    | exact hh_iv.k h
    | (simp only [hh_stp, s_ret] at h; (repeat' split at h) <;> first | (cases h; done) | exact Or.inr (Or.inr (by cases h; rfl)))
    | (simp only [hh_stp, hh_frc_eq, s_ld, s_sto, s_iinc, s_ii, s_ll, s_li, s_i, s_il, s_l, s_l2i, s_lcmp, s_dup, s_dup2, s_pop, s_alen, s_get, s_ald, s_aald, s_ast, s_idiv, s_ldiv] at h
       (repeat' split at h) <;> first | (cases h; done) | exact hh_iv.k h | exact hh_iv.ks h)
theorem hh_iv_xb {nx : Nat} (hC : ∀ m a M r', C m a M = some r' → M.1.1 ≤ r'.2.1.1) (hF : ∀ b ls st M, F b ls st M = some r → M.1.1 ≤ r.2.1.1) : ∀ {es : List hh_En} {ls : hh_Lo} {st : hh_Sk} {M : hh_Mm}, hh_xb KI KS F C nx es ls st M = some r → M.1.1 ≤ r.2.1.1
  | [], ls, st, M, h => hF _ _ _ _ h
  | e :: es, ls, st, M, h => by
    rcases hh_iv_stp (hC · · M) h with ⟨l2, s2, M2, h1, h2, -⟩ | ⟨b, l2, s2, h1⟩ | h1
    · exact Nat.le_trans h2 (hh_iv_xb hC hF h1)
    · exact hF _ _ _ _ h1
    · rw [h1]; exact Nat.le_refl _
theorem hh_na_xb {nx : Nat} (hC : ∀ m a M r', C m a M = some r' → M.1.1 ≤ r'.2.1.1) (hF : ∀ b ls st M, F b ls st M = some r → r.2.1 = M.1) : ∀ {es : List hh_En} {ls : hh_Lo} {st : hh_Sk} {M : hh_Mm}, es.all hh_na = true → hh_xb KI KS F C nx es ls st M = some r → r.2.1 = M.1
  | [], ls, st, M, _, h => hF _ _ _ _ h
  | e :: es, ls, st, M, hn, h => by
    simp only [List.all_cons, Bool.and_eq_true] at hn
    rcases hh_iv_stp (hC · · M) h with ⟨l2, s2, M2, h1, -, h2⟩ | ⟨b, l2, s2, h1⟩ | h1
    · exact (hh_na_xb hC hF hn.2 h1).trans (h2 hn.1)
    · exact hF _ _ _ _ h1
    · rw [h1]
end
/-- the cells of the plain machine only grow -/
theorem hh_Ev_mono (P : hh_Pg) : ∀ d m b ls st M r, hh_Ev P d m b ls st M = some r → M.1.1 ≤ r.2.1.1 := by
  refine hh_Ev_ind P (fun d m b ls st M r => M.1.1 ≤ r.2.1.1) (fun E IH d m b ls st M r h => ?_)
  have hC : ∀ m a M r', hh_cl P E d m a M = some r' → M.1.1 ≤ r'.2.1.1 := fun m a M r' h => by
    unfold hh_cl at h
    split at h
    · split at h
      · exact IH _ _ _ _ _ _ _ h
      · cases h
    · cases h
  have hJ : ∀ n b ls st M r, hh_jp P E d m (P.2.2.1 m) n b ls st M = some r → M.1.1 ≤ r.2.1.1 := by
    intro n
    induction n with
    | zero => intro b ls st M r h; simp only [hh_jp, hh_frc_eq] at h; exact IH _ _ _ _ _ _ _ h
    | succ n ih =>
      intro b ls st M r h
      simp only [hh_jp, hh_frc_eq] at h
      split at h
      · exact hh_iv_xb hC (fun b ls st M h => ih b ls st M r h) h
      · exact IH _ _ _ _ _ _ _ h
  exact hh_iv_xb hC (fun b ls st M h => hJ _ b ls st M r h) h
/-- a method none of whose blocks makes a cell -/
theorem hh_Ev_na (P : hh_Pg) {m : Nat} (hna : ∀ b, (hh_bk (P.2.2.1 m) b).1.all hh_na = true) : ∀ d b ls st M r, hh_Ev P d m b ls st M = some r → r.2.1 = M.1 := by
  have key := hh_Ev_ind P (fun d m' b ls st M r => M.1.1 ≤ r.2.1.1 ∧ (m' = m → r.2.1 = M.1)) (fun E IH d m' b ls st M r h => ?_)
  · exact fun d b ls st M r h => (key d m b ls st M r h).2 rfl
  have hC : ∀ m a M r', hh_cl P E d m a M = some r' → M.1.1 ≤ r'.2.1.1 := fun m a M r' h => by
    unfold hh_cl at h
    split at h
    · split at h
      · exact (IH _ _ _ _ _ _ _ h).1
      · cases h
    · cases h
  have hJ : ∀ n b ls st M r, hh_jp P E d m' (P.2.2.1 m') n b ls st M = some r → M.1.1 ≤ r.2.1.1 ∧ (m' = m → r.2.1 = M.1) := by
    intro n
    induction n with
    | zero => intro b ls st M r h; simp only [hh_jp, hh_frc_eq] at h; exact IH _ _ _ _ _ _ _ h
    | succ n ih =>
      intro b ls st M r h
      simp only [hh_jp, hh_frc_eq] at h
      split at h
      · exact ⟨hh_iv_xb hC (fun b ls st M h => (ih b ls st M r h).1) h, fun q => hh_na_xb hC (fun b ls st M h => (ih b ls st M r h).2 q) (q ▸ hna b) h⟩
      · exact IH _ _ _ _ _ _ _ h
  exact ⟨hh_iv_xb hC (fun b ls st M h => (hJ _ b ls st M r h).1) h, fun q => hh_na_xb hC (fun b ls st M h => (hJ _ b ls st M r h).2 q) (q ▸ hna b) h⟩
