section
variable {p : Program} {l : Launch} {e : Env} {R : Room} {s : State} {m : MethodId} {args : Array Value} {below : List Frame} {meth : Method} {c : Code} {H : Heap} {locs : List Loc} {cells slots : Nat} {Q : State → Prop}
variable {cc : ByteArray} {pc : Nat} {la : Array Slot} {ba : Nat} {oa : Nat → Nat} {v5 : Value} {ls : hh_Lo} {st : hh_Sk} {M : hh_Mm} {r : hh_Rs} {kk : hh_Lo → hh_Sk → hh_Mm → Option hh_Rs}
theorem sd_iinc {i : Nat} {n : Int} (h5 : v5 = .null ∨ ∃ t, v5 = .ref t) (hx : p.tables.exec = Jvm.exec) (hb : c.code = cc) (hd : decode cc pc = .ok (.iinc i n, 3)) (hL : hh_L ba oa v5 la ls) (h : s_iinc i n ls st M kk = some r)
    (hk : ∀ ls2 st2 la2, kk ls2 st2 M = some r → hh_L ba oa v5 la2 ls2 → hh_G p l e R s m args below meth c Q ba oa v5 H locs cells slots (pc + 3) la2 st2) : hh_G p l e R s m args below meth c Q ba oa v5 H locs cells slots pc la st := by
  unfold s_iinc at h
  split at h
  next z hz =>
    rw [hh_frc_eq] at h
    have h1 := hh_getD hz
    have hi : i < ls.length := (List.getElem?_eq_some_iff.mp h1).1
    obtain ⟨k, hk1⟩ := List.getElem?_of_mem (hh_pr_mem (ba := ba) (oa := oa) (v5 := v5).mpr ⟨_, h1, rfl⟩ : (i, hh_tv ba oa v5 (.inl z)) ∈ hh_pr ba oa v5 ls)
    exact lv_iinc hx hb hd hL.has hk1 (n_add z n) hi rfl (fun ls' h' => hk _ _ _ h (hL.st1 (v := .inl (z + n)) h5 hi h'))
  next => cases h
theorem sd_ii {f : Int → Int → Int} {g : Int32 → Int32 → Int32} (hg : ∀ a b, g (Int32.ofInt a) (Int32.ofInt b) = Int32.ofInt (f a b)) (hL : hh_L ba oa v5 la ls) (h : s_ii f ls st M kk = some r)
    (row : ∀ (x y : Int32) (rest : List Value), W p l e R s m args below meth c H locs cells slots Q (F0 m (pc + 1) la (.int (g x y) :: rest)) → W p l e R s m args below meth c H locs cells slots Q (F0 m pc la (.int y :: .int x :: rest)))
    (hk : ∀ ls2 st2 la2, kk ls2 st2 M = some r → hh_L ba oa v5 la2 ls2 → hh_G p l e R s m args below meth c Q ba oa v5 H locs cells slots (pc + 1) la2 st2) : hh_G p l e R s m args below meth c Q ba oa v5 H locs cells slots pc la st := by
  unfold s_ii at h
  split at h
  next b a st =>
    refine row _ _ _ ?_
    have h2 := hk _ _ _ h hL
    rw [hg]
    exact h2
  next => cases h
theorem sd_ll {f : Int → Int → Int} {g : Int64 → Int64 → Int64} (hg : ∀ a b, g (Int64.ofInt a) (Int64.ofInt b) = Int64.ofInt (f a b)) (hL : hh_L ba oa v5 la ls) (h : s_ll f ls st M kk = some r)
    (row : ∀ (x y : Int64) (rest : List Value), W p l e R s m args below meth c H locs cells slots Q (F0 m (pc + 1) la (.long (g x y) :: rest)) → W p l e R s m args below meth c H locs cells slots Q (F0 m pc la (.long y :: .long x :: rest)))
    (hk : ∀ ls2 st2 la2, kk ls2 st2 M = some r → hh_L ba oa v5 la2 ls2 → hh_G p l e R s m args below meth c Q ba oa v5 H locs cells slots (pc + 1) la2 st2) : hh_G p l e R s m args below meth c Q ba oa v5 H locs cells slots pc la st := by
  unfold s_ll at h
  split at h
  next b a st =>
    refine row _ _ _ ?_
    have h2 := hk _ _ _ h hL
    rw [hg]
    exact h2
  next => cases h
theorem sd_li {f : Int → Int → Int} {g : Int64 → Int32 → Int64} (hg : ∀ a b, g (Int64.ofInt a) (Int32.ofInt b) = Int64.ofInt (f a b)) (hL : hh_L ba oa v5 la ls) (h : s_li f ls st M kk = some r)
    (row : ∀ (x : Int64) (y : Int32) (rest : List Value), W p l e R s m args below meth c H locs cells slots Q (F0 m (pc + 1) la (.long (g x y) :: rest)) → W p l e R s m args below meth c H locs cells slots Q (F0 m pc la (.int y :: .long x :: rest)))
    (hk : ∀ ls2 st2 la2, kk ls2 st2 M = some r → hh_L ba oa v5 la2 ls2 → hh_G p l e R s m args below meth c Q ba oa v5 H locs cells slots (pc + 1) la2 st2) : hh_G p l e R s m args below meth c Q ba oa v5 H locs cells slots pc la st := by
  unfold s_li at h
  split at h
  next b a st =>
    refine row _ _ _ ?_
    have h2 := hk _ _ _ h hL
    rw [hg]
    exact h2
  next => cases h
theorem sd_idiv {f : Int → Int → Int} {g : Int32 → Int32 → Int32} (hg : ∀ a b, g (Int32.ofInt a) (Int32.ofInt b) = Int32.ofInt (f (w32 a) (w32 b))) (hL : hh_L ba oa v5 la ls) (h : s_idiv f ls st M kk = some r)
    (row : ∀ (x y : Int32) (rest : List Value), ¬ y = 0 → W p l e R s m args below meth c H locs cells slots Q (F0 m (pc + 1) la (.int (g x y) :: rest)) → W p l e R s m args below meth c H locs cells slots Q (F0 m pc la (.int y :: .int x :: rest)))
    (hk : ∀ ls2 st2 la2, kk ls2 st2 M = some r → hh_L ba oa v5 la2 ls2 → hh_G p l e R s m args below meth c Q ba oa v5 H locs cells slots (pc + 1) la2 st2) : hh_G p l e R s m args below meth c Q ba oa v5 H locs cells slots pc la st := by
  unfold s_idiv at h
  split at h
  next b a st =>
    split at h
    · cases h
    next hn =>
      refine row _ _ _ (n_ne0 hn) ?_
      have h2 := hk _ _ _ h hL
      rw [hg]
      exact h2
  next => cases h
theorem sd_ldiv {f : Int → Int → Int} {g : Int64 → Int64 → Int64} (hg : ∀ a b, g (Int64.ofInt a) (Int64.ofInt b) = Int64.ofInt (f (w64 a) (w64 b))) (hL : hh_L ba oa v5 la ls) (h : s_ldiv f ls st M kk = some r)
    (row : ∀ (x y : Int64) (rest : List Value), ¬ y = 0 → W p l e R s m args below meth c H locs cells slots Q (F0 m (pc + 1) la (.long (g x y) :: rest)) → W p l e R s m args below meth c H locs cells slots Q (F0 m pc la (.long y :: .long x :: rest)))
    (hk : ∀ ls2 st2 la2, kk ls2 st2 M = some r → hh_L ba oa v5 la2 ls2 → hh_G p l e R s m args below meth c Q ba oa v5 H locs cells slots (pc + 1) la2 st2) : hh_G p l e R s m args below meth c Q ba oa v5 H locs cells slots pc la st := by
  unfold s_ldiv at h
  split at h
  next b a st =>
    split at h
    · cases h
    next hn =>
      refine row _ _ _ (n_ne064 hn) ?_
      have h2 := hk _ _ _ h hL
      rw [hg]
      exact h2
  next => cases h
theorem sd_i {f : Int → Int} {g : Int32 → Int32} (hg : ∀ a, g (Int32.ofInt a) = Int32.ofInt (f a)) (hL : hh_L ba oa v5 la ls) (h : s_i f ls st M kk = some r)
    (row : ∀ (x : Int32) (rest : List Value), W p l e R s m args below meth c H locs cells slots Q (F0 m (pc + 1) la (.int (g x) :: rest)) → W p l e R s m args below meth c H locs cells slots Q (F0 m pc la (.int x :: rest)))
    (hk : ∀ ls2 st2 la2, kk ls2 st2 M = some r → hh_L ba oa v5 la2 ls2 → hh_G p l e R s m args below meth c Q ba oa v5 H locs cells slots (pc + 1) la2 st2) : hh_G p l e R s m args below meth c Q ba oa v5 H locs cells slots pc la st := by
  unfold s_i at h
  split at h
  next a st =>
    refine row _ _ ?_
    have h2 := hk _ _ _ h hL
    rw [hg]
    exact h2
  next => cases h
/-- those that push one number -/
theorem sd_pu {n : Nat} {v : hh_Av} (hL : hh_L ba oa v5 la ls) (h : kk ls (v :: st) M = some r)
    (row : W p l e R s m args below meth c H locs cells slots Q (F0 m (pc + n) la (hh_tv ba oa v5 v :: st.map (hh_tv ba oa v5))) → W p l e R s m args below meth c H locs cells slots Q (F0 m pc la (st.map (hh_tv ba oa v5))))
    (hk : ∀ ls2 st2 la2, kk ls2 st2 M = some r → hh_L ba oa v5 la2 ls2 → hh_G p l e R s m args below meth c Q ba oa v5 H locs cells slots (pc + n) la2 st2) : hh_G p l e R s m args below meth c Q ba oa v5 H locs cells slots pc la st :=
  row (hk _ _ _ h hL)
theorem n_bip {n : Int} (h : decide (-128 ≤ n ∧ n < 128) = true) : (Int8.ofInt n).toInt32 = Int32.ofInt n := by
  have h := of_decide_eq_true h
  rw [← Int32.ofInt_int8ToInt, Int8.toInt_ofInt_of_le (by omega) (by omega)]
theorem n_sip {n : Int} (h : decide (-32768 ≤ n ∧ n < 32768) = true) : (Int16.ofInt n).toInt32 = Int32.ofInt n := by
  have h := of_decide_eq_true h
  rw [← Int32.ofInt_int16ToInt, Int16.toInt_ofInt_of_le (by omega) (by omega)]
theorem n_lc (n : Fin 2) : Int64.ofNat (n : Nat) = Int64.ofInt (n.val : Int) := (Int64.ofInt_eq_ofNat).symm
theorem sd_il (hx : p.tables.exec = Jvm.exec) (hb : c.code = cc) (hd : decode cc pc = .ok (.i2l, 1)) (hL : hh_L ba oa v5 la ls) (h : s_il w32 ls st M kk = some r)
    (hk : ∀ ls2 st2 la2, kk ls2 st2 M = some r → hh_L ba oa v5 la2 ls2 → hh_G p l e R s m args below meth c Q ba oa v5 H locs cells slots (pc + 1) la2 st2) : hh_G p l e R s m args below meth c Q ba oa v5 H locs cells slots pc la st := by
  unfold s_il at h
  split at h
  next a st => exact lv_i2l hx hb hd (n_i2l a) (hk _ _ _ h hL)
  next => cases h
theorem sd_l2i (hx : p.tables.exec = Jvm.exec) (hb : c.code = cc) (hd : decode cc pc = .ok (.l2i, 1)) (hL : hh_L ba oa v5 la ls) (h : s_l2i ls st M kk = some r)
    (hk : ∀ ls2 st2 la2, kk ls2 st2 M = some r → hh_L ba oa v5 la2 ls2 → hh_G p l e R s m args below meth c Q ba oa v5 H locs cells slots (pc + 1) la2 st2) : hh_G p l e R s m args below meth c Q ba oa v5 H locs cells slots pc la st := by
  unfold s_l2i at h
  split at h
  next a st => exact lv_l2i hx hb hd (n_l2i a) (hk _ _ _ h hL)
  next => cases h
theorem sd_lneg (hx : p.tables.exec = Jvm.exec) (hb : c.code = cc) (hd : decode cc pc = .ok (.lneg, 1)) (hL : hh_L ba oa v5 la ls) (h : s_l ls st M kk = some r)
    (hk : ∀ ls2 st2 la2, kk ls2 st2 M = some r → hh_L ba oa v5 la2 ls2 → hh_G p l e R s m args below meth c Q ba oa v5 H locs cells slots (pc + 1) la2 st2) : hh_G p l e R s m args below meth c Q ba oa v5 H locs cells slots pc la st := by
  unfold s_l at h
  split at h
  next a st =>
    refine lv_lneg hx hb hd ?_
    have h2 := hk _ _ _ h hL
    rw [n_lneg]
    exact h2
  next => cases h
theorem sd_lcmp (hx : p.tables.exec = Jvm.exec) (hb : c.code = cc) (hd : decode cc pc = .ok (.lcmp, 1)) (hL : hh_L ba oa v5 la ls) (h : s_lcmp ls st M kk = some r)
    (hk : ∀ ls2 st2 la2, kk ls2 st2 M = some r → hh_L ba oa v5 la2 ls2 → hh_G p l e R s m args below meth c Q ba oa v5 H locs cells slots (pc + 1) la2 st2) : hh_G p l e R s m args below meth c Q ba oa v5 H locs cells slots pc la st := by
  unfold s_lcmp at h
  split at h
  next b a st =>
    refine W.lcmp hx hb hd ?_
    have h2 := hk _ _ _ h hL
    rw [n_lcmp]
    exact h2
  next => cases h
theorem sd_dup (h5 : v5 = .null ∨ ∃ t, v5 = .ref t) (hx : p.tables.exec = Jvm.exec) (hb : c.code = cc) (hd : decode cc pc = .ok (.dup, 1)) (hL : hh_L ba oa v5 la ls) (h : s_dup ls st M kk = some r)
    (hk : ∀ ls2 st2 la2, kk ls2 st2 M = some r → hh_L ba oa v5 la2 ls2 → hh_G p l e R s m args below meth c Q ba oa v5 H locs cells slots (pc + 1) la2 st2) : hh_G p l e R s m args below meth c Q ba oa v5 H locs cells slots pc la st := by
  unfold s_dup at h
  split at h
  next a st => exact lv_dup hx hb hd (hh_tv_cat (ba := ba) (oa := oa) h5 (.inl a)) (hk _ _ _ h hL)
  next a st => exact lv_dup hx hb hd (hh_tv_cat (ba := ba) (oa := oa) h5 (.inr (.inr a))) (hk _ _ _ h hL)
  next => cases h
theorem sd_dup2 (h5 : v5 = .null ∨ ∃ t, v5 = .ref t) (hx : p.tables.exec = Jvm.exec) (hb : c.code = cc) (hd : decode cc pc = .ok (.dup2, 1)) (hL : hh_L ba oa v5 la ls) (h : s_dup2 ls st M kk = some r)
    (hk : ∀ ls2 st2 la2, kk ls2 st2 M = some r → hh_L ba oa v5 la2 ls2 → hh_G p l e R s m args below meth c Q ba oa v5 H locs cells slots (pc + 1) la2 st2) : hh_G p l e R s m args below meth c Q ba oa v5 H locs cells slots pc la st := by
  unfold s_dup2 at h
  split at h
  next a st => exact lv_dup2_2 hx hb hd rfl (hk _ _ _ h hL)
  next a b st => exact lv_dup2_11 hx hb hd rfl (hh_tv_cat (ba := ba) (oa := oa) h5 (.inr (.inr b))) (hk _ _ _ h hL)
  next => cases h
theorem sd_pop (h5 : v5 = .null ∨ ∃ t, v5 = .ref t) (hx : p.tables.exec = Jvm.exec) (hb : c.code = cc) (hd : decode cc pc = .ok (.pop, 1)) (hL : hh_L ba oa v5 la ls) (h : s_pop ls st M kk = some r)
    (hk : ∀ ls2 st2 la2, kk ls2 st2 M = some r → hh_L ba oa v5 la2 ls2 → hh_G p l e R s m args below meth c Q ba oa v5 H locs cells slots (pc + 1) la2 st2) : hh_G p l e R s m args below meth c Q ba oa v5 H locs cells slots pc la st := by
  unfold s_pop at h
  split at h
  next a st => exact lv_pop hx hb hd (hh_tv_cat (ba := ba) (oa := oa) h5 (.inl a)) (hk _ _ _ h hL)
  next a st => exact lv_pop hx hb hd (hh_tv_cat (ba := ba) (oa := oa) h5 (.inr (.inr a))) (hk _ _ _ h hL)
  next => cases h
/-- branches -/
theorem sd_ifc {F : Nat → hh_Lo → hh_Sk → hh_Mm → Option hh_Rs} {cd : Jvm.ClassFile.Cond} {off : Int} {b tgt : Nat} (hx : p.tables.exec = Jvm.exec) (hb : c.code = cc) (hd : decode cc pc = .ok (.ifCond cd off, 3)) (ht : (pc : Int) + off = (tgt : Int)) (hL : hh_L ba oa v5 la ls) (h : s_ifc F cd b ls st M kk = some r)
    (hF : ∀ st2, F b ls st2 M = some r → hh_G p l e R s m args below meth c Q ba oa v5 H locs cells slots tgt la st2)
    (hk : ∀ ls2 st2 la2, kk ls2 st2 M = some r → hh_L ba oa v5 la2 ls2 → hh_G p l e R s m args below meth c Q ba oa v5 H locs cells slots (pc + 3) la2 st2) : hh_G p l e R s m args below meth c Q ba oa v5 H locs cells slots pc la st := by
  unfold s_ifc at h
  split at h
  next a st =>
    cases cd <;> simp only [br] at h
    · exact lv_if_eq hx hb hd ht (fun q => hF _ (by rw [if_pos (((n_eq a 0).mp q).trans w32_0)] at h; exact h)) (fun q => hk _ _ _ (by rw [if_neg (fun z => q ((n_eq a 0).mpr (z.trans w32_0.symm)))] at h; exact h) hL)
    · exact lv_if_ne hx hb hd ht (fun q => hF _ (by rw [if_neg (fun z => q ((n_eq a 0).mpr (z.trans w32_0.symm)))] at h; exact h)) (fun q => hk _ _ _ (by rw [if_pos (((n_eq a 0).mp q).trans w32_0)] at h; exact h) hL)
    · exact lv_if_lt hx hb hd ht (fun q => hF _ (by rw [if_pos (by have := (n_lt a 0).mp q; rw [w32_0] at this; exact this)] at h; exact h)) (fun q => hk _ _ _ (by rw [if_neg (fun z => q ((n_lt a 0).mpr (by rw [w32_0]; exact z)))] at h; exact h) hL)
    · exact lv_if_ge hx hb hd ht (fun q => hF _ (by rw [if_neg (by have := (n_le 0 a).mp q; rw [w32_0] at this; exact this)] at h; exact h)) (fun q => hk _ _ _ (by rw [if_pos (Decidable.not_not.mp (fun z => q ((n_le 0 a).mpr (by rw [w32_0]; exact z))))] at h; exact h) hL)
    · exact lv_if_gt hx hb hd ht (fun q => hF _ (by rw [if_pos (by have := (n_lt 0 a).mp q; rw [w32_0] at this; exact this)] at h; exact h)) (fun q => hk _ _ _ (by rw [if_neg (fun z => q ((n_lt 0 a).mpr (by rw [w32_0]; exact z)))] at h; exact h) hL)
    · exact lv_if_le hx hb hd ht (fun q => hF _ (by rw [if_neg (by have := (n_le a 0).mp q; rw [w32_0] at this; exact this)] at h; exact h)) (fun q => hk _ _ _ (by rw [if_pos (Decidable.not_not.mp (fun z => q ((n_le a 0).mpr (by rw [w32_0]; exact z))))] at h; exact h) hL)
  next => cases h
theorem sd_icmp {F : Nat → hh_Lo → hh_Sk → hh_Mm → Option hh_Rs} {cd : Jvm.ClassFile.Cond} {off : Int} {b tgt : Nat} (hx : p.tables.exec = Jvm.exec) (hb : c.code = cc) (hd : decode cc pc = .ok (.if_icmp cd off, 3)) (ht : (pc : Int) + off = (tgt : Int)) (hL : hh_L ba oa v5 la ls) (h : s_icmp F cd b ls st M kk = some r)
    (hF : ∀ st2, F b ls st2 M = some r → hh_G p l e R s m args below meth c Q ba oa v5 H locs cells slots tgt la st2)
    (hk : ∀ ls2 st2 la2, kk ls2 st2 M = some r → hh_L ba oa v5 la2 ls2 → hh_G p l e R s m args below meth c Q ba oa v5 H locs cells slots (pc + 3) la2 st2) : hh_G p l e R s m args below meth c Q ba oa v5 H locs cells slots pc la st := by
  unfold s_icmp at h
  split at h
  next y a st =>
    cases cd <;> simp only [br] at h
    · exact lv_icmp_eq hx hb hd ht (fun q => hF _ (by rw [if_pos ((n_eq a y).mp q)] at h; exact h)) (fun q => hk _ _ _ (by rw [if_neg (fun z => q ((n_eq a y).mpr z))] at h; exact h) hL)
    · exact lv_icmp_ne hx hb hd ht (fun q => hF _ (by rw [if_neg (fun z => q ((n_eq a y).mpr z))] at h; exact h)) (fun q => hk _ _ _ (by rw [if_pos ((n_eq a y).mp q)] at h; exact h) hL)
    · exact lv_icmp_lt hx hb hd ht (fun q => hF _ (by rw [if_pos ((n_lt a y).mp q)] at h; exact h)) (fun q => hk _ _ _ (by rw [if_neg (fun z => q ((n_lt a y).mpr z))] at h; exact h) hL)
    · exact lv_icmp_ge hx hb hd ht (fun q => hF _ (by rw [if_neg ((n_le y a).mp q)] at h; exact h)) (fun q => hk _ _ _ (by rw [if_pos (Decidable.not_not.mp (fun z => q ((n_le y a).mpr z)))] at h; exact h) hL)
    · exact lv_icmp_gt hx hb hd ht (fun q => hF _ (by rw [if_pos ((n_lt y a).mp q)] at h; exact h)) (fun q => hk _ _ _ (by rw [if_neg (fun z => q ((n_lt y a).mpr z))] at h; exact h) hL)
    · exact lv_icmp_le hx hb hd ht (fun q => hF _ (by rw [if_neg ((n_le a y).mp q)] at h; exact h)) (fun q => hk _ _ _ (by rw [if_pos (Decidable.not_not.mp (fun z => q ((n_le a y).mpr z)))] at h; exact h) hL)
  next => cases h
end
