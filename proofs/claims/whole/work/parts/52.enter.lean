/-! the law up to its loop -/
def in_s (o1 : Nat → Int) : hh_Sv := fun a b => if a < 8 then st_sv o1 a b else cm_lk in_u2 a b
theorem in_sem0 (L : Nat) (o1 : Nat → Int) : cm_sem L o1 ([], []) = st_M L o1 := by
  refine Prod.ext (Prod.ext rfl (funext fun k => ?_)) (funext fun a => funext fun b => ?_)
  · show (if k < 8 then st_sh L k else (99, 0, [])) = st_sh L k
    by_cases h : k < 8
    · rw [if_pos h]
    · rw [if_neg h, st_sh8 (by omega)]
  · show (if a < 8 then st_sv o1 a b else 0) = st_sv o1 a b
    by_cases h : a < 8
    · rw [if_pos h]
    · rw [if_neg h]
      match a, h with
      | a + 8, _ => rfl
theorem in_shk : ∀ k : Nat, k < 285 → 8 ≤ k → in_s2.getD (k - 8) (99, 0, []) = SHf 0 k := by decide +kernel
theorem in_shL {L k : Nat} (h : 8 ≤ k) : SHf L k = SHf 0 k := by
  have h8 : ¬ k < 8 := by omega
  unfold SHf
  simp only [h8, if_false]
set_option maxRecDepth 100000 in
theorem in_sh (L : Nat) (o1 : Nat → Int) : cm_sem L o1 (in_s2, in_u2) = (SHc L, in_s o1) := by
  refine Prod.ext (Prod.ext ?_ (funext fun k => ?_)) rfl
  · show 8 + in_s2.length = 285
    decide +kernel
  · show (if k < 8 then st_sh L k else in_s2.getD (k - 8) (99, 0, [])) = SHf L k
    by_cases h : k < 8
    · rw [if_pos h]
      match k, h with
      | 0, _ => rfl
      | 1, _ => rfl
      | 2, _ => rfl
      | 3, _ => rfl
      | 4, _ => rfl
      | 5, _ => rfl
      | 6, _ => rfl
      | 7, _ => rfl
    · rw [if_neg h, in_shL (by omega)]
      by_cases h2 : k < 285
      · exact in_shk k h2 (by omega)
      · rw [List.getD_eq_getElem?_getD, List.getElem?_eq_none (by
          have e : in_s2.length = 277 := by decide +kernel
          omega)]
        unfold SHf
        rw [if_neg h2]
        rfl
set_option maxRecDepth 100000 in
theorem in_law (L : Nat) (o1 : Nat → Int) : hh_Ev PG 38 284 0 (hh_ent 4 [.inr (.inr 1)]) [] (st_M L o1) = hh_Ev PG 38 284 1 [some (.inr (.inr 1)), some (.inr (.inr 8)), some (.inr (.inr 242)), some (.inl 0)] [] (SHc L, in_s o1) := by
  refine (hh_Ev_eq pb_lw_law).trans ?_
  show Option.bind (hh_Ev PG 3 79 0 (hh_ent 2 [.inr (.inr 8)]) [] (hh_gr (st_M L o1) (29, 17, List.replicate 17 0))) (fun r => hh_xb pg_KI pg_KS (hh_jp PG (hh_Ev PG) 38 284 B_lw_law 40) (hh_cl PG (hh_Ev PG) 38) 1 (B_lw_law_0.1.drop 3) [some (.inr (.inr 1)), none, none, none] [.inr (.inr 8)] r.2) = _
  have e1 : hh_gr (st_M L o1) (29, 17, List.replicate 17 0) = cm_sem L o1 ([(29, 17, List.replicate 17 0)], []) := by
    rw [← in_sem0]
    exact (cm_gr (T := ([], [])) (w := (29, 17, List.replicate 17 0)) rfl).symm
  rw [e1, cm_ok_ev L o1 60 3 79 0 _ _ _ _ in_1]
  have e2 : hh_gr (cm_sem L o1 (in_s1, in_u1)) (30, 73, List.replicate 73 0) = cm_sem L o1 (in_s1 ++ [(30, 73, List.replicate 73 0)], in_u1) := (cm_gr (T := (in_s1, in_u1)) (w := (30, 73, List.replicate 73 0)) (by decide +kernel)).symm
  have e3 : (cm_sem L o1 (in_s1, in_u1)).1.1 = 242 := by
    show 8 + in_s1.length = 242
    decide +kernel
  show hh_xb pg_KI pg_KS (hh_jp PG (hh_Ev PG) 38 284 B_lw_law 40) (hh_cl PG (hh_Ev PG) 38) 1 (B_lw_law_0.1.drop 3) [some (.inr (.inr 1)), none, none, none] [.inr (.inr 8)] (cm_sem L o1 (in_s1, in_u1)) = _
  generalize cm_sem L o1 (in_s1, in_u1) = M at e2 e3 ⊢
  obtain ⟨⟨N, f⟩, s⟩ := M
  obtain rfl : N = 242 := e3
  show Option.bind (hh_Ev PG 1 150 0 (hh_ent 1 [.inr (.inr 242)]) [] (hh_gr ((242, f), s) (30, 73, List.replicate 73 0))) (fun r => hh_xb pg_KI pg_KS (hh_jp PG (hh_Ev PG) 38 284 B_lw_law 40) (hh_cl PG (hh_Ev PG) 38) 1 (B_lw_law_0.1.drop 7) [some (.inr (.inr 1)), some (.inr (.inr 8)), none, none] [.inr (.inr 242)] r.2) = _
  rw [e2, cm_ok_ev L o1 60 1 150 0 _ _ _ _ in_2, in_sh]
  rfl
