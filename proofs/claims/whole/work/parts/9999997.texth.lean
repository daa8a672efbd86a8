/-! texts: lists of rules; the if part -/
section
variable {L q : Nat} {T : Nat → Int} {n m v w i i2 i3 d e f D : Nat} {F H K : hh_Sv → Option hh_Rs} {b : Bool} {cs ds : List Cd} {s z : hh_Sv} {rs fs : List Ru} {r : Ru}
theorem ru_at_ap {k : Nat} (h : k ≤ rs.length) : ru_at (rs ++ [r]) k = ru_at rs k := by
  unfold ru_at
  rw [List.take_append_of_le_length h]
theorem ru_at_ap1 : ru_at (rs ++ [r]) (rs.length + 1) = ru_at rs rs.length + r.2.2.length := by
  rw [ru_at_succ (i := rs.length) (r := r) (by rw [List.getElem?_append_right (Nat.le_refl _), Nat.sub_self, List.getElem?_cons_zero]), ru_at_ap (Nat.le_refl _)]
theorem ru_at_al : ru_at (rs ++ [r]) (rs ++ [r]).length = ru_at rs rs.length + r.2.2.length := by
  rw [List.length_append, List.length_singleton]
  exact ru_at_ap1
theorem ru_f_n (h : 5 < r.1) : ru_f (rs ++ [r]) = ru_f rs := by
  unfold ru_f
  rw [List.filter_append, List.filter_cons_of_neg (by rw [decide_eq_true_iff]; omega), List.filter_nil, List.append_nil]
theorem ru_f_y (h : r.1 ≤ 5) : ru_f (rs ++ [r]) = ru_f rs ++ [r] := by
  unfold ru_f
  rw [List.filter_append, List.filter_cons_of_pos (by rw [decide_eq_true_iff]; exact h), List.filter_nil]
theorem ru_f_len : (ru_f rs).length ≤ rs.length := List.length_filter_le _ _
theorem ru_l_ap (k : Nat) : ∀ rs : List Ru, ru_l k (rs ++ [r]) = if r.1 = k then r.2.1 else ru_l k rs
  | [] => by
    rw [List.nil_append, ru_l, ru_l]
    by_cases h : r.1 = k
    · rw [if_pos ⟨h, fun x hx => by cases hx⟩, if_pos h]
    · rw [if_neg (fun z => h z.1), if_neg h]
      rfl
  | x :: rs => by
    rw [List.cons_append, ru_l, ru_l_ap k rs]
    by_cases h : r.1 = k
    · rw [if_neg (fun z => z.2 r (List.mem_append.mpr (Or.inr (List.mem_singleton.mpr rfl))) h), if_pos h]
      rw [if_pos h]
    · rw [if_neg h, if_neg h, ru_l]
      by_cases h2 : x.1 = k ∧ ∀ y ∈ rs, y.1 ≠ k
      · rw [if_pos ⟨h2.1, fun y hy => by
          rcases List.mem_append.mp hy with z | z
          · exact h2.2 y z
          · rw [List.mem_singleton.mp z]; exact h⟩, if_pos h2]
      · rw [if_neg (fun z => h2 ⟨z.1, fun y hy => z.2 y (List.mem_append.mpr (Or.inl hy))⟩), if_neg h2]
theorem ru_C_ap (h : ru_C s q rs) (h0 : z q 0 = ((rs.length + 1 : Nat) : Int)) (o1 : ∀ a b, 1 ≤ a → a ≤ 3 → b < rs.length → z (q + a) b = s (q + a) b) (o2 : ∀ b, b < ru_at rs rs.length → z (q + 4) b = s (q + 4) b) (n1 : z (q + 1) rs.length = ru_k r.1) (n2 : z (q + 2) rs.length = (r.2.1 : Nat)) (n3 : z (q + 3) rs.length = ((ru_at rs rs.length + r.2.2.length : Nat) : Int)) (n4 : ∀ (j : Nat) (c : Cd), r.2.2[j]? = some c → z (q + 4) (ru_at rs rs.length + j) = cd_n c) : ru_C z q (rs ++ [r]) := by
  refine ⟨by rw [h0, List.length_append, List.length_singleton], fun k x hk => ?_⟩
  by_cases e : k < rs.length
  · rw [List.getElem?_append_left e] at hk
    obtain ⟨a1, a2, a3, a4⟩ := h.2 k x hk
    rw [ru_at_ap (k := k + 1) (by omega), ru_at_ap (k := k) (by omega), o1 1 k (by decide) (by decide) e, o1 2 k (by decide) (by decide) e, o1 3 k (by decide) (by decide) e]
    refine ⟨a1, a2, a3, fun j c hc => ?_⟩
    rw [o2 _ (ru_at_in hk hc)]
    exact a4 j c hc
  · have hl := (List.getElem?_eq_some_iff.mp hk).1
    rw [List.length_append, List.length_singleton] at hl
    have e2 : k = rs.length := by omega
    subst e2
    rw [List.getElem?_append_right (Nat.le_refl _), Nat.sub_self, List.getElem?_cons_zero] at hk
    have e3 := Option.some.inj hk
    subst e3
    rw [ru_at_ap1, ru_at_ap (Nat.le_refl _)]
    exact ⟨n1, n2, n3, n4⟩
theorem ru_M_ap (h : ru_M s 16 fs) (h0 : z 248 16 = ((fs.length + 1 : Nat) : Int)) (o1 : ∀ a b, 252 ≤ a → a ≤ 255 → b < 384 + fs.length → z a b = s a b) (o2 : ∀ a b, 256 ≤ a → a ≤ 258 → b < 4800 + ru_at fs fs.length → z a b = s a b) (n1 : z 252 (384 + fs.length) = (r.1 : Nat)) (n2 : z 253 (384 + fs.length) = (r.2.1 : Nat)) (n3 : z 254 (384 + fs.length) = ((4800 + ru_at fs fs.length : Nat) : Int)) (n4 : z 255 (384 + fs.length) = ((4800 + (ru_at fs fs.length + r.2.2.length) : Nat) : Int)) (n5 : ∀ (j : Nat) (c : Cd), r.2.2[j]? = some c → z 256 (4800 + (ru_at fs fs.length + j)) = (c.1 : Nat) ∧ z 257 (4800 + (ru_at fs fs.length + j)) = (c.2.1 : Nat) ∧ z 258 (4800 + (ru_at fs fs.length + j)) = (c.2.2 : Nat)) : ru_M z 16 (fs ++ [r]) := by
  refine ⟨by rw [h0, List.length_append, List.length_singleton], fun k x hk => ?_⟩
  by_cases e : k < fs.length
  · rw [List.getElem?_append_left e] at hk
    obtain ⟨a1, a2, a3, a4, a5⟩ := h.2 k x hk
    rw [ru_at_ap (k := k + 1) (by omega), ru_at_ap (k := k) (by omega), o1 252 _ (by decide) (by decide) (by omega), o1 253 _ (by decide) (by decide) (by omega), o1 254 _ (by decide) (by decide) (by omega), o1 255 _ (by decide) (by decide) (by omega)]
    refine ⟨a1, a2, a3, a4, fun j c hc => ?_⟩
    have hin := ru_at_in hk hc
    rw [o2 256 _ (by decide) (by decide) (by omega), o2 257 _ (by decide) (by decide) (by omega), o2 258 _ (by decide) (by decide) (by omega)]
    exact a5 j c hc
  · have hl := (List.getElem?_eq_some_iff.mp hk).1
    rw [List.length_append, List.length_singleton] at hl
    have e2 : k = fs.length := by omega
    subst e2
    rw [List.getElem?_append_right (Nat.le_refl _), Nat.sub_self, List.getElem?_cons_zero] at hk
    have e3 := Option.some.inj hk
    subst e3
    rw [ru_at_ap1, ru_at_ap (Nat.le_refl _)]
    refine ⟨n1, n2, n3, n4, fun j c hc => ?_⟩
    rw [show 300 * 16 + ru_at fs fs.length + j = 4800 + (ru_at fs fs.length + j) by omega]
    exact n5 j c hc
/-- the condition of a rule, if there is one -/
theorem if_ok (hq : ru_cell q) (h : TK T n m) (hi : i ≤ m) : ∃ b i2 cs, (i ≤ i2 ∧ i2 ≤ m) ∧ JF L q T n m 0 i (re_readIf L q 1) (re_readIf_b1 L) b i2 cs ∧ (∀ K : hh_Sv → Option hh_Rs, JG L T n 0 i 0 0 (fun s => (md_takes L 26982 s).bind (fun r1 => if w32 r1.1 = 0 then K r1.2.2 else (if 6 + 3 * (9 - (r1.2.2 242 13)).toNat < 34 then md_any L (6 + 3 * (9 - (r1.2.2 242 13)).toNat) r1.2.2 else none).bind (fun r2 => if w32 r2.1 = 0 then ok L 0 r2.2.2 else K r2.2.2))) K b i2 cs) ∧ (b = true → 2 * cs.length + tP T n i ≤ tP T n i2 ∧ (∀ c ∈ cs, cd_ok c) ∧ (cs = [] ∨ cd_d cs 0 = some 1)) := by
  have ev : wq 17 = 26982 := wq_v.2.2.2.2.2.2.2.2.2.2.2.2.2.2.2.2.2.1
  by_cases hw : wc T n (tP T n i) = 26982
  · obtain ⟨a1, a2, a3, a4, a5, a6⟩ := tP_w h hi hw (by decide)
    obtain ⟨b1, j1, c1, ⟨o1, o2⟩, o3, o4, o5⟩ := any_ok (L := L) (i := i + 1) hq h (by omega)
    have eF : ∀ s, CR s T n m i → re_readIf L q 1 s = (re_take L s).bind (fun r2 => (re_readAny L (4 + 2 * (9 - 0)) q ((0 : Nat) : Int) r2.2.2).bind (fun r3 => if w32 r3.1 = 0 then ok L 0 r3.2.2 else re_readIf_b1 L r3.2.2)) := fun s hc => by
      rw [re_readIf_eq, if_neg (by first | decide | exact wN1 | (rw [w32_id (by decide) (by decide)]; decide)), isW (c := 17) hc 17 (by decide) rfl ev, ok_bind]
      dsimp only
      rw [if_neg (fun z => zb_w.mp z hw)]
      rfl
    have tF := JF.take (L := L) (q := q) (T := T) (n := n) (m := m) (v := 0) (i := i) (K := fun y => (re_readAny L (4 + 2 * (9 - 0)) q ((0 : Nat) : Int) y).bind (fun r3 => if w32 r3.1 = 0 then ok L 0 r3.2.2 else re_readIf_b1 L r3.2.2)) hq a3
    have uF := JF.bind (K := re_readIf_b1 L) o3
    have tG := fun K : hh_Sv → Option hh_Rs => JG.wordY (L := L) (T := T) (n := n) (m := m) (v := 0) (i := i) (d := 0) (c := 26982) (K := fun y => (if 6 + 3 * (9 - (y 242 13)).toNat < 34 then md_any L (6 + 3 * (9 - (y 242 13)).toNat) y else none).bind (fun r2 => if w32 r2.1 = 0 then ok L 0 r2.2.2 else K r2.2.2)) K h hi hw (by decide)
    have uG := fun K : hh_Sv → Option hh_Rs => JG.eq (F := fun y => (if 6 + 3 * (9 - (y 242 13)).toNat < 34 then md_any L (6 + 3 * (9 - (y 242 13)).toNat) y else none).bind (fun r2 => if w32 r2.1 = 0 then ok L 0 r2.2.2 else K r2.2.2)) (fun s _ hs => by
      rw [if_pos (by rw [hs]; decide), hs]
      rfl) (JG.bind (K := K) o4)
    cases b1
    · exact ⟨false, j1, [], ⟨by omega, o2⟩, JF.eq eF (JF.cat (ds := []) hq tF (w := 0) (by rw [List.length_nil]; omega) (JF.no uF)), fun K => JG.cat (ds := []) (tG K) (w := 0) (by rw [List.length_nil]; omega) (JG.no (uG K)), fun z => absurd z (by decide)⟩
    · have g1 := o5 rfl
      have gl := g1.2.1
      have gd := g1.2.2.2 0 [] (by decide)
      rw [List.append_nil] at gd
      exact ⟨true, j1, [] ++ c1, ⟨by omega, o2⟩, JF.eq eF (JF.cat hq tF (w := 0) (by rw [List.length_nil]; omega) uF), fun K => JG.cat (tG K) (w := 0) (by rw [List.length_nil]; omega) (uG K), fun _ => ⟨by rw [List.nil_append]; omega, g1.2.2.1, Or.inr gd⟩⟩
  · refine ⟨true, i, [], ⟨Nat.le_refl i, hi⟩, JF.eq (fun s hc => ?_) (JF.rf hq), fun K => JG.wordN (c := 26982) (K := K) (fun y => (if 6 + 3 * (9 - (y 242 13)).toNat < 34 then md_any L (6 + 3 * (9 - (y 242 13)).toNat) y else none).bind (fun r2 => if w32 r2.1 = 0 then ok L 0 r2.2.2 else K r2.2.2)) h hi hw ⟨by decide, by decide⟩, fun _ => ⟨by rw [List.length_nil]; omega, fun c hc => (by cases hc), Or.inl rfl⟩⟩
    rw [re_readIf_eq, if_neg (by first | decide | exact wN1 | (rw [w32_id (by decide) (by decide)]; decide)), isW (c := 17) hc 17 (by decide) rfl ev, ok_bind]
    dsimp only
    rw [if_pos (zb_w.mpr hw)]
theorem semi_F (hq : ru_cell q) (h : TK T n m) (hi : i ≤ m) : (tP T n i < n ∧ T (tP T n i) = 59 → JF L q T n m v i (re_readIf_b1 L) (fun y => ok L 1 y) true (i + 1) []) ∧ (¬ (tP T n i < n ∧ T (tP T n i) = 59) → JF L q T n m v i (re_readIf_b1 L) (fun y => ok L 1 y) false i []) := by
  refine ⟨fun hs => ?_, fun hs => ?_⟩
  · obtain ⟨a1, a2, a3, a4⟩ := tP_s h hi hs (by decide)
    refine JF.eq (fun s hc => ?_) (JF.take (K := fun y => ok L 1 y) hq a1)
    rw [re_readIf_b1_eq, re_isSign_ok hc (by decide) ⟨by decide, by decide⟩, ok_bind]
    dsimp only
    rw [if_neg (fun z => zb_w.mp z hs)]
  · refine JF.eq (fun s hc => ?_) JF.fl
    rw [re_readIf_b1_eq, re_isSign_ok hc (by decide) ⟨by decide, by decide⟩, ok_bind]
    dsimp only
    rw [if_pos (zb_w.mpr hs)]
end
