/-! texts: one rule, both sides -/
def mo : Nat → Int
  | 0 => 100
  | 1 => 3
  | 2 => 3
  | 3 => 9
  | _ => 99
noncomputable def lwT (L : Nat) (k most : Int) : hh_Sv → Option hh_Rs := fun s => (md_ruleTold L k most s).bind (fun r6 => if r6.1 = 0 ∨ r6.1 = 1 then ok L r6.1 r6.2.2 else none)
noncomputable def lw4 (L : Nat) : hh_Sv → Option hh_Rs := fun s => (md_word L s).bind (fun r5 => if w32 (lCmp r5.1 114767740298610) = 0 then md_lawRule_b6 L 1 r5.2.2 else md_lawRule_b6 L 0 r5.2.2)
noncomputable def lw3 (L : Nat) : hh_Sv → Option hh_Rs := fun s => (md_takes L 495873782885 s).bind (fun r => if w32 r.1 = 0 then lw4 L r.2.2 else lwT L 3 9 r.2.2)
noncomputable def lw2 (L : Nat) : hh_Sv → Option hh_Rs := fun s => (md_takes L 444350952036 s).bind (fun r => if w32 r.1 = 0 then lw3 L r.2.2 else lwT L 2 3 r.2.2)
noncomputable def lw1 (L : Nat) : hh_Sv → Option hh_Rs := fun s => (md_takes L 1751216740 s).bind (fun r => if w32 r.1 = 0 then lw2 L r.2.2 else lwT L 1 3 r.2.2)
noncomputable def lw0 (L : Nat) : hh_Sv → Option hh_Rs := fun s => (md_takes L 6842740 s).bind (fun r => if w32 r.1 = 0 then lw1 L r.2.2 else lwT L 0 100 r.2.2)
noncomputable def lw7 (L : Nat) (l1 : Int) : hh_Sv → Option hh_Rs := fun s => (md_takesNumber L 0 99 s).bind (fun r1 => if w32 r1.1 = 0 then ok L 0 r1.2.2 else if w32 l1 = 0 then ok L 1 (up r1.2.2 251 16 (r1.2.2 242 33)) else ok L 1 (up r1.2.2 250 16 (r1.2.2 242 33)))
noncomputable def bf3 (L : Nat) (k : Int) : hh_Sv → Option hh_Rs := fun s => (md_ruleTold L k (-1) s).bind (fun r6 => if r6.1 = 0 ∨ r6.1 = 1 then ok L r6.1 r6.2.2 else none)
noncomputable def bf2 (L : Nat) : hh_Sv → Option hh_Rs := fun s => (md_takes L 1885434739 s).bind (fun r3 => if w32 r3.1 = 0 then md_beliefRule_b3 L r3.2.2 else (md_ruleTold L 5 (-1) r3.2.2).bind (fun r4 => if w32 r4.1 = 0 then md_beliefRule_b3 L r4.2.2 else ok L 1 r4.2.2))
noncomputable def bf1 (L : Nat) : hh_Sv → Option hh_Rs := fun s => (md_takes L 1835627379 s).bind (fun r => if w32 r.1 = 0 then bf2 L r.2.2 else bf3 L 4 r.2.2)
noncomputable def bf0 (L : Nat) : hh_Sv → Option hh_Rs := fun s => (md_takes L 6842740 s).bind (fun r => if w32 r.1 = 0 then bf1 L r.2.2 else bf3 L 0 r.2.2)
section
variable {L q : Nat} {T : Nat → Int} {n m v w i i2 i3 d e f D : Nat} {F H K : hh_Sv → Option hh_Rs} {b : Bool} {cs ds : List Cd} {s y z : hh_Sv} {rs fs : List Ru} {r : Ru}
theorem lw_eq : md_lawRule L s = lw0 L s := md_lawRule_eq L s
theorem bf_eq : md_beliefRule L s = bf0 L s := md_beliefRule_eq L s
theorem re_mostOf_ok {kk : Nat} (hk : kk ≤ 3 ∨ kk = 6 ∨ kk = 7) : re_mostOf L (ru_k kk) s = ok L (mo kk) s := by
  have hh : kk = 0 ∨ kk = 1 ∨ kk = 2 ∨ kk = 3 ∨ kk = 6 ∨ kk = 7 := by omega
  rw [re_mostOf_eq]
  rcases hh with hh | hh | hh | hh | hh | hh <;> subst hh
  · rw [if_pos (by first | decide | exact w32_0' | exact wM1 | (rw [w32_id (by decide) (by decide)]; decide))]; rfl
  · rw [if_neg (by first | decide | exact wN1 | (rw [w32_id (by decide) (by decide)]; decide)), if_neg (by first | decide | exact wN1 | (rw [w32_id (by decide) (by decide)]; decide)), if_neg (by first | decide | exact wN1 | (rw [w32_id (by decide) (by decide)]; decide)), if_pos (by first | decide | exact w32_0' | exact wM1 | (rw [w32_id (by decide) (by decide)]; decide))]; rfl
  · rw [if_neg (by first | decide | exact wN1 | (rw [w32_id (by decide) (by decide)]; decide)), if_neg (by first | decide | exact wN1 | (rw [w32_id (by decide) (by decide)]; decide)), if_neg (by first | decide | exact wN1 | (rw [w32_id (by decide) (by decide)]; decide)), if_neg (by first | decide | exact wN1 | (rw [w32_id (by decide) (by decide)]; decide)), if_pos (by first | decide | exact w32_0' | exact wM1 | (rw [w32_id (by decide) (by decide)]; decide))]; rfl
  · rw [if_neg (by first | decide | exact wN1 | (rw [w32_id (by decide) (by decide)]; decide)), if_neg (by first | decide | exact wN1 | (rw [w32_id (by decide) (by decide)]; decide)), if_neg (by first | decide | exact wN1 | (rw [w32_id (by decide) (by decide)]; decide)), if_neg (by first | decide | exact wN1 | (rw [w32_id (by decide) (by decide)]; decide)), if_neg (by first | decide | exact wN1 | (rw [w32_id (by decide) (by decide)]; decide)), if_pos (by first | decide | exact w32_0' | exact wM1 | (rw [w32_id (by decide) (by decide)]; decide))]; rfl
  · rw [if_neg (by first | decide | exact wN1 | (rw [w32_id (by decide) (by decide)]; decide)), if_pos (by first | decide | exact w32_0' | exact wM1 | (rw [w32_id (by decide) (by decide)]; decide))]; rfl
  · rw [if_neg (by first | decide | exact wN1 | (rw [w32_id (by decide) (by decide)]; decide)), if_neg (by first | decide | exact wN1 | (rw [w32_id (by decide) (by decide)]; decide)), if_pos (by first | decide | exact w32_0' | exact wM1 | (rw [w32_id (by decide) (by decide)]; decide))]; rfl
theorem mo_bd (kk : Nat) : 0 ≤ mo kk ∧ mo kk ≤ 100 := by
  unfold mo
  split <;> decide
/-- the class: word and number of a rule -/
theorem law_F {kk : Nat} (hq : ru_cell q) (h : TK T n m) (hi : i ≤ m) (hk : kk ≤ 3 ∨ kk = 6 ∨ kk = 7) (hw : wc T n (tP T n i) = wq (ru_k kk).toNat) : (nOk T n (tP T n (i + 1)) 0 (mo kk) = true → JF L q T n m 0 i (re_readRule L q) (re_readRule_b4 L q (ru_k kk) (tC T n (tP T n (i + 1))) q (if kk ≤ 5 then 1 else 0)) true (i + 1 + 1) []) ∧ (¬ nOk T n (tP T n (i + 1)) 0 (mo kk) = true → JF L q T n m 0 i (re_readRule L q) K false (i + 1) cs) := by
  have hkr : 0 ≤ ru_k kk ∧ ru_k kk ≤ 5 ∧ 256 ≤ wq (ru_k kk).toNat := (show ∀ kk : Nat, kk < 8 → (kk ≤ 3 ∨ kk = 6 ∨ kk = 7) → 0 ≤ ru_k kk ∧ ru_k kk ≤ 5 ∧ 256 ≤ wq (ru_k kk).toNat by decide +kernel) kk (by omega) hk
  have hkw : w32 (ru_k kk) = ru_k kk := w32_id (by omega) (by omega)
  have hk1 : ru_k kk = 1 ↔ kk = 6 := (show ∀ kk : Nat, kk < 8 → (ru_k kk = 1 ↔ kk = 6) by decide +kernel) kk (by omega)
  have hk2 : ru_k kk = 2 ↔ kk = 7 := (show ∀ kk : Nat, kk < 8 → (ru_k kk = 2 ↔ kk = 7) by decide +kernel) kk (by omega)
  have mb := mo_bd kk
  obtain ⟨a1, a2, a3, a4, a5, a6⟩ := tP_w h hi hw hkr.2.2
  have ex : wx T n (tP T n i) = ru_k kk := by
    have := (wx_iff (h.qq hi).1 (w := (ru_k kk).toNat) (by omega)).mpr hw
    omega
  have eC : tC T n (tP T n i) = ru_k kk := by
    unfold tC
    rw [if_pos a1, if_pos a2, ex]
  have hP : (tP T n i < n ∧ isA (T (tP T n i)) = true) ∧ 0 ≤ wx T n (tP T n i) ∧ wx T n (tP T n i) ≤ 5 := ⟨⟨a1, a2⟩, by omega, by omega⟩
  have eF : ∀ s, CR s T n m i → re_readRule L q s = (re_take L s).bind (fun r2 => (re_mostOf L r2.1 r2.2.2).bind (fun r3 => (re_isNumber L 0 r3.1 r3.2.2).bind (fun r4 => if w32 r4.1 = 0 then ok L 0 r4.2.2 else (re_take L r4.2.2).bind (fun r5 => if w32 r2.1 = 1 then re_readRule_b3 L q r2.1 r5.1 q r5.2.2 else if w32 r2.1 = 2 then re_readRule_b3 L q r2.1 r5.1 q r5.2.2 else re_readRule_b4 L q r2.1 r5.1 q 1 r5.2.2)))) := fun s hc => by
    rw [re_readRule_eq, re_isWordOf_ok hc ⟨by decide, by decide⟩ ⟨by decide, by decide⟩, ok_bind]
    dsimp only
    rw [if_neg (fun z => zb_w.mp z hP)]
  have tF := JF.takeV (L := L) (q := q) (T := T) (n := n) (m := m) (v := 0) (i := i) (fun w y => (re_mostOf L w y).bind (fun r3 => (re_isNumber L 0 r3.1 r3.2.2).bind (fun r4 => if w32 r4.1 = 0 then ok L 0 r4.2.2 else (re_take L r4.2.2).bind (fun r5 => if w32 w = 1 then re_readRule_b3 L q w r5.1 q r5.2.2 else if w32 w = 2 then re_readRule_b3 L q w r5.1 q r5.2.2 else re_readRule_b4 L q w r5.1 q 1 r5.2.2)))) hq a3
  rw [eC] at tF
  refine ⟨fun hn => ?_, fun hn => ?_⟩
  · obtain ⟨b1, b2, b3, b4, b5⟩ := tP_n h (by omega) hn
    have uF := JF.takeV (L := L) (q := q) (T := T) (n := n) (m := m) (v := 0) (i := i + 1) (fun x y => if w32 (ru_k kk) = 1 then re_readRule_b3 L q (ru_k kk) x q y else if w32 (ru_k kk) = 2 then re_readRule_b3 L q (ru_k kk) x q y else re_readRule_b4 L q (ru_k kk) x q 1 y) hq b1
    have wF : JF L q T n m 0 (i + 1 + 1) (fun y => if w32 (ru_k kk) = 1 then re_readRule_b3 L q (ru_k kk) (tC T n (tP T n (i + 1))) q y else if w32 (ru_k kk) = 2 then re_readRule_b3 L q (ru_k kk) (tC T n (tP T n (i + 1))) q y else re_readRule_b4 L q (ru_k kk) (tC T n (tP T n (i + 1))) q 1 y) (re_readRule_b4 L q (ru_k kk) (tC T n (tP T n (i + 1))) q (if kk ≤ 5 then 1 else 0)) true (i + 1 + 1) [] := JF.eq (fun s _ => by
      by_cases e1 : kk = 6
      · rw [if_pos (by rw [hkw]; exact hk1.mpr e1), re_readRule_b3_eq, if_neg (by omega)]
      · rw [if_neg (by rw [hkw]; exact fun u => e1 (hk1.mp u))]
        by_cases e2 : kk = 7
        · rw [if_pos (by rw [hkw]; exact hk2.mpr e2), re_readRule_b3_eq, if_neg (by omega)]
        · rw [if_neg (by rw [hkw]; exact fun u => e2 (hk2.mp u)), if_pos (by omega)]) (JF.rf hq)
    have xF : JF L q T n m 0 (i + 1) (fun y => (re_mostOf L (ru_k kk) y).bind (fun r3 => (re_isNumber L 0 r3.1 r3.2.2).bind (fun r4 => if w32 r4.1 = 0 then ok L 0 r4.2.2 else (re_take L r4.2.2).bind (fun r5 => if w32 (ru_k kk) = 1 then re_readRule_b3 L q (ru_k kk) r5.1 q r5.2.2 else if w32 (ru_k kk) = 2 then re_readRule_b3 L q (ru_k kk) r5.1 q r5.2.2 else re_readRule_b4 L q (ru_k kk) r5.1 q 1 r5.2.2)))) (re_readRule_b4 L q (ru_k kk) (tC T n (tP T n (i + 1))) q (if kk ≤ 5 then 1 else 0)) true (i + 1 + 1) [] := JF.eq (fun s hc => by
      rw [re_mostOf_ok hk, ok_bind]
      dsimp only
      rw [re_isNumber_ok hc ⟨by decide, by decide⟩ ⟨by omega, by omega⟩, ok_bind]
      dsimp only
      rw [if_neg (fun z => zb_w.mp z hn)]) (JF.cat (cs := []) (ds := []) (w := 0) hq uF (by rw [List.length_nil]; omega) wF)
    exact JF.eq eF (JF.cat (cs := []) (ds := []) (w := 0) hq tF (by rw [List.length_nil]; omega) xF)
  · refine JF.eq eF (JF.no (K := K) (cs := []) (JF.cat (cs := []) (ds := []) (w := 0) hq tF (by rw [List.length_nil]; omega) (JF.eq (fun s hc => ?_) JF.fl)))
    rw [re_mostOf_ok hk, ok_bind]
    dsimp only
    rw [re_isNumber_ok hc ⟨by decide, by decide⟩ ⟨by omega, by omega⟩, ok_bind]
    dsimp only
    rw [if_pos (zb_w.mpr hn)]
/-- the reference: the word of a rule -/
theorem law_G {kk : Nat} (h : TK T n m) (hi : i ≤ m) (hk : kk ≤ 3) (hw : wc T n (tP T n i) = wq (ru_k kk).toNat) : JG L T n v i d d (md_lawRule L) (lwT L (kk : Int) (mo kk)) true (i + 1) [] := by
  have hz : ∀ kk, kk ≤ 3 → wq (ru_k kk).toNat = (if kk = 0 then 6842740 else if kk = 1 then 1751216740 else if kk = 2 then 444350952036 else 495873782885) := fun kk hk => (show ∀ kk : Nat, kk < 4 → wq (ru_k kk).toNat = (if kk = 0 then 6842740 else if kk = 1 then 1751216740 else if kk = 2 then 444350952036 else 495873782885) by decide +kernel) kk (by omega)
  rw [hz kk hk] at hw
  refine JG.eq (fun s _ _ => lw_eq) ?_
  have hh : kk = 0 ∨ kk = 1 ∨ kk = 2 ∨ kk = 3 := by omega
  rcases hh with hh | hh | hh | hh <;> subst hh
  · exact JG.wordY (K := lwT L 0 100) (lw1 L) h hi hw (by decide)
  · rw [if_neg (by first | decide | exact wN1 | (rw [w32_id (by decide) (by decide)]; decide)), if_pos rfl] at hw
    refine JG.cat (cs := []) (ds := []) (w := v) (JG.wordN (c := 6842740) (K := lw1 L) (lwT L 0 100) h hi (by rw [hw]; decide) ⟨by decide, by decide⟩) (by rw [List.length_nil]; omega) ?_
    exact JG.wordY (K := lwT L 1 3) (lw2 L) h hi hw (by decide)
  · rw [if_neg (by first | decide | exact wN1 | (rw [w32_id (by decide) (by decide)]; decide)), if_neg (by first | decide | exact wN1 | (rw [w32_id (by decide) (by decide)]; decide)), if_pos rfl] at hw
    refine JG.cat (cs := []) (ds := []) (w := v) (JG.wordN (c := 6842740) (K := lw1 L) (lwT L 0 100) h hi (by rw [hw]; decide) ⟨by decide, by decide⟩) (by rw [List.length_nil]; omega) ?_
    refine JG.cat (cs := []) (ds := []) (w := v) (JG.wordN (c := 1751216740) (K := lw2 L) (lwT L 1 3) h hi (by rw [hw]; decide) ⟨by decide, by decide⟩) (by rw [List.length_nil]; omega) ?_
    exact JG.wordY (K := lwT L 2 3) (lw3 L) h hi hw (by decide)
  · rw [if_neg (by first | decide | exact wN1 | (rw [w32_id (by decide) (by decide)]; decide)), if_neg (by first | decide | exact wN1 | (rw [w32_id (by decide) (by decide)]; decide)), if_neg (by first | decide | exact wN1 | (rw [w32_id (by decide) (by decide)]; decide))] at hw
    refine JG.cat (cs := []) (ds := []) (w := v) (JG.wordN (c := 6842740) (K := lw1 L) (lwT L 0 100) h hi (by rw [hw]; decide) ⟨by decide, by decide⟩) (by rw [List.length_nil]; omega) ?_
    refine JG.cat (cs := []) (ds := []) (w := v) (JG.wordN (c := 1751216740) (K := lw2 L) (lwT L 1 3) h hi (by rw [hw]; decide) ⟨by decide, by decide⟩) (by rw [List.length_nil]; omega) ?_
    refine JG.cat (cs := []) (ds := []) (w := v) (JG.wordN (c := 444350952036) (K := lw3 L) (lwT L 2 3) h hi (by rw [hw]; decide) ⟨by decide, by decide⟩) (by rw [List.length_nil]; omega) ?_
    exact JG.wordY (K := lwT L 3 9) (lw4 L) h hi hw (by decide)
theorem law_G4 (h : TK T n m) (hi : i ≤ m) (h0 : wc T n (tP T n i) ≠ 6842740) (h1 : wc T n (tP T n i) ≠ 1751216740) (h2 : wc T n (tP T n i) ≠ 444350952036) (h3 : wc T n (tP T n i) ≠ 495873782885) : JG L T n v i d d (md_lawRule L) (lw4 L) true i [] := by
  refine JG.eq (fun s _ _ => lw_eq) ?_
  refine JG.cat (cs := []) (ds := []) (w := v) (JG.wordN (c := 6842740) (K := lw1 L) (lwT L 0 100) h hi h0 ⟨by decide, by decide⟩) (by rw [List.length_nil]; omega) ?_
  refine JG.cat (cs := []) (ds := []) (w := v) (JG.wordN (c := 1751216740) (K := lw2 L) (lwT L 1 3) h hi h1 ⟨by decide, by decide⟩) (by rw [List.length_nil]; omega) ?_
  refine JG.cat (cs := []) (ds := []) (w := v) (JG.wordN (c := 444350952036) (K := lw3 L) (lwT L 2 3) h hi h2 ⟨by decide, by decide⟩) (by rw [List.length_nil]; omega) ?_
  exact JG.wordN (c := 495873782885) (K := lw4 L) (lwT L 3 9) h hi h3 ⟨by decide, by decide⟩
theorem law_G6 {kk : Nat} (h : TK T n m) (hi : i ≤ m) (hk : kk = 6 ∨ kk = 7) (hw : wc T n (tP T n i) = wq (ru_k kk).toNat) : JG L T n v i d d (md_lawRule L) (lw7 L (if kk = 6 then 1 else 0)) true (i + 1) [] := by
  have hz : wc T n (tP T n i) = (if kk = 6 then 114767740298610 else 29120983992657252) := by
    rw [hw]
    exact (show ∀ kk : Nat, kk < 8 → (kk = 6 ∨ kk = 7) → wq (ru_k kk).toNat = (if kk = 6 then 114767740298610 else 29120983992657252) by decide +kernel) kk (by omega) hk
  have h6 : 256 ≤ wc T n (tP T n i) := by rw [hz]; split <;> decide
  obtain ⟨a1, a2, a3, a4, a5, a6⟩ := tP_w h hi rfl h6
  have hne : wc T n (tP T n i) ≠ 6842740 ∧ wc T n (tP T n i) ≠ 1751216740 ∧ wc T n (tP T n i) ≠ 444350952036 ∧ wc T n (tP T n i) ≠ 495873782885 := by rw [hz]; split <;> decide
  refine JG.cat (cs := []) (ds := []) (w := v) (law_G4 h hi hne.1 hne.2.1 hne.2.2.1 hne.2.2.2) (by rw [List.length_nil]; omega) ?_
  intro s j hr hd hj hv
  have hr1 := rn_le (T := T) (n := n) (g := isA) (p := tP T n i) (by omega)
  have hb := wc_bd (T := T) (n := n) (q := tP T n i) (by omega)
  obtain ⟨y, p, y1, y2, y3, y4, y5, y6⟩ := hr.word (L := L)
  have e7 : ∀ (u : hh_Sv) (l : Int), md_lawRule_b7 L l u = lw7 L l (up u 242 12 (u 242 32)) := fun u l => by
    rw [md_lawRule_b7_eq]
    rfl
  by_cases e : kk = 6
  · rw [if_pos e] at hz
    have fr : ∀ a b, ¬ (a = 242 ∧ (b = 12 ∨ b = 32)) → up y 242 12 (y 242 32) a b = s a b := fun a b hh => by
      rw [← y2 a b hh]
      unfold up
      rw [if_neg (by omega)]
    refine ⟨up y 242 12 (y 242 32), ?_, fun a b x1 x2 => fr a b (by omega), hr.at (p := rn T n isA (tP T n i)) (fun a b hh => fr a b (by omega)) (by rw [up_s]; exact y4) hr1.2 a4, fun _ => ⟨by rw [fr _ _ (by omega)]; exact hd, by rw [fr _ _ (by omega)]; exact hj, fun k c hk => by rw [List.getElem?_nil] at hk; cases hk⟩⟩
    show (md_word L s).bind _ = _
    rw [y1, ok_bind, if_pos rfl, if_pos e]
    dsimp only
    rw [if_pos (by rw [hz]; exact lcY), md_lawRule_b6_eq, if_neg (by first | decide | exact wN1 | (rw [w32_id (by decide) (by decide)]; decide)), e7]
  · rw [if_neg e] at hz
    have hr2 : RG y T n i := hr.at (fun a b hh => y2 a b (by omega)) y3 (h.qq hi).1 (tP_rr y5 y6)
    obtain ⟨u, p2, u1, u2, u3, u4, u5, u6⟩ := hr2.word (L := L)
    have fr : ∀ a b, ¬ (a = 242 ∧ (b = 12 ∨ b = 32)) → up u 242 12 (u 242 32) a b = s a b := fun a b hh => by
      rw [← y2 a b hh, ← u2 a b hh]
      unfold up
      rw [if_neg (by omega)]
    refine ⟨up u 242 12 (u 242 32), ?_, fun a b x1 x2 => fr a b (by omega), hr.at (p := rn T n isA (tP T n i)) (fun a b hh => fr a b (by omega)) (by rw [up_s]; exact u4) hr1.2 a4, fun _ => ⟨by rw [fr _ _ (by omega)]; exact hd, by rw [fr _ _ (by omega)]; exact hj, fun k c hk => by rw [List.getElem?_nil] at hk; cases hk⟩⟩
    show (md_word L s).bind _ = _
    rw [y1, ok_bind, if_pos rfl, if_neg e]
    dsimp only
    rw [if_neg (lcN ⟨by omega, by omega⟩ ⟨by decide, by decide⟩ (by rw [hz]; decide)), md_lawRule_b6_eq, if_pos (by first | decide | exact w32_0' | exact wM1 | (rw [w32_id (by decide) (by decide)]; decide)), u1, ok_bind]
    dsimp only
    rw [if_pos (by rw [hz]; exact lcY), e7]
theorem law_Gn (h : TK T n m) (hi : i ≤ m) (hw : ∀ w, w ≤ 5 → wc T n (tP T n i) ≠ wq w) : JG L T n v i d e (md_lawRule L) K false i cs := by
  have q := wq_v
  have h0 := hw 0 (by decide)
  have h1 := hw 1 (by decide)
  have h2 := hw 2 (by decide)
  have h3 := hw 3 (by decide)
  have h4 := hw 4 (by decide)
  have h5 := hw 5 (by decide)
  rw [q.1] at h0
  rw [q.2.1] at h1
  rw [q.2.2.1] at h2
  rw [q.2.2.2.1] at h3
  rw [q.2.2.2.2.1] at h4
  rw [q.2.2.2.2.2.1] at h5
  refine JG.no (K := K) (e := e) (cs := []) (JG.cat (cs := []) (ds := []) (w := v) (law_G4 h hi h0 h3 h4 h5) (by rw [List.length_nil]; omega) ?_)
  intro s j hr hd hj hv
  have hb := wc_bd (T := T) (n := n) (q := tP T n i) (h.qq hi).1
  obtain ⟨y, p, y1, y2, y3, y4, y5, y6⟩ := hr.word (L := L)
  have hr2 : RG y T n i := hr.at (fun a b hh => y2 a b (by omega)) y3 (h.qq hi).1 (tP_rr y5 y6)
  obtain ⟨u, p2, u1, u2, u3, u4, u5, u6⟩ := hr2.word (L := L)
  refine ⟨u, ?_, fun a b x1 x2 => (u2 a b (by omega)).trans (y2 a b (by omega)), hr2.at (fun a b hh => u2 a b (by omega)) u3 (h.qq hi).1 (tP_rr y5 y6), fun z => absurd z (by decide)⟩
  show (md_word L s).bind _ = _
  show Option.bind _ _ = _
  rw [y1, ok_bind]
  dsimp only
  rw [if_neg (lcN ⟨by omega, by omega⟩ ⟨by decide, by decide⟩ h1), md_lawRule_b6_eq, if_pos (by first | decide | exact w32_0' | exact wM1 | (rw [w32_id (by decide) (by decide)]; decide)), u1, ok_bind]
  dsimp only
  rw [if_neg (lcN ⟨by omega, by omega⟩ ⟨by decide, by decide⟩ h2)]
  exact (if_neg (by decide)).symm
end
