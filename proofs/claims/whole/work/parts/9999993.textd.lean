/-! texts: a comparison -/
theorem cd_wq : ∀ a, a ≤ 6 → wq (cd_w a).toNat = (if a = 0 then 7501166 else if a = 1 then 1835627379 else if a = 2 then 495873782885 else if a = 3 then 482854658917 else if a = 4 then 1751216740 else if a = 5 then 444350952036 else 1751741555) := fun a ha => (show ∀ a : Nat, a < 7 → wq (cd_w a).toNat = (if a = 0 then 7501166 else if a = 1 then 1835627379 else if a = 2 then 495873782885 else if a = 3 then 482854658917 else if a = 4 then 1751216740 else if a = 5 then 444350952036 else 1751741555) by decide +kernel) a (by omega)
theorem cd_wr : ∀ a, a ≤ 6 → 3 ≤ cd_w a ∧ cd_w a ≤ 9 := fun a ha => (show ∀ a : Nat, a < 7 → 3 ≤ cd_w a ∧ cd_w a ≤ 9 by decide +kernel) a (by omega)
theorem cd_wi {w : Int} (h : 3 ≤ w ∧ w ≤ 9) : ∃ a, a ≤ 6 ∧ cd_w a = w := by
  obtain ⟨k, hk⟩ : ∃ k : Nat, w = (k : Int) := ⟨w.toNat, by omega⟩
  subst hk
  obtain ⟨a, ha⟩ := (show ∀ k : Nat, k < 10 → 3 ≤ k → ∃ a, a < 7 ∧ cd_w a = (k : Int) by decide +kernel) k (by omega) (by omega)
  exact ⟨a, by omega, ha.2⟩
section
variable {L q : Nat} {T : Nat → Int} {n m v w i i2 i3 d e f : Nat} {F H : hh_Sv → Option hh_Rs} {b : Bool} {cs ds : List Cd} {s : hh_Sv}
theorem lc_w {a c : Int} (ha : I64 a) (hc : I64 c) : (w32 (lCmp a c) = 0) ↔ a = c := by
  refine ⟨fun q => ?_, fun q => lCmp_eq.mpr (by rw [q])⟩
  have := lCmp_eq.mp q
  rw [ha.w, hc.w] at this
  exact this
theorem lcN {a c : Int} (ha : I64 a) (hc : I64 c) (h : a ≠ c) : ¬ w32 (lCmp a c) = 0 := fun z => h ((lc_w ha hc).mp z)
theorem lcY {a : Int} : w32 (lCmp a a) = 0 := lCmp_eq.mpr rfl
theorem md_askedBy_ok {c : Int} (hc : I64 c) : (∀ a, a ≤ 6 → c = wq (cd_w a).toNat → md_askedBy L c s = ok L (a : Int) s) ∧ ((∀ a, a ≤ 6 → c ≠ wq (cd_w a).toNat) → md_askedBy L c s = ok L (-1) s) := by
  have z0 := cd_wq 0 (by decide)
  have z1 := cd_wq 1 (by decide)
  have z2 := cd_wq 2 (by decide)
  have z3 := cd_wq 3 (by decide)
  have z4 := cd_wq 4 (by decide)
  have z5 := cd_wq 5 (by decide)
  have z6 := cd_wq 6 (by decide)
  rw [if_pos rfl] at z0
  rw [if_neg (by first | decide | exact wN1 | (rw [w32_id (by decide) (by decide)]; decide)), if_pos rfl] at z1
  rw [if_neg (by first | decide | exact wN1 | (rw [w32_id (by decide) (by decide)]; decide)), if_neg (by first | decide | exact wN1 | (rw [w32_id (by decide) (by decide)]; decide)), if_pos rfl] at z2
  rw [if_neg (by first | decide | exact wN1 | (rw [w32_id (by decide) (by decide)]; decide)), if_neg (by first | decide | exact wN1 | (rw [w32_id (by decide) (by decide)]; decide)), if_neg (by first | decide | exact wN1 | (rw [w32_id (by decide) (by decide)]; decide)), if_pos rfl] at z3
  rw [if_neg (by first | decide | exact wN1 | (rw [w32_id (by decide) (by decide)]; decide)), if_neg (by first | decide | exact wN1 | (rw [w32_id (by decide) (by decide)]; decide)), if_neg (by first | decide | exact wN1 | (rw [w32_id (by decide) (by decide)]; decide)), if_neg (by first | decide | exact wN1 | (rw [w32_id (by decide) (by decide)]; decide)), if_pos rfl] at z4
  rw [if_neg (by first | decide | exact wN1 | (rw [w32_id (by decide) (by decide)]; decide)), if_neg (by first | decide | exact wN1 | (rw [w32_id (by decide) (by decide)]; decide)), if_neg (by first | decide | exact wN1 | (rw [w32_id (by decide) (by decide)]; decide)), if_neg (by first | decide | exact wN1 | (rw [w32_id (by decide) (by decide)]; decide)), if_neg (by first | decide | exact wN1 | (rw [w32_id (by decide) (by decide)]; decide)), if_pos rfl] at z5
  rw [if_neg (by first | decide | exact wN1 | (rw [w32_id (by decide) (by decide)]; decide)), if_neg (by first | decide | exact wN1 | (rw [w32_id (by decide) (by decide)]; decide)), if_neg (by first | decide | exact wN1 | (rw [w32_id (by decide) (by decide)]; decide)), if_neg (by first | decide | exact wN1 | (rw [w32_id (by decide) (by decide)]; decide)), if_neg (by first | decide | exact wN1 | (rw [w32_id (by decide) (by decide)]; decide)), if_neg (by first | decide | exact wN1 | (rw [w32_id (by decide) (by decide)]; decide))] at z6
  refine ⟨fun a ha h => ?_, fun h => ?_⟩
  · have hh : a = 0 ∨ a = 1 ∨ a = 2 ∨ a = 3 ∨ a = 4 ∨ a = 5 ∨ a = 6 := by omega
    rcases hh with hh | hh | hh | hh | hh | hh | hh <;> subst hh
    · rw [z0] at h
      subst h
      rw [md_askedBy_eq, if_pos lcY]
      rfl
    · rw [z1] at h
      subst h
      rw [md_askedBy_eq, if_neg (lcN hc ⟨by decide, by decide⟩ (by decide)), if_pos lcY]
      rfl
    · rw [z2] at h
      subst h
      rw [md_askedBy_eq, if_neg (lcN hc ⟨by decide, by decide⟩ (by decide)), if_neg (lcN hc ⟨by decide, by decide⟩ (by decide)), if_pos lcY]
      rfl
    · rw [z3] at h
      subst h
      rw [md_askedBy_eq, if_neg (lcN hc ⟨by decide, by decide⟩ (by decide)), if_neg (lcN hc ⟨by decide, by decide⟩ (by decide)), if_neg (lcN hc ⟨by decide, by decide⟩ (by decide)), if_pos lcY]
      rfl
    · rw [z4] at h
      subst h
      rw [md_askedBy_eq, if_neg (lcN hc ⟨by decide, by decide⟩ (by decide)), if_neg (lcN hc ⟨by decide, by decide⟩ (by decide)), if_neg (lcN hc ⟨by decide, by decide⟩ (by decide)), if_neg (lcN hc ⟨by decide, by decide⟩ (by decide)), if_pos lcY]
      rfl
    · rw [z5] at h
      subst h
      rw [md_askedBy_eq, if_neg (lcN hc ⟨by decide, by decide⟩ (by decide)), if_neg (lcN hc ⟨by decide, by decide⟩ (by decide)), if_neg (lcN hc ⟨by decide, by decide⟩ (by decide)), if_neg (lcN hc ⟨by decide, by decide⟩ (by decide)), if_neg (lcN hc ⟨by decide, by decide⟩ (by decide)), if_pos lcY]
      rfl
    · rw [z6] at h
      subst h
      rw [md_askedBy_eq, if_neg (lcN hc ⟨by decide, by decide⟩ (by decide)), if_neg (lcN hc ⟨by decide, by decide⟩ (by decide)), if_neg (lcN hc ⟨by decide, by decide⟩ (by decide)), if_neg (lcN hc ⟨by decide, by decide⟩ (by decide)), if_neg (lcN hc ⟨by decide, by decide⟩ (by decide)), if_neg (lcN hc ⟨by decide, by decide⟩ (by decide)), if_pos lcY]
      rfl
  · have x0 := h 0 (by decide)
    have x1 := h 1 (by decide)
    have x2 := h 2 (by decide)
    have x3 := h 3 (by decide)
    have x4 := h 4 (by decide)
    have x5 := h 5 (by decide)
    have x6 := h 6 (by decide)
    rw [z0] at x0
    rw [z1] at x1
    rw [z2] at x2
    rw [z3] at x3
    rw [z4] at x4
    rw [z5] at x5
    rw [z6] at x6
    rw [md_askedBy_eq, if_neg (lcN hc ⟨by decide, by decide⟩ x0), if_neg (lcN hc ⟨by decide, by decide⟩ x1), if_neg (lcN hc ⟨by decide, by decide⟩ x2), if_neg (lcN hc ⟨by decide, by decide⟩ x3), if_neg (lcN hc ⟨by decide, by decide⟩ x4), if_neg (lcN hc ⟨by decide, by decide⟩ x5), if_neg (lcN hc ⟨by decide, by decide⟩ x6)]
theorem JF.takeV (K : Int → hh_Sv → Option hh_Rs) (hq : ru_cell q) (hi : i < m) : JF L q T n m v i (fun s => (re_take L s).bind (fun r => K r.1 r.2.2)) (K (tC T n (tP T n i))) true (i + 1) [] := fun s j hc hj hv => by
  have g := hq.ge
  obtain ⟨y, y1, y2, y3⟩ := re_take_ok (L := L) hc hi
  refine ⟨y, by show Option.bind _ _ = _; rw [y1, ok_bind, if_pos rfl], fun a b x1 _ _ => y2 a b x1, y3, fun _ => ⟨?_, fun k c hk => by rw [List.getElem?_nil] at hk; cases hk⟩⟩
  rw [y2 _ _ (by omega)]
  exact hj
theorem JG.numY {lo hi : Int} (A : hh_Sv → Option hh_Rs) (K : Int → hh_Sv → Option hh_Rs) (h : TK T n m) (hi' : i ≤ m) (hlo : I32 lo) (hhi : I32 hi) (hw : nOk T n (tP T n i) lo hi = true) : JG L T n v i d d (fun s => (md_takesNumber L lo hi s).bind (fun r => if w32 r.1 = 0 then A r.2.2 else K (r.2.2 242 33) r.2.2)) (K (tC T n (tP T n i))) true (i + 1) [] := fun s j hr hd hj hv => by
  obtain ⟨hT, p, p1, p2, p3⟩ := hr
  obtain ⟨a1, a2, a3, a4, a5⟩ := tP_n h hi' hw
  obtain ⟨y, y1, y2, y3, y4⟩ := md_takesNumber_ok (L := L) hT p1 p2 hlo hhi
  rw [p3] at y1 y3 y4
  rw [if_pos hw] at y3
  refine ⟨y, ?_, fun a b x1 x2 => y2 a b (by omega), RG.at ⟨hT, p, p1, p2, p3⟩ (fun a b z => y2 a b (by omega)) y3 (rn_le (h.qq hi').1).2 a2, fun _ => ⟨by rw [y2 _ _ (by omega)]; exact hd, by rw [y2 _ _ (by omega)]; exact hj, fun k c hk => by rw [List.getElem?_nil] at hk; cases hk⟩⟩
  show Option.bind _ _ = _
  rw [y1, ok_bind, zb_1 hw, if_pos rfl, a4, ← y4 hw]
  exact if_neg (by first | decide | exact wN1 | (rw [w32_id (by decide) (by decide)]; decide))
theorem JG.numN {lo hi : Int} (B : hh_Sv → Option hh_Rs) {K : hh_Sv → Option hh_Rs} (h : TK T n m) (hi' : i ≤ m) (hlo : I32 lo) (hhi : I32 hi) (hw : ¬ nOk T n (tP T n i) lo hi = true) : JG L T n v i d d (fun s => (md_takesNumber L lo hi s).bind (fun r => if w32 r.1 = 0 then K r.2.2 else B r.2.2)) K true i [] := fun s j hr hd hj hv => by
  obtain ⟨hT, p, p1, p2, p3⟩ := hr
  obtain ⟨y, y1, y2, y3, y4⟩ := md_takesNumber_ok (L := L) hT p1 p2 hlo hhi
  rw [p3] at y1 y3
  rw [if_neg hw] at y3
  refine ⟨y, ?_, fun a b x1 x2 => y2 a b (by omega), RG.at ⟨hT, p, p1, p2, p3⟩ (fun a b z => y2 a b (by omega)) y3 (h.qq hi').1 (by rw [← p3]; exact rn_rn p2), fun _ => ⟨by rw [y2 _ _ (by omega)]; exact hd, by rw [y2 _ _ (by omega)]; exact hj, fun k c hk => by rw [List.getElem?_nil] at hk; cases hk⟩⟩
  show Option.bind _ _ = _
  rw [y1, ok_bind, zb_0 hw, if_pos rfl]
  exact if_pos w32_0'
/-- the word at the token, its end kept -/
theorem RG.word (hr : RG s T n i) : ∃ y p, md_word L s = ok L (wc T n (tP T n i)) y ∧ (∀ a b, ¬ (a = 242 ∧ (b = 12 ∨ b = 32)) → y a b = s a b) ∧ y 242 12 = ((tP T n i : Nat) : Int) ∧ y 242 32 = ((rn T n isA (tP T n i) : Nat) : Int) ∧ p ≤ n ∧ rn T n isB p = tP T n i := by
  obtain ⟨hT, p, p1, p2, p3⟩ := hr
  obtain ⟨y, y1, y2, y3, y4⟩ := md_word_ok (L := L) hT p1 p2
  rw [p3] at y1 y3 y4
  exact ⟨y, p, y1, y2, y3, y4, p2, p3⟩
theorem tP_rr {p : Nat} (hp : p ≤ n) (h : rn T n isB p = tP T n i) : rn T n isB (tP T n i) = tP T n i := by rw [← h]; exact rn_rn hp
theorem JG.ask (K : Int → hh_Sv → Option hh_Rs) {a : Nat} (h : TK T n m) (hi : i ≤ m) (ha : a ≤ 6) (hw : wc T n (tP T n i) = wq (cd_w a).toNat) : JG L T n v i d d (fun s => (md_word L s).bind (fun r1 => (md_askedBy L r1.1 r1.2.2).bind (fun r2 => if w32 r2.1 = (-1) then ok L 0 r2.2.2 else K r2.1 (up r2.2.2 242 12 (r2.2.2 242 32))))) (K (a : Int)) true (i + 1) [] := fun s j hr hd hj hv => by
  have hb := wc_bd (T := T) (n := n) (q := tP T n i) (h.qq hi).1
  have hc : 256 ≤ wc T n (tP T n i) := by
    rw [hw]
    exact (show ∀ a : Nat, a < 7 → 256 ≤ wq (cd_w a).toNat by decide +kernel) a (by omega)
  obtain ⟨a1, a2, a3, a4, a5, a6⟩ := tP_w h hi rfl hc
  obtain ⟨y, p, y1, y2, y3, y4, y5, y6⟩ := hr.word (L := L)
  have hr1 := rn_le (T := T) (n := n) (g := isA) (p := tP T n i) (by omega)
  refine ⟨up y 242 12 (y 242 32), ?_, fun a b x1 x2 => ?_, hr.at (p := rn T n isA (tP T n i)) (fun a b z => ?_) (by rw [up_s]; exact y4) hr1.2 a4, fun _ => ⟨?_, ?_, fun k c hk => by rw [List.getElem?_nil] at hk; cases hk⟩⟩
  · show Option.bind _ _ = _
    rw [y1, ok_bind]
    dsimp only
    rw [(md_askedBy_ok (L := L) (s := y) ⟨by omega, by omega⟩).1 a ha hw, ok_bind, if_pos rfl]
    exact if_neg (by rw [w32_id (by omega) (by omega)]; omega)
  · unfold up
    rw [if_neg (by omega)]
    exact y2 a b (by omega)
  · unfold up
    rw [if_neg (by omega)]
    exact y2 a b (by omega)
  · rw [up_j (by decide), y2 _ _ (by omega)]
    exact hd
  · rw [up_j (by decide), y2 _ _ (by omega)]
    exact hj
theorem JG.askN (K : Int → hh_Sv → Option hh_Rs) {H : hh_Sv → Option hh_Rs} (h : TK T n m) (hi : i ≤ m) (hw : ∀ a, a ≤ 6 → wc T n (tP T n i) ≠ wq (cd_w a).toNat) : JG L T n v i d e (fun s => (md_word L s).bind (fun r1 => (md_askedBy L r1.1 r1.2.2).bind (fun r2 => if w32 r2.1 = (-1) then ok L 0 r2.2.2 else K r2.1 (up r2.2.2 242 12 (r2.2.2 242 32))))) H false i cs := fun s j hr hd hj hv => by
  have hb := wc_bd (T := T) (n := n) (q := tP T n i) (h.qq hi).1
  obtain ⟨y, p, y1, y2, y3, y4, y5, y6⟩ := hr.word (L := L)
  refine ⟨y, ?_, fun a b x1 x2 => y2 a b (by omega), hr.at (fun a b z => y2 a b (by omega)) y3 (h.qq hi).1 (tP_rr y5 y6), fun z => absurd z (by decide)⟩
  show Option.bind _ _ = _
  rw [y1, ok_bind]
  dsimp only
  rw [(md_askedBy_ok (L := L) (s := y) ⟨by omega, by omega⟩).2 hw, ok_bind]
  exact (if_pos wM1).trans (if_neg (by decide)).symm
end
