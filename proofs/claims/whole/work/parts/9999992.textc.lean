/-! texts: both sides beside each other -/
/-- the tokens of a text -/
def TK (T : Nat → Int) (n m : Nat) : Prop := n ≤ 600 ∧ m ≤ n ∧ tP T n m = n ∧ (∀ j, j < m → tP T n j < n) ∧ ∀ j, j < n → -128 ≤ T j ∧ T j < 128
def FC (q j : Nat) (s y : hh_Sv) : Prop := ∀ a b, ¬ (a = 24 ∧ b = 5) → ¬ (a = q ∧ b = 3) → ¬ (a = q + 4 ∧ j ≤ b) → y a b = s a b
def FGm (j : Nat) (s y : hh_Sv) : Prop := ∀ a b, ¬ (a = 242 ∧ (b = 12 ∨ b = 13 ∨ b = 14 ∨ b = 32 ∨ b = 33)) → ¬ (256 ≤ a ∧ a ≤ 258 ∧ 4800 + j ≤ b) → y a b = s a b
def WC (q j : Nat) (cs : List Cd) (y : hh_Sv) : Prop := y q 3 = ((j + cs.length : Nat) : Int) ∧ ∀ (k : Nat) (c : Cd), cs[k]? = some c → y (q + 4) (j + k) = cd_n c
def WG (j : Nat) (cs : List Cd) (y : hh_Sv) : Prop := y 242 14 = ((4800 + (j + cs.length) : Nat) : Int) ∧ ∀ (k : Nat) (c : Cd), cs[k]? = some c → y 256 (4800 + (j + k)) = (c.1 : Nat) ∧ y 257 (4800 + (j + k)) = (c.2.1 : Nat) ∧ y 258 (4800 + (j + k)) = (c.2.2 : Nat)
/-- the reference reads at token i -/
def RG (s : hh_Sv) (T : Nat → Int) (n i : Nat) : Prop := Tx s T n ∧ ∃ p : Nat, s 242 12 = (p : Int) ∧ p ≤ n ∧ rn T n isB p = tP T n i
def JF (L q : Nat) (T : Nat → Int) (n m v i : Nat) (F K : hh_Sv → Option hh_Rs) (b : Bool) (i2 : Nat) (cs : List Cd) : Prop := ∀ (s : hh_Sv) (j : Nat), CR s T n m i → s q 3 = (j : Int) → 2 * j + v ≤ tP T n i → ∃ y, F s = (if b = true then K y else ok L 0 y) ∧ FC q j s y ∧ CR y T n m i2 ∧ (b = true → WC q j cs y)
def JG (L : Nat) (T : Nat → Int) (n v i d e : Nat) (F K : hh_Sv → Option hh_Rs) (b : Bool) (i2 : Nat) (cs : List Cd) : Prop := ∀ (s : hh_Sv) (j : Nat), RG s T n i → s 242 13 = (d : Int) → s 242 14 = ((4800 + j : Nat) : Int) → 2 * j + v ≤ tP T n i → ∃ y, F s = (if b = true then K y else ok L 0 y) ∧ FGm j s y ∧ RG y T n i2 ∧ (b = true → y 242 13 = (e : Int) ∧ WG j cs y)
theorem wN1 : ¬ w32 1 = 0 := by rw [w32_1]; decide
theorem wM1 : w32 (-1) = -1 := w32_id (by decide) (by decide)
section
variable {L q : Nat} {T : Nat → Int} {n m v w i i2 i3 d e f : Nat} {F K H : hh_Sv → Option hh_Rs} {b : Bool} {cs ds : List Cd}
theorem CR.tk {s : hh_Sv} (h : CR s T n m i) : TK T n m := ⟨h.1, h.2.1, h.2.2.1, h.2.2.2.2.1, h.2.2.2.2.2.2.2⟩
theorem TK.qq (h : TK T n m) (hi : i ≤ m) : tP T n i ≤ n ∧ (i < m ↔ tP T n i < n) := by
  obtain ⟨a, b, c, e, k⟩ := h
  by_cases hi2 : i < m
  · have := e i hi2
    exact ⟨by omega, by omega⟩
  · have : i = m := by omega
    rw [this, c]
    exact ⟨by omega, by omega⟩
theorem CR.fr {s y : hh_Sv} (h : CR s T n m i) (g : ∀ a b, (a = 24 ∧ b = 5) ∨ (26 ≤ a ∧ a ≤ 28) → y a b = s a b) : CR y T n m i := by
  obtain ⟨h1, h2, h3, h4, h5, h6, h7, h8⟩ := h
  refine ⟨h1, h2, h3, fun j hj => ?_, h5, by rw [g _ _ (by omega)]; exact h6, h7, h8⟩
  unfold Tok
  rw [g _ _ (by omega), g _ _ (by omega), g _ _ (by omega)]
  exact h4 j hj
theorem rn_le {g : Int → Bool} {p : Nat} (h : p ≤ n) : p ≤ rn T n g p ∧ rn T n g p ≤ n := (rn_bd (T := T) (n := n) (f := g) (n - p) p (by omega)).1
theorem tP_w {c : Int} (h : TK T n m) (hi : i ≤ m) (hw : wc T n (tP T n i) = c) (hc : 256 ≤ c) : tP T n i < n ∧ isA (T (tP T n i)) = true ∧ i < m ∧ rn T n isB (rn T n isA (tP T n i)) = tP T n (i + 1) ∧ tP T n i + 2 ≤ rn T n isA (tP T n i) ∧ tP T n i + 2 ≤ tP T n (i + 1) := by
  have hq := h.qq hi
  obtain ⟨a1, a2⟩ : tP T n i < n ∧ isA (T (tP T n i)) = true := Decidable.byContradiction (fun z => by rw [wc_0 z] at hw; omega)
  have r1 := rn_le (T := T) (n := n) (g := isA) (p := tP T n i) (by omega)
  have r2 := rn_le (T := T) (n := n) (g := isB) (p := rn T n isA (tP T n i)) (by omega)
  have e : rn T n isB (rn T n isA (tP T n i)) = tP T n (i + 1) := by
    rw [tP]
    unfold tE
    rw [if_pos a2]
  have l2 : tP T n i + 2 ≤ rn T n isA (tP T n i) := by
    refine Decidable.byContradiction (fun z => ?_)
    unfold wc at hw
    have k := h.2.2.2.2 (tP T n i) a1
    have z2 : rn T n isA (tP T n i) - tP T n i = 0 ∨ rn T n isA (tP T n i) - tP T n i = 1 := by omega
    rcases z2 with z2 | z2
    · rw [z2, if_pos (by first | decide | exact w32_0' | exact wM1 | (rw [w32_id (by decide) (by decide)]; decide)), wv] at hw
      omega
    · rw [z2, if_pos (by first | decide | exact w32_0' | exact wM1 | (rw [w32_id (by decide) (by decide)]; decide)), wv, wv, Nat.add_zero] at hw
      omega
  exact ⟨a1, a2, hq.2.mpr a1, e, l2, by omega⟩
theorem tP_s {c : Int} (h : TK T n m) (hi : i ≤ m) (hw : tP T n i < n ∧ T (tP T n i) = c) (hc : isA c = false ∧ isD c = false) : i < m ∧ rn T n isB (tP T n i + 1) = tP T n (i + 1) ∧ tP T n i + 1 ≤ tP T n (i + 1) ∧ tC T n (tP T n i) = c := by
  have hq := h.qq hi
  have r2 := rn_le (T := T) (n := n) (g := isB) (p := tP T n i + 1) (by omega)
  have e : rn T n isB (tP T n i + 1) = tP T n (i + 1) := by
    rw [tP]
    unfold tE
    rw [hw.2, hc.1, hc.2, if_neg (by first | decide | exact wN1 | (rw [w32_id (by decide) (by decide)]; decide)), if_neg (by first | decide | exact wN1 | (rw [w32_id (by decide) (by decide)]; decide))]
  refine ⟨hq.2.mpr hw.1, e, by omega, ?_⟩
  unfold tC
  rw [if_pos hw.1, hw.2, hc.1, hc.2, if_neg (by first | decide | exact wN1 | (rw [w32_id (by decide) (by decide)]; decide)), if_neg (by first | decide | exact wN1 | (rw [w32_id (by decide) (by decide)]; decide))]
theorem tP_n {lo hi : Int} (h : TK T n m) (hm : i ≤ m) (hw : nOk T n (tP T n i) lo hi = true) : i < m ∧ rn T n isB (rn T n isD (tP T n i)) = tP T n (i + 1) ∧ tP T n i + 1 ≤ tP T n (i + 1) ∧ tC T n (tP T n i) = nv T (tP T n i) (rn T n isD (tP T n i) - tP T n i) ∧ lo ≤ tC T n (tP T n i) ∧ tC T n (tP T n i) ≤ hi := by
  have hq := h.qq hm
  obtain ⟨w1, w2⟩ := of_decide_eq_true hw
  have a1 : tP T n i < n := by
    have := rn_le (T := T) (n := n) (g := isD) (p := tP T n i) (by omega)
    omega
  have a2 : isD (T (tP T n i)) = true := Decidable.byContradiction (fun z => by rw [rn_no a1 z] at w1; omega)
  have a3 : isA (T (tP T n i)) = false := by
    cases z : isA (T (tP T n i))
    · rfl
    · rw [isAD z] at a2
      exact absurd a2 (by decide)
  have r1 := rn_le (T := T) (n := n) (g := isD) (p := tP T n i) (by omega)
  have r2 := rn_le (T := T) (n := n) (g := isB) (p := rn T n isD (tP T n i)) (by omega)
  have e : rn T n isB (rn T n isD (tP T n i)) = tP T n (i + 1) := by
    rw [tP]
    unfold tE
    rw [a3, if_neg (by first | decide | exact wN1 | (rw [w32_id (by decide) (by decide)]; decide)), if_pos a2]
  have e2 : tC T n (tP T n i) = nv T (tP T n i) (rn T n isD (tP T n i) - tP T n i) := by
    unfold tC nmx
    rw [if_pos a1, a3, if_neg (by first | decide | exact wN1 | (rw [w32_id (by decide) (by decide)]; decide)), if_pos a2, if_neg (by omega)]
  exact ⟨hq.2.mpr a1, e, by omega, e2, by rw [e2]; exact w2.1, by rw [e2]; exact w2.2⟩
theorem FC.tr {j l : Nat} {s y z : hh_Sv} (h1 : FC q j s y) (h2 : FC q (j + l) y z) : FC q j s z := fun a b x1 x2 x3 => (h2 a b x1 x2 (fun t => x3 ⟨t.1, by omega⟩)).trans (h1 a b x1 x2 x3)
theorem FGm.tr {j l : Nat} {s y z : hh_Sv} (h1 : FGm j s y) (h2 : FGm (j + l) y z) : FGm j s z := fun a b x1 x2 => (h2 a b x1 (fun t => x2 ⟨t.1, t.2.1, by omega⟩)).trans (h1 a b x1 x2)
theorem JF.eq (h : ∀ s, CR s T n m i → F s = H s) (h2 : JF L q T n m v i H K b i2 cs) : JF L q T n m v i F K b i2 cs := fun s j hc hj hv => by
  rw [h s hc]
  exact h2 s j hc hj hv
theorem JF.no (h : JF L q T n m v i F K false i2 cs) : JF L q T n m v i F H false i2 ds := fun s j hc hj hv => by
  obtain ⟨y, y1, y2, y3, y4⟩ := h s j hc hj hv
  rw [if_neg (by first | decide | exact wN1 | (rw [w32_id (by decide) (by decide)]; decide))] at y1
  exact ⟨y, by rw [if_neg (by first | decide | exact wN1 | (rw [w32_id (by decide) (by decide)]; decide))]; exact y1, y2, y3, fun z => absurd z (by decide)⟩
theorem JF.mono (hv : v ≤ w) (h : JF L q T n m v i F K b i2 cs) : JF L q T n m w i F K b i2 cs := fun s j hc hj hw => h s j hc hj (by omega)
theorem JF.rf (hq : ru_cell q) : JF L q T n m v i K K true i [] := fun s j hc hj hv => ⟨s, by rw [if_pos rfl], fun _ _ _ _ _ => rfl, hc, fun _ => ⟨hj, fun k c hk => by rw [List.getElem?_nil] at hk; cases hk⟩⟩
theorem JF.fl : JF L q T n m v i (fun s => ok L 0 s) K false i cs := fun s j hc hj hv => ⟨s, by rw [if_neg (by first | decide | exact wN1 | (rw [w32_id (by decide) (by decide)]; decide))], fun _ _ _ _ _ => rfl, hc, fun z => absurd z (by decide)⟩
theorem JF.cat (hq : ru_cell q) (h1 : JF L q T n m v i F K true i2 cs) (hv : w + 2 * cs.length + tP T n i ≤ tP T n i2 + v) (h2 : JF L q T n m w i2 K H b i3 ds) : JF L q T n m v i F H b i3 (cs ++ ds) := fun s j hc hj hv' => by
  have g := hq.ge
  obtain ⟨y, y1, y2, y3, y4⟩ := h1 s j hc hj hv'
  obtain ⟨w1, w2⟩ := y4 rfl
  obtain ⟨z, z1, z2, z3, z4⟩ := h2 y (j + cs.length) y3 w1 (by omega)
  refine ⟨z, by rw [y1, if_pos rfl, z1], y2.tr z2, z3, fun hb => ?_⟩
  obtain ⟨x1, x2⟩ := z4 hb
  refine ⟨by rw [x1, List.length_append, Nat.add_assoc], fun k c hk => ?_⟩
  by_cases e : k < cs.length
  · rw [List.getElem?_append_left e] at hk
    rw [z2 _ _ (by omega) (by omega) (by omega)]
    exact w2 k c hk
  · rw [List.getElem?_append_right (by omega)] at hk
    have := x2 _ _ hk
    rw [show j + k = j + cs.length + (k - cs.length) by omega]
    exact this
theorem JF.take (hq : ru_cell q) (hi : i < m) : JF L q T n m v i (fun s => (re_take L s).bind (fun r => K r.2.2)) K true (i + 1) [] := fun s j hc hj hv => by
  have g := hq.ge
  obtain ⟨y, y1, y2, y3⟩ := re_take_ok (L := L) hc hi
  refine ⟨y, by show Option.bind _ _ = _; rw [y1, ok_bind, if_pos rfl], fun a b x1 _ _ => y2 a b x1, y3, fun _ => ⟨?_, fun k c hk => by rw [List.getElem?_nil] at hk; cases hk⟩⟩
  rw [y2 _ _ (by omega)]
  exact hj
theorem JF.put {c : Int} {x : Cd} (hq : ru_cell q) (hv : 2 ≤ v) (hx : c = cd_n x) : JF L q T n m v i (fun s => (ru_write L q c s).bind (fun r => K r.2.2)) K true i [x] := fun s j hc hj hv' => by
  have g := hq.ge
  have hqn := hc.q.1
  have h6 := hc.1
  obtain ⟨y, y1, y2, y3, y4⟩ := ru_write_ok (L := L) (c := c) hq hj (by omega)
  refine ⟨y, by show Option.bind _ _ = _; rw [y1, ok_bind, if_pos rfl], fun a b x1 x2 x3 => y2 a b x2 (by omega), hc.fr (fun a b h => y2 a b (by omega) (by omega)), fun _ => ⟨y3, fun k c2 hk => ?_⟩⟩
  cases k with
  | zero =>
    rw [List.getElem?_cons_zero] at hk
    show y (q + 4) j = _
    rw [y4, hx, Option.some.inj hk]
  | succ k =>
    rw [List.getElem?_cons_succ, List.getElem?_nil] at hk
    cases hk
theorem JF.bind (h : JF L q T n m v i F (fun y => ok L 1 y) b i2 cs) : JF L q T n m v i (fun s => (F s).bind (fun r => if w32 r.1 = 0 then ok L 0 r.2.2 else K r.2.2)) K b i2 cs := fun s j hc hj hv => by
  obtain ⟨y, y1, y2, y3, y4⟩ := h s j hc hj hv
  refine ⟨y, ?_, y2, y3, y4⟩
  cases b
  · rw [if_neg (by first | decide | exact wN1 | (rw [w32_id (by decide) (by decide)]; decide))] at y1
    show Option.bind _ _ = _
    rw [y1, ok_bind]
    exact (if_pos w32_0').trans (if_neg (by decide)).symm
  · rw [if_pos rfl] at y1
    show Option.bind _ _ = _
    rw [y1, ok_bind]
    exact (if_neg wN1).trans (if_pos rfl).symm
theorem JG.eq (h : ∀ s, RG s T n i → s 242 13 = (d : Int) → F s = H s) (h2 : JG L T n v i d e H K b i2 cs) : JG L T n v i d e F K b i2 cs := fun s j hc hd hj hv => by
  rw [h s hc hd]
  exact h2 s j hc hd hj hv
theorem JG.no (h : JG L T n v i d e F K false i2 cs) : JG L T n v i d f F H false i2 ds := fun s j hc hd hj hv => by
  obtain ⟨y, y1, y2, y3, y4⟩ := h s j hc hd hj hv
  rw [if_neg (by first | decide | exact wN1 | (rw [w32_id (by decide) (by decide)]; decide))] at y1
  exact ⟨y, by rw [if_neg (by first | decide | exact wN1 | (rw [w32_id (by decide) (by decide)]; decide))]; exact y1, y2, y3, fun z => absurd z (by decide)⟩
theorem JG.mono (hv : v ≤ w) (h : JG L T n v i d e F K b i2 cs) : JG L T n w i d e F K b i2 cs := fun s j hc hd hj hw => h s j hc hd hj (by omega)
theorem JG.rf : JG L T n v i d d K K true i [] := fun s j hc hd hj hv => ⟨s, by rw [if_pos rfl], fun _ _ _ _ => rfl, hc, fun _ => ⟨hd, hj, fun k c hk => by rw [List.getElem?_nil] at hk; cases hk⟩⟩
theorem JG.fl : JG L T n v i d e (fun s => ok L 0 s) K false i cs := fun s j hc hd hj hv => ⟨s, by rw [if_neg (by first | decide | exact wN1 | (rw [w32_id (by decide) (by decide)]; decide))], fun _ _ _ _ => rfl, hc, fun z => absurd z (by decide)⟩
theorem JG.cat (h1 : JG L T n v i d e F K true i2 cs) (hv : w + 2 * cs.length + tP T n i ≤ tP T n i2 + v) (h2 : JG L T n w i2 e f K H b i3 ds) : JG L T n v i d f F H b i3 (cs ++ ds) := fun s j hc hd hj hv' => by
  obtain ⟨y, y1, y2, y3, y4⟩ := h1 s j hc hd hj hv'
  obtain ⟨w0, w1, w2⟩ := y4 rfl
  obtain ⟨z, z1, z2, z3, z4⟩ := h2 y (j + cs.length) y3 w0 w1 (by omega)
  refine ⟨z, by rw [y1, if_pos rfl, z1], y2.tr z2, z3, fun hb => ?_⟩
  obtain ⟨x0, x1, x2⟩ := z4 hb
  refine ⟨x0, by rw [x1, List.length_append, Nat.add_assoc], fun k c hk => ?_⟩
  by_cases e : k < cs.length
  · rw [List.getElem?_append_left e] at hk
    rw [z2 _ _ (by omega) (by omega), z2 _ _ (by omega) (by omega), z2 _ _ (by omega) (by omega)]
    exact w2 k c hk
  · rw [List.getElem?_append_right (by omega)] at hk
    have := x2 _ _ hk
    rw [show j + k = j + cs.length + (k - cs.length) by omega]
    exact this
theorem JG.bind (h : JG L T n v i d e F (fun y => ok L 1 y) b i2 cs) : JG L T n v i d e (fun s => (F s).bind (fun r => if w32 r.1 = 0 then ok L 0 r.2.2 else K r.2.2)) K b i2 cs := fun s j hc hd hj hv => by
  obtain ⟨y, y1, y2, y3, y4⟩ := h s j hc hd hj hv
  refine ⟨y, ?_, y2, y3, y4⟩
  cases b
  · rw [if_neg (by first | decide | exact wN1 | (rw [w32_id (by decide) (by decide)]; decide))] at y1
    show Option.bind _ _ = _
    rw [y1, ok_bind]
    exact (if_pos w32_0').trans (if_neg (by decide)).symm
  · rw [if_pos rfl] at y1
    show Option.bind _ _ = _
    rw [y1, ok_bind]
    exact (if_neg wN1).trans (if_pos rfl).symm
theorem JG.put {x : Cd} {c1 c2 c3 : Int} (hv : 2 ≤ v) (hn : n ≤ 600) (hx : c1 = (x.1 : Nat) ∧ c2 = (x.2.1 : Nat) ∧ c3 = (x.2.2 : Nat)) (hi : tP T n i ≤ n) : JG L T n v i d d (fun s => (md_puts L c1 c2 c3 s).bind (fun r => K r.2.2)) K true i [x] := fun s j hc hd hj hv' => by
  obtain ⟨y, y1, y2, y3, y4, y5, y6⟩ := md_puts_ok (L := L) (x := c1) (y := c2) (z := c3) hj (by omega)
  obtain ⟨hT, p, p1, p2, p3⟩ := hc
  refine ⟨y, by show Option.bind _ _ = _; rw [y1, ok_bind, if_pos rfl], fun a b x1 x2 => y2 a b (by omega) (by omega), ⟨?_, p, by rw [y2 _ _ (by omega) (by omega)]; exact p1, p2, p3⟩, fun _ => ⟨by rw [y2 _ _ (by omega) (by omega)]; exact hd, y3, fun k c2 hk => ?_⟩⟩
  · obtain ⟨t1, t2, t3⟩ := hT
    refine ⟨by rw [y2 _ _ (by omega) (by omega)]; exact t1, t2, fun j hj => ?_⟩
    rw [y2 _ _ (by omega) (by omega)]
    exact t3 j hj
  cases k with
  | zero =>
    rw [List.getElem?_cons_zero] at hk
    show y 256 (4800 + j) = _ ∧ y 257 (4800 + j) = _ ∧ y 258 (4800 + j) = _
    rw [y4, y5, y6, ← Option.some.inj hk]
    exact hx
  | succ k =>
    rw [List.getElem?_cons_succ, List.getElem?_nil] at hk
    cases hk
theorem RG.x {s y : hh_Sv} (h : RG s T n i) (g : ∀ a b, (a = 242 ∧ (b = 11 ∨ b = 12)) ∨ a = 261 → y a b = s a b) : RG y T n i := by
  obtain ⟨⟨t1, t2, t3⟩, p, p1, p2, p3⟩ := h
  refine ⟨⟨by rw [g _ _ (by omega)]; exact t1, t2, fun j hj => ?_⟩, p, by rw [g _ _ (by omega)]; exact p1, p2, p3⟩
  rw [g _ _ (by omega)]
  exact t3 j hj
theorem RG.at {s y : hh_Sv} {p : Nat} (h : RG s T n i) (g : ∀ a b, (a = 242 ∧ b = 11) ∨ a = 261 → y a b = s a b) (h1 : y 242 12 = (p : Int)) (h2 : p ≤ n) (h3 : rn T n isB p = tP T n i2) : RG y T n i2 := by
  obtain ⟨⟨t1, t2, t3⟩, p0, p1, p2, p3⟩ := h
  refine ⟨⟨by rw [g _ _ (by omega)]; exact t1, t2, fun j hj => ?_⟩, p, h1, h2, h3⟩
  rw [g _ _ (by omega)]
  exact t3 j hj
theorem JG.wordY {c : Int} (A : hh_Sv → Option hh_Rs) (h : TK T n m) (hi : i ≤ m) (hw : wc T n (tP T n i) = c) (hc : 256 ≤ c) : JG L T n v i d d (fun s => (md_takes L c s).bind (fun r => if w32 r.1 = 0 then A r.2.2 else K r.2.2)) K true (i + 1) [] := fun s j hr hd hj hv => by
  obtain ⟨hT, p, p1, p2, p3⟩ := hr
  obtain ⟨a1, a2, a3, a4, a5, a6⟩ := tP_w h hi hw hc
  have hb := wc_bd (T := T) (n := n) (q := tP T n i) (by omega)
  obtain ⟨y, y1, y2, y3⟩ := md_takes_ok (L := L) (c := c) hT p1 p2 ⟨by omega, by omega⟩
  rw [p3] at y1 y3
  rw [if_pos hw] at y3
  refine ⟨y, ?_, fun a b x1 x2 => y2 a b (by omega), RG.at ⟨hT, p, p1, p2, p3⟩ (fun a b z => y2 a b (by omega)) y3 (rn_le (by omega)).2 a4, fun _ => ⟨by rw [y2 _ _ (by omega)]; exact hd, by rw [y2 _ _ (by omega)]; exact hj, fun k c hk => by rw [List.getElem?_nil] at hk; cases hk⟩⟩
  show Option.bind _ _ = _
  rw [y1, ok_bind, zb_1 hw, if_pos rfl]
  exact if_neg (by first | decide | exact wN1 | (rw [w32_id (by decide) (by decide)]; decide))
theorem JG.wordN {c : Int} (B : hh_Sv → Option hh_Rs) (h : TK T n m) (hi : i ≤ m) (hw : wc T n (tP T n i) ≠ c) (hc : I64 c) : JG L T n v i d d (fun s => (md_takes L c s).bind (fun r => if w32 r.1 = 0 then K r.2.2 else B r.2.2)) K true i [] := fun s j hr hd hj hv => by
  obtain ⟨hT, p, p1, p2, p3⟩ := hr
  obtain ⟨y, y1, y2, y3⟩ := md_takes_ok (L := L) (c := c) hT p1 p2 hc
  rw [p3] at y1 y3
  rw [if_neg hw] at y3
  refine ⟨y, ?_, fun a b x1 x2 => y2 a b (by omega), RG.at ⟨hT, p, p1, p2, p3⟩ (fun a b z => y2 a b (by omega)) y3 (h.qq hi).1 (by rw [← p3]; exact rn_rn p2), fun _ => ⟨by rw [y2 _ _ (by omega)]; exact hd, by rw [y2 _ _ (by omega)]; exact hj, fun k c hk => by rw [List.getElem?_nil] at hk; cases hk⟩⟩
  show Option.bind _ _ = _
  rw [y1, ok_bind, zb_0 hw, if_pos rfl]
  exact if_pos w32_0'
theorem JG.signY {c : Int} (A : hh_Sv → Option hh_Rs) (h : TK T n m) (hi : i ≤ m) (hw : tP T n i < n ∧ T (tP T n i) = c) (hc : isA c = false ∧ isD c = false) : JG L T n v i d d (fun s => (md_takesSign L c s).bind (fun r => if w32 r.1 = 0 then A r.2.2 else K r.2.2)) K true (i + 1) [] := fun s j hr hd hj hv => by
  obtain ⟨hT, p, p1, p2, p3⟩ := hr
  obtain ⟨a1, a2, a3, a4⟩ := tP_s h hi hw hc
  have ch := h.2.2.2.2 _ hw.1
  obtain ⟨y, y1, y2, y3⟩ := md_takesSign_ok (L := L) (c := c) hT p1 p2 ⟨by omega, by omega⟩
  rw [p3] at y1 y3
  rw [if_pos hw] at y3
  refine ⟨y, ?_, fun a b x1 x2 => y2 a b (by omega), RG.at ⟨hT, p, p1, p2, p3⟩ (fun a b z => y2 a b (by omega)) y3 (by omega) a2, fun _ => ⟨by rw [y2 _ _ (by omega)]; exact hd, by rw [y2 _ _ (by omega)]; exact hj, fun k c hk => by rw [List.getElem?_nil] at hk; cases hk⟩⟩
  show Option.bind _ _ = _
  rw [y1, ok_bind, zb_1 hw, if_pos rfl]
  exact if_neg (by first | decide | exact wN1 | (rw [w32_id (by decide) (by decide)]; decide))
theorem JG.signN {c : Int} (B : hh_Sv → Option hh_Rs) (h : TK T n m) (hi : i ≤ m) (hw : ¬ (tP T n i < n ∧ T (tP T n i) = c)) (hc : I32 c) : JG L T n v i d d (fun s => (md_takesSign L c s).bind (fun r => if w32 r.1 = 0 then K r.2.2 else B r.2.2)) K true i [] := fun s j hr hd hj hv => by
  obtain ⟨hT, p, p1, p2, p3⟩ := hr
  obtain ⟨y, y1, y2, y3⟩ := md_takesSign_ok (L := L) (c := c) hT p1 p2 hc
  rw [p3] at y1 y3
  rw [if_neg hw] at y3
  refine ⟨y, ?_, fun a b x1 x2 => y2 a b (by omega), RG.at ⟨hT, p, p1, p2, p3⟩ (fun a b z => y2 a b (by omega)) y3 (h.qq hi).1 (by rw [← p3]; exact rn_rn p2), fun _ => ⟨by rw [y2 _ _ (by omega)]; exact hd, by rw [y2 _ _ (by omega)]; exact hj, fun k c hk => by rw [List.getElem?_nil] at hk; cases hk⟩⟩
  show Option.bind _ _ = _
  rw [y1, ok_bind, zb_0 hw, if_pos rfl]
  exact if_pos w32_0'
end
