/-! what holds between calls -/
/-- places that no call keeps -/
def scr (k j : Nat) : Prop := (26 ≤ k ∧ k ≤ 71) ∨ (k = 24 ∧ j = 5) ∨ (k = 242 ∧ j ≠ 2 ∧ j ≠ 3 ∧ j ≠ 4 ∧ j ≠ 10 ∧ j ≠ 16 ∧ j ≠ 17 ∧ j ≠ 70) ∨ k = 259 ∨ k = 261 ∨ k = 262 ∨ (268 ≤ k ∧ k ≤ 282) ∨ (248 ≤ k ∧ k ≤ 251 ∧ j = 16) ∨ (252 ≤ k ∧ k ≤ 255 ∧ 384 ≤ j) ∨ (256 ≤ k ∧ k ≤ 258 ∧ 4800 ≤ j) ∨ (k = 263 ∧ j = 12) ∨ (264 ≤ k ∧ k ≤ 267 ∧ 48 ≤ j)
def Eqv (s t : hh_Sv) : Prop := ∀ k j, ¬ scr k j → t k j = s k j
theorem Eqv.rf {s : hh_Sv} : Eqv s s := fun _ _ _ => rfl
theorem Eqv.tr {s t u : hh_Sv} (h1 : Eqv s t) (h2 : Eqv t u) : Eqv s u := fun k j h => (h2 k j h).trans (h1 k j h)
theorem Eqv.up {s t : hh_Sv} {k j : Nat} {v : Int} (h : scr k j) (h1 : Eqv s t) : Eqv s (up t k j v) := fun a b hn => by
  by_cases e : a = k ∧ b = j
  · exact absurd (e.1 ▸ e.2 ▸ h) hn
  · show (if a = k ∧ b = j then v else t a b) = _
    rw [if_neg e]
    exact h1 a b hn
/-- n numbers 0 to 3, two bits each -/
def pk (f : Nat → Int) : Nat → Int
  | 0 => 0
  | n + 1 => pk f n + f n * 4 ^ n
theorem pk_congr {f g : Nat → Int} : ∀ {n : Nat}, (∀ k, k < n → f k = g k) → pk f n = pk g n
  | 0, _ => rfl
  | n + 1, h => by rw [pk, pk, pk_congr (fun k hk => h k (by omega)), h n (by omega)]
/-- a court of the class, at q, against numbers; the rows behind the last are 0 -/
def iv_Row (s : hh_Sv) (q r : Nat) (ow le hi : Nat → Int) (hd gd : Nat → Int) : Prop :=
  s (q + 1) r = ow r ∧ s (q + 2) r = le r ∧ s (q + 3) r = hi r ∧ (0 ≤ ow r ∧ ow r < 12) ∧ (0 ≤ le r ∧ le r ≤ 24) ∧ (0 ≤ hi r ∧ hi r < 2 ^ (le r).toNat) ∧ s (q + 4) r = pk (fun k => hd (24 * r + k)) (le r).toNat ∧ s (q + 5) r = pk (fun k => gd (24 * r + k)) (le r).toNat ∧ ∀ k, k < (le r).toNat → (0 ≤ hd (24 * r + k) ∧ hd (24 * r + k) ≤ 3) ∧ 0 ≤ gd (24 * r + k) ∧ gd (24 * r + k) ≤ 3
def iv_Crt (s : hh_Sv) (q : Nat) (T R Z : Int) (ow le hi : Nat → Int) (hd gd : Nat → Int) : Prop :=
  s q 0 = T ∧ s q 1 = R ∧ w64 (s q 2) = w64 Z ∧ (0 ≤ T ∧ T ≤ 12) ∧ (0 ≤ R ∧ R ≤ 60) ∧ (∀ r : Nat, (r : Int) < R → iv_Row s q r ow le hi hd gd) ∧ ∀ a r : Nat, 2 ≤ a → a ≤ 5 → R ≤ (r : Int) → r < 60 → s (q + a) r = 0
/-- the court now -/
def iv_C (s : hh_Sv) : Prop := iv_Crt s 9 (s 242 2) (s 242 3) (s 242 4) (s 243) (s 244) (s 245) (s 246) (s 247)
/-- the images -/
def iv_I (s : hh_Sv) : Prop := s 8 2 = s 242 70 ∧ (0 ≤ s 242 70 ∧ s 242 70 ≤ 3) ∧ ∀ i : Nat, (i : Int) < s 242 70 → iv_Crt s (72 + 6 * i) (s 283 (3100 * i)) (s 283 (3100 * i + 1)) (s 284 i) (fun r => s 283 (3100 * i + 2 + r)) (fun r => s 283 (3100 * i + 62 + r)) (fun r => s 283 (3100 * i + 122 + r)) (fun k => s 283 (3100 * i + 182 + k)) (fun k => s 283 (3100 * i + 1622 + k))
/-- a step of a condition: what it does (0 < 1 > 2 = 3 or 4 and 5 not), what is asked, the number -/
abbrev Cd : Type := Nat × Nat × Nat
/-- a rule: its kind (0 hit 1 hard 2 guard 3 state 4 miss 5 pass 6 harder 7 guarded), number, condition -/
abbrev Ru : Type := Nat × Nat × List Cd
def cd_w : Nat → Int
  | 0 => 6
  | 1 => 7
  | 2 => 5
  | 3 => 8
  | 4 => 3
  | 5 => 4
  | _ => 9
def cd_g : Nat → Int
  | 0 => 60
  | 1 => 62
  | _ => 61
/-- the class's number for a step -/
def cd_n (c : Cd) : Int := match c.1 with
  | 3 => 19
  | 4 => 18
  | 5 => 20
  | _ => cd_w c.2.1 * 16384 + cd_g c.1 * 128 + c.2.2
def ru_k : Nat → Int
  | 0 => 0
  | 1 => 3
  | 2 => 4
  | 3 => 5
  | 4 => 7
  | 5 => 16
  | 6 => 1
  | _ => 2
def cd_ok (c : Cd) : Prop := c.1 ≤ 5 ∧ c.2.1 ≤ 6 ∧ c.2.2 ≤ 99
/-- how many answers wait behind the steps, if all goes well -/
def cd_d : List Cd → Nat → Option Nat
  | [], n => some n
  | c :: l, n => if c.1 ≤ 2 then (if n < 40 then cd_d l (n + 1) else none) else if c.1 = 5 then (if 1 ≤ n then cd_d l n else none) else (if 2 ≤ n then cd_d l (n - 1) else none)
def ru_ok (r : Ru) : Prop := r.1 ≤ 7 ∧ r.2.1 ≤ 100 ∧ (∀ c ∈ r.2.2, cd_ok c) ∧ (r.2.2 = [] ∨ cd_d r.2.2 0 = some 1) ∧ (5 < r.1 → r.2.2 = []) ∧ (r.1 = 1 ∨ r.1 = 2 → r.2.1 ≤ 3)
/-- where a rule's steps begin -/
def ru_at (rs : List Ru) (i : Nat) : Nat := ((rs.take i).map (fun r => r.2.2.length)).sum
def ru_C (s : hh_Sv) (q : Nat) (rs : List Ru) : Prop := s q 0 = (rs.length : Nat) ∧ ∀ (i : Nat) (r : Ru), rs[i]? = some r → s (q + 1) i = ru_k r.1 ∧ s (q + 2) i = (r.2.1 : Nat) ∧ s (q + 3) i = (ru_at rs (i + 1) : Nat) ∧ ∀ (j : Nat) (c : Cd), r.2.2[j]? = some c → s (q + 4) (ru_at rs i + j) = cd_n c
def ru_M (s : hh_Sv) (t : Nat) (rs : List Ru) : Prop := s 248 t = (rs.length : Nat) ∧ ∀ (i : Nat) (r : Ru), rs[i]? = some r → s 252 (24 * t + i) = (r.1 : Nat) ∧ s 253 (24 * t + i) = (r.2.1 : Nat) ∧ s 254 (24 * t + i) = (300 * t + ru_at rs i : Nat) ∧ s 255 (24 * t + i) = (300 * t + ru_at rs (i + 1) : Nat) ∧ ∀ (j : Nat) (c : Cd), r.2.2[j]? = some c → s 256 (300 * t + ru_at rs i + j) = (c.1 : Nat) ∧ s 257 (300 * t + ru_at rs i + j) = (c.2.1 : Nat) ∧ s 258 (300 * t + ru_at rs i + j) = (c.2.2 : Nat)
/-- the last number of a kind, 0 without one -/
def ru_l (k : Nat) : List Ru → Nat
  | [] => 0
  | r :: l => if r.1 = k ∧ ∀ x ∈ l, x.1 ≠ k then r.2.1 else ru_l k l
def ru_f (rs : List Ru) : List Ru := rs.filter (fun r => decide (r.1 ≤ 5))
/-- the cell of slot t's rules; slot 16 is the spare -/
def ru_q (s : hh_Sv) (t : Nat) : Nat := (if t < 12 then s 16 t else if t < 16 then s 17 (t - 12) else s 8 5).toNat
def ru_cell (q : Nat) : Prop := q = 18 ∨ ∃ i, i < 16 ∧ q = 90 + 5 * i
def ru_S (s : hh_Sv) (t : Nat) (rs : List Ru) : Prop := rs.length ≤ 24 ∧ (∀ r ∈ rs, ru_ok r ∧ (12 ≤ t → r.1 ≤ 5)) ∧ ru_at rs rs.length ≤ 300 ∧ ru_C s (ru_q s t) rs ∧ ru_M s t (ru_f rs) ∧ s 249 t = (rs.length : Nat) ∧ s (ru_q s t) 1 = (ru_l 6 rs : Nat) ∧ s 250 t = (ru_l 6 rs : Nat) ∧ s (ru_q s t) 2 = (ru_l 7 rs : Nat) ∧ s 251 t = (ru_l 7 rs : Nat)
def iv_L (s : hh_Sv) : Prop := (∀ t, t < 12 → 0 ≤ s 16 t) ∧ (∀ t, t < 4 → 0 ≤ s 17 t) ∧ 0 ≤ s 8 5 ∧ (∀ t, t < 17 → ru_cell (ru_q s t)) ∧ (∀ t u, t < 17 → u < 17 → ru_q s t = ru_q s u → t = u) ∧ ∀ t, t < 16 → ∃ rs, ru_S s t rs
/-- the class's number for a kind of term -/
def me_k : Nat → Int
  | 0 => 10
  | 1 => 12
  | 2 => 11
  | 3 => 13
  | 4 => 9
  | 5 => 14
  | _ => 15
/-- a term: kind (0 share 1 after 2 runs 3 longest 4 hits 5 pairs 6 first), times, of, next -/
def me_T (s : hh_Sv) (i j : Nat) : Prop := ∃ (k : Nat) (t o n : Int), k ≤ 6 ∧ s 265 (4 * i + j) = (k : Nat) ∧ s (172 + 6 * i) j = me_k k ∧ s 264 (4 * i + j) = t ∧ s (171 + 6 * i) j = t ∧ (t = 1 ∨ t = 2 ∨ t = 3 ∨ t = -1 ∨ t = -2 ∨ t = -3) ∧ s 266 (4 * i + j) = o ∧ (o = 0 ∨ o = 1) ∧ (s (173 + 6 * i) j = 0 ∨ s (173 + 6 * i) j = 1) ∧ (k = 1 ∨ k = 3 ∨ 5 ≤ k → s (173 + 6 * i) j = o) ∧ s 267 (4 * i + j) = n ∧ (s (174 + 6 * i) j = 0 ∨ s (174 + 6 * i) j = 1) ∧ (k = 5 → s (174 + 6 * i) j = n) ∧ (k = 1 → s (175 + 6 * i) j = n ∧ 1 ≤ n ∧ n ≤ 5)
def iv_M (s : hh_Sv) : Prop := s 8 7 = s 242 16 ∧ (0 ≤ s 242 16 ∧ s 242 16 ≤ 12) ∧ ∀ i : Nat, (i : Int) < s 242 16 → s (170 + 6 * i) 0 = s 263 i ∧ (1 ≤ s 263 i ∧ s 263 i ≤ 4) ∧ ∀ j : Nat, (j : Int) < s 263 i → me_T s i j
def iv_B (s : hh_Sv) : Prop := s 24 0 = s 242 10 ∧ (0 ≤ s 242 10 ∧ s 242 10 ≤ 600) ∧ (∀ j : Nat, (j : Int) < s 242 10 → s 25 j = s 260 j ∧ -128 ≤ s 260 j ∧ s 260 j < 128) ∧ s 8 9 = s 242 17 ∧ I32 (s 242 17)
def iv_K (s : hh_Sv) : Prop := (∀ j, j < 17 → s 2 j = st_o2 j) ∧ (∀ j, j < 112 → s 4 j = st_o4 j)
def InvA (s : hh_Sv) : Prop := iv_K s ∧ iv_C s ∧ iv_I s ∧ iv_L s ∧ iv_M s ∧ iv_B s
section
variable {s t : hh_Sv}
theorem iv_Row.eqv {q q' r : Nat} {ow le hi ow' le' hi' : Nat → Int} {hd gd hd' gd' : Nat → Int} (hs : ∀ a, 1 ≤ a → a ≤ 5 → t (q' + a) r = s (q + a) r) (h1 : ow' r = ow r) (h2 : le' r = le r) (h3 : hi' r = hi r) (h4 : ∀ k, k < 24 → hd' (24 * r + k) = hd (24 * r + k)) (h5 : ∀ k, k < 24 → gd' (24 * r + k) = gd (24 * r + k)) (h : iv_Row s q r ow le hi hd gd) : iv_Row t q' r ow' le' hi' hd' gd' := by
  obtain ⟨a1, a2, a3, a4, a5, a6, a7, a8, a9⟩ := h
  have hl : (le r).toNat ≤ 24 := by omega
  unfold iv_Row
  rw [hs 1 (by decide) (by decide), hs 2 (by decide) (by decide), hs 3 (by decide) (by decide), hs 4 (by decide) (by decide), hs 5 (by decide) (by decide), h1, h2, h3]
  refine ⟨a1, a2, a3, a4, a5, a6, a7.trans (pk_congr fun k hk => (h4 k (by omega)).symm), a8.trans (pk_congr fun k hk => (h5 k (by omega)).symm), fun k hk => ?_⟩
  rw [h4 k (by omega), h5 k (by omega)]
  exact a9 k hk
theorem iv_Crt.eqv {q : Nat} {T R Z T' R' Z' : Int} {ow le hi ow' le' hi' : Nat → Int} {hd gd hd' gd' : Nat → Int} (hs : ∀ a r, a ≤ 5 → t (q + a) r = s (q + a) r) (hT : T' = T) (hR : R' = R) (hZ : Z' = Z) (h1 : ∀ r, r < 60 → ow' r = ow r) (h2 : ∀ r, r < 60 → le' r = le r) (h3 : ∀ r, r < 60 → hi' r = hi r) (h4 : ∀ k, k < 1440 → hd' k = hd k) (h5 : ∀ k, k < 1440 → gd' k = gd k) (h : iv_Crt s q T R Z ow le hi hd gd) : iv_Crt t q T' R' Z' ow' le' hi' hd' gd' := by
  obtain ⟨a1, a2, a3, a4, a5, a6, a7⟩ := h
  subst hT; subst hR; subst hZ
  have e := fun r => hs 0 r (by decide)
  rw [Nat.add_zero] at e
  refine ⟨(e 0).trans a1, (e 1).trans a2, by rw [e 2]; exact a3, a4, a5, fun r hr => ?_, fun a r h1 h2 h3 h4 => (hs a r h2).trans (a7 a r h1 h2 h3 h4)⟩
  exact (a6 r hr).eqv (fun a ha1 ha5 => hs a r ha5) (h1 r (by omega)) (h2 r (by omega)) (h3 r (by omega)) (fun k hk => h4 _ (by omega)) (fun k hk => h5 _ (by omega))
theorem ru_q_eqv (h8 : ∀ j, t 8 j = s 8 j) (h16 : ∀ j, t 16 j = s 16 j) (h17 : ∀ j, t 17 j = s 17 j) (n : Nat) : ru_q t n = ru_q s n := by
  unfold ru_q
  rw [h8, h16, h17]
theorem ru_C.eqv {q : Nat} {rs : List Ru} (hs : ∀ a j, a ≤ 4 → t (q + a) j = s (q + a) j) (h : ru_C s q rs) : ru_C t q rs := by
  have e := fun j => hs 0 j (by decide)
  rw [Nat.add_zero] at e
  refine ⟨(e 0).trans h.1, fun i r hr => ?_⟩
  obtain ⟨a1, a2, a3, a4⟩ := h.2 i r hr
  exact ⟨(hs 1 i (by decide)).trans a1, (hs 2 i (by decide)).trans a2, (hs 3 i (by decide)).trans a3, fun j c hc => (hs 4 _ (by decide)).trans (a4 j c hc)⟩
theorem ru_at_le {rs : List Ru} {i : Nat} : ru_at rs i ≤ ru_at rs rs.length := by
  unfold ru_at
  rw [List.take_length]
  conv => rhs; rw [← List.take_append_drop i rs, List.map_append, List.sum_append]
  omega
theorem ru_at_succ {rs : List Ru} {i : Nat} {r : Ru} (h : rs[i]? = some r) : ru_at rs (i + 1) = ru_at rs i + r.2.2.length := by
  unfold ru_at
  rw [List.take_add_one, h, List.map_append, List.sum_append]
  simp
theorem ru_at_in {rs : List Ru} {i j : Nat} {r : Ru} {c : Cd} (h : rs[i]? = some r) (hc : r.2.2[j]? = some c) : ru_at rs i + j < ru_at rs rs.length := by
  have h1 := ru_at_succ h
  have h2 := @ru_at_le rs (i + 1)
  have h3 := (List.getElem?_eq_some_iff.mp hc).1
  omega
theorem ru_M.eqv {n : Nat} {rs : List Ru} (hn : n < 16) (hl : rs.length ≤ 24) (ha : ru_at rs rs.length ≤ 300) (h1 : t 248 n = s 248 n) (hs : ∀ k j, 252 ≤ k → k ≤ 255 → j < 384 → t k j = s k j) (hp : ∀ k j, 256 ≤ k → k ≤ 258 → j < 4800 → t k j = s k j) (h : ru_M s n rs) : ru_M t n rs := by
  refine ⟨h1.trans h.1, fun i r hr => ?_⟩
  obtain ⟨a1, a2, a3, a4, a5⟩ := h.2 i r hr
  have hi := (List.getElem?_eq_some_iff.mp hr).1
  refine ⟨(hs _ _ (by decide) (by decide) (by omega)).trans a1, (hs _ _ (by decide) (by decide) (by omega)).trans a2, (hs _ _ (by decide) (by decide) (by omega)).trans a3, (hs _ _ (by decide) (by decide) (by omega)).trans a4, fun j c hc => ?_⟩
  have := ru_at_in hr hc
  obtain ⟨b1, b2, b3⟩ := a5 j c hc
  exact ⟨(hp _ _ (by decide) (by decide) (by omega)).trans b1, (hp _ _ (by decide) (by decide) (by omega)).trans b2, (hp _ _ (by decide) (by decide) (by omega)).trans b3⟩
theorem ru_f_at : ∀ (rs : List Ru), (∀ r ∈ rs, ru_ok r) → ru_at (ru_f rs) (ru_f rs).length = ru_at rs rs.length := by
  intro rs
  unfold ru_at
  rw [List.take_length, List.take_length]
  induction rs with
  | nil => intro _; rfl
  | cons r l ih =>
    intro h
    have h1 := ih (fun x hx => h x (List.mem_cons_of_mem _ hx))
    unfold ru_f at h1 ⊢
    rw [List.filter_cons]
    split
    · rw [List.map_cons, List.map_cons, List.sum_cons, List.sum_cons, h1]
    next hn =>
      have h2 := (h r List.mem_cons_self).2.2.2.2.1 (by simpa using hn)
      rw [List.map_cons, List.sum_cons, h2, h1]
      simp
theorem ru_cell.ge {q : Nat} (h : ru_cell q) : q = 18 ∨ (90 ≤ q ∧ q ≤ 165) := by
  rcases h with h | ⟨i, h1, h2⟩
  · exact Or.inl h
  · exact Or.inr ⟨by omega, by omega⟩
theorem ru_S.eqv {n : Nat} {rs : List Ru} (hn : n < 16) (hq : ru_q t n = ru_q s n) (hs : ∀ a j, a ≤ 4 → t (ru_q s n + a) j = s (ru_q s n + a) j) (h1 : ∀ k, 248 ≤ k → k ≤ 251 → t k n = s k n) (h2 : ∀ k j, 252 ≤ k → k ≤ 255 → j < 384 → t k j = s k j) (h3 : ∀ k j, 256 ≤ k → k ≤ 258 → j < 4800 → t k j = s k j) (h : ru_S s n rs) : ru_S t n rs := by
  obtain ⟨a1, a2, a3, a4, a5, a6, a7, a8, a9, a10⟩ := h
  have e := fun j => hs 0 j (by decide)
  rw [Nat.add_zero] at e
  refine ⟨a1, a2, a3, by rw [hq]; exact a4.eqv hs, a5.eqv hn (Nat.le_trans (List.length_filter_le _ _) a1) (by rw [ru_f_at rs (fun r hr => (a2 r hr).1)]; exact a3) (h1 _ (by decide) (by decide)) h2 h3, (h1 _ (by decide) (by decide)).trans a6, ?_, (h1 _ (by decide) (by decide)).trans a8, ?_, (h1 _ (by decide) (by decide)).trans a10⟩
  · rw [hq]; exact (e 1).trans a7
  · rw [hq]; exact (e 2).trans a9
theorem me_T.eqv {i j : Nat} (hs : ∀ k, 1 ≤ k → k ≤ 5 → t (170 + 6 * i + k) j = s (170 + 6 * i + k) j) (hm : ∀ k, 264 ≤ k → k ≤ 267 → t k (4 * i + j) = s k (4 * i + j)) (h : me_T s i j) : me_T t i j := by
  have e1 : t (171 + 6 * i) j = s (171 + 6 * i) j := by have := hs 1 (by decide) (by decide); rwa [show 170 + 6 * i + 1 = 171 + 6 * i by omega] at this
  have e2 : t (172 + 6 * i) j = s (172 + 6 * i) j := by have := hs 2 (by decide) (by decide); rwa [show 170 + 6 * i + 2 = 172 + 6 * i by omega] at this
  have e3 : t (173 + 6 * i) j = s (173 + 6 * i) j := by have := hs 3 (by decide) (by decide); rwa [show 170 + 6 * i + 3 = 173 + 6 * i by omega] at this
  have e4 : t (174 + 6 * i) j = s (174 + 6 * i) j := by have := hs 4 (by decide) (by decide); rwa [show 170 + 6 * i + 4 = 174 + 6 * i by omega] at this
  have e5 : t (175 + 6 * i) j = s (175 + 6 * i) j := by have := hs 5 (by decide) (by decide); rwa [show 170 + 6 * i + 5 = 175 + 6 * i by omega] at this
  unfold me_T
  rw [e1, e2, e3, e4, e5, hm 264 (by decide) (by decide), hm 265 (by decide) (by decide), hm 266 (by decide) (by decide), hm 267 (by decide) (by decide)]
  exact h
theorem iv_C.eqv (h9 : ∀ k j, 9 ≤ k → k ≤ 14 → t k j = s k j) (hf : t 242 2 = s 242 2 ∧ t 242 3 = s 242 3 ∧ t 242 4 = s 242 4) (hm : ∀ k j, 243 ≤ k → k ≤ 247 → t k j = s k j) (h : iv_C s) : iv_C t :=
  iv_Crt.eqv (fun a r ha => h9 _ _ (by omega) (by omega)) hf.1 hf.2.1 hf.2.2 (fun r _ => hm _ _ (by decide) (by decide)) (fun r _ => hm _ _ (by decide) (by decide)) (fun r _ => hm _ _ (by decide) (by decide)) (fun r _ => hm _ _ (by decide) (by decide)) (fun r _ => hm _ _ (by decide) (by decide)) h
theorem iv_I.eqv (h8 : t 8 2 = s 8 2) (hf : t 242 70 = s 242 70) (hs : ∀ k j, 72 ≤ k → k ≤ 89 → t k j = s k j) (hm : ∀ j, t 283 j = s 283 j) (hz : ∀ j, t 284 j = s 284 j) (h : iv_I s) : iv_I t := by
  obtain ⟨a1, a2, a3⟩ := h
  refine ⟨by rw [h8, hf]; exact a1, by rw [hf]; exact a2, fun i hi => ?_⟩
  rw [hf] at hi
  exact iv_Crt.eqv (fun a r ha => hs _ _ (by omega) (by omega)) (hm _) (hm _) (hz _) (fun r _ => hm _) (fun r _ => hm _) (fun r _ => hm _) (fun r _ => hm _) (fun r _ => hm _) (a3 i hi)
theorem iv_L.eqv (h8 : t 8 5 = s 8 5) (h16 : ∀ j, t 16 j = s 16 j) (h17 : ∀ j, t 17 j = s 17 j) (hs : ∀ k j, (18 ≤ k ∧ k ≤ 22) ∨ (90 ≤ k ∧ k ≤ 169) → t k j = s k j) (h1 : ∀ k n, 248 ≤ k → k ≤ 251 → n < 16 → t k n = s k n) (h2 : ∀ k j, 252 ≤ k → k ≤ 255 → j < 384 → t k j = s k j) (h3 : ∀ k j, 256 ≤ k → k ≤ 258 → j < 4800 → t k j = s k j) (h : iv_L s) : iv_L t := by
  obtain ⟨a1, a2, a3, a4, a5, a6⟩ := h
  have hq : ∀ n, ru_q t n = ru_q s n := fun n => by
    unfold ru_q
    rw [h8, h16, h17]
  refine ⟨fun n hn => by rw [h16]; exact a1 n hn, fun n hn => by rw [h17]; exact a2 n hn, by rw [h8]; exact a3, fun n hn => by rw [hq]; exact a4 n hn, fun n m hn hm e => a5 n m hn hm (by rw [← hq, ← hq]; exact e), fun n hn => ?_⟩
  obtain ⟨rs, hr⟩ := a6 n hn
  have hc := (a4 n (by omega)).ge
  exact ⟨rs, hr.eqv hn (hq n) (fun a j ha => hs _ _ (by omega)) (fun k q1 q2 => h1 k n q1 q2 hn) h2 h3⟩
theorem iv_M.eqv (h8 : t 8 7 = s 8 7) (hf : t 242 16 = s 242 16) (hs : ∀ k j, 170 ≤ k → k ≤ 241 → t k j = s k j) (h1 : ∀ j, j < 12 → t 263 j = s 263 j) (h2 : ∀ k j, 264 ≤ k → k ≤ 267 → j < 48 → t k j = s k j) (h : iv_M s) : iv_M t := by
  obtain ⟨a1, a2, a3⟩ := h
  refine ⟨by rw [h8, hf]; exact a1, by rw [hf]; exact a2, fun i hi => ?_⟩
  rw [hf] at hi
  obtain ⟨b1, b2, b3⟩ := a3 i hi
  rw [hs _ _ (by omega) (by omega), h1 i (by omega)]
  refine ⟨b1, b2, fun j hj => (b3 j hj).eqv (fun k q1 q2 => hs _ _ (by omega) (by omega)) (fun k q1 q2 => h2 k _ q1 q2 (by omega))⟩
theorem iv_B.eqv (h1 : t 24 0 = s 24 0) (h2 : t 242 10 = s 242 10) (h3 : ∀ j, t 25 j = s 25 j) (h4 : ∀ j, t 260 j = s 260 j) (h5 : t 8 9 = s 8 9) (h6 : t 242 17 = s 242 17) (h : iv_B s) : iv_B t := by
  unfold iv_B
  rw [h1, h2, h5, h6]
  obtain ⟨a1, a2, a3, a4, a5⟩ := h
  refine ⟨a1, a2, fun j hj => ?_, a4, a5⟩
  rw [h3, h4]
  exact a3 j hj
theorem InvA.eqv (e : Eqv s t) (h : InvA s) : InvA t := by
  obtain ⟨a1, a2, a3, a4, a5, a6⟩ := h
  have g : ∀ k j, ¬ scr k j → t k j = s k j := e
  refine ⟨⟨fun j hj => (g _ _ (by unfold scr; omega)).trans (a1.1 j hj), fun j hj => (g _ _ (by unfold scr; omega)).trans (a1.2 j hj)⟩, a2.eqv (fun k j _ _ => g _ _ (by unfold scr; omega)) ⟨g _ _ (by unfold scr; omega), g _ _ (by unfold scr; omega), g _ _ (by unfold scr; omega)⟩ (fun k j _ _ => g _ _ (by unfold scr; omega)), a3.eqv (g _ _ (by unfold scr; omega)) (g _ _ (by unfold scr; omega)) (fun k j _ _ => g _ _ (by unfold scr; omega)) (fun j => g _ _ (by unfold scr; omega)) (fun j => g _ _ (by unfold scr; omega)),
    a4.eqv (g _ _ (by unfold scr; omega)) (fun j => g _ _ (by unfold scr; omega)) (fun j => g _ _ (by unfold scr; omega)) (fun k j _ => g _ _ (by unfold scr; omega)) (fun k n _ _ _ => g _ _ (by unfold scr; omega)) (fun k j _ _ _ => g _ _ (by unfold scr; omega)) (fun k j _ _ _ => g _ _ (by unfold scr; omega)), a5.eqv (g _ _ (by unfold scr; omega)) (g _ _ (by unfold scr; omega)) (fun k j _ _ => g _ _ (by unfold scr; omega)) (fun j _ => g _ _ (by unfold scr; omega)) (fun k j _ _ _ => g _ _ (by unfold scr; omega)), a6.eqv (g _ _ (by unfold scr; omega)) (g _ _ (by unfold scr; omega)) (fun j => g _ _ (by unfold scr; omega)) (fun j => g _ _ (by unfold scr; omega)) (g _ _ (by unfold scr; omega)) (g _ _ (by unfold scr; omega))⟩
end
