/-! the equations of the class -/
set_option maxRecDepth 20000 in
theorem as_clear_eq (L : Nat) (a0 : Nat) (s : hh_Sv) : as_clear L a0 s =
  if kd L a0 = 20 then
  if 8 ≤ a0 then
  if kd L a0 = 20 then
  if 8 ≤ a0 then
  if kd L a0 = 20 then
  if 8 ≤ a0 then
  if kd L a0 = 20 then
  if 8 ≤ a0 then
  if kd L a0 = 20 then
  if 8 ≤ a0 then
  if kd L a0 = 20 then
  if 8 ≤ a0 then
  if kd L a0 = 20 then
  if 8 ≤ a0 then
  ok L 0 (up (up (up (up (up (up (up s a0 0 0) a0 1 0) a0 2 0) a0 3 0) a0 4 0) a0 5 0) a0 6 0)
  else none
  else none
  else none
  else none
  else none
  else none
  else none
  else none
  else none
  else none
  else none
  else none
  else none
  else none :=
  (hh_Ev_eq pb_as_clear).trans rfl
set_option maxRecDepth 20000 in
theorem as_copy_eq (L : Nat) (a0 : Nat) (a1 : Nat) (s : hh_Sv) : as_copy L a0 a1 s =
  if kd L a1 = 20 then
  if kd L a0 = 20 then
  if 8 ≤ a0 then
  if kd L a1 = 20 then
  if kd L a0 = 20 then
  if 8 ≤ a0 then
  if kd L a1 = 20 then
  if kd L a0 = 20 then
  if 8 ≤ a0 then
  if kd L a1 = 20 then
  if kd L a0 = 20 then
  if 8 ≤ a0 then
  if kd L a1 = 20 then
  if kd L a0 = 20 then
  if 8 ≤ a0 then
  if kd L a1 = 20 then
  if kd L a0 = 20 then
  if 8 ≤ a0 then
  if kd L a1 = 20 then
  if kd L a0 = 20 then
  if 8 ≤ a0 then
  ok L 0 (up (up (up (up (up (up (up s a0 0 (s a1 0)) a0 1 ((up s a0 0 (s a1 0)) a1 1)) a0 2 ((up (up s a0 0 (s a1 0)) a0 1 ((up s a0 0 (s a1 0)) a1 1)) a1 2)) a0 3 ((up (up (up s a0 0 (s a1 0)) a0 1 ((up s a0 0 (s a1 0)) a1 1)) a0 2 ((up (up s a0 0 (s a1 0)) a0 1 ((up s a0 0 (s a1 0)) a1 1)) a1 2)) a1 3)) a0 4 ((up (up (up (up s a0 0 (s a1 0)) a0 1 ((up s a0 0 (s a1 0)) a1 1)) a0 2 ((up (up s a0 0 (s a1 0)) a0 1 ((up s a0 0 (s a1 0)) a1 1)) a1 2)) a0 3 ((up (up (up s a0 0 (s a1 0)) a0 1 ((up s a0 0 (s a1 0)) a1 1)) a0 2 ((up (up s a0 0 (s a1 0)) a0 1 ((up s a0 0 (s a1 0)) a1 1)) a1 2)) a1 3)) a1 4)) a0 5 ((up (up (up (up (up s a0 0 (s a1 0)) a0 1 ((up s a0 0 (s a1 0)) a1 1)) a0 2 ((up (up s a0 0 (s a1 0)) a0 1 ((up s a0 0 (s a1 0)) a1 1)) a1 2)) a0 3 ((up (up (up s a0 0 (s a1 0)) a0 1 ((up s a0 0 (s a1 0)) a1 1)) a0 2 ((up (up s a0 0 (s a1 0)) a0 1 ((up s a0 0 (s a1 0)) a1 1)) a1 2)) a1 3)) a0 4 ((up (up (up (up s a0 0 (s a1 0)) a0 1 ((up s a0 0 (s a1 0)) a1 1)) a0 2 ((up (up s a0 0 (s a1 0)) a0 1 ((up s a0 0 (s a1 0)) a1 1)) a1 2)) a0 3 ((up (up (up s a0 0 (s a1 0)) a0 1 ((up s a0 0 (s a1 0)) a1 1)) a0 2 ((up (up s a0 0 (s a1 0)) a0 1 ((up s a0 0 (s a1 0)) a1 1)) a1 2)) a1 3)) a1 4)) a1 5)) a0 6 ((up (up (up (up (up (up s a0 0 (s a1 0)) a0 1 ((up s a0 0 (s a1 0)) a1 1)) a0 2 ((up (up s a0 0 (s a1 0)) a0 1 ((up s a0 0 (s a1 0)) a1 1)) a1 2)) a0 3 ((up (up (up s a0 0 (s a1 0)) a0 1 ((up s a0 0 (s a1 0)) a1 1)) a0 2 ((up (up s a0 0 (s a1 0)) a0 1 ((up s a0 0 (s a1 0)) a1 1)) a1 2)) a1 3)) a0 4 ((up (up (up (up s a0 0 (s a1 0)) a0 1 ((up s a0 0 (s a1 0)) a1 1)) a0 2 ((up (up s a0 0 (s a1 0)) a0 1 ((up s a0 0 (s a1 0)) a1 1)) a1 2)) a0 3 ((up (up (up s a0 0 (s a1 0)) a0 1 ((up s a0 0 (s a1 0)) a1 1)) a0 2 ((up (up s a0 0 (s a1 0)) a0 1 ((up s a0 0 (s a1 0)) a1 1)) a1 2)) a1 3)) a1 4)) a0 5 ((up (up (up (up (up s a0 0 (s a1 0)) a0 1 ((up s a0 0 (s a1 0)) a1 1)) a0 2 ((up (up s a0 0 (s a1 0)) a0 1 ((up s a0 0 (s a1 0)) a1 1)) a1 2)) a0 3 ((up (up (up s a0 0 (s a1 0)) a0 1 ((up s a0 0 (s a1 0)) a1 1)) a0 2 ((up (up s a0 0 (s a1 0)) a0 1 ((up s a0 0 (s a1 0)) a1 1)) a1 2)) a1 3)) a0 4 ((up (up (up (up s a0 0 (s a1 0)) a0 1 ((up s a0 0 (s a1 0)) a1 1)) a0 2 ((up (up s a0 0 (s a1 0)) a0 1 ((up s a0 0 (s a1 0)) a1 1)) a1 2)) a0 3 ((up (up (up s a0 0 (s a1 0)) a0 1 ((up s a0 0 (s a1 0)) a1 1)) a0 2 ((up (up s a0 0 (s a1 0)) a0 1 ((up s a0 0 (s a1 0)) a1 1)) a1 2)) a1 3)) a1 4)) a1 5)) a1 6))
  else none
  else none
  else none
  else none
  else none
  else none
  else none
  else none
  else none
  else none
  else none
  else none
  else none
  else none
  else none
  else none
  else none
  else none
  else none
  else none
  else none :=
  (hh_Ev_eq pb_as_copy).trans rfl
set_option maxRecDepth 20000 in
theorem as_add_eq (L : Nat) (a0 : Nat) (a1 : Int) (s : hh_Sv) : as_add L a0 a1 s =
  if w32 a1 = 0 then
    as_add_b2 L a0 a1 a0 0 s
  else
    if kd L a0 = 20 then
    as_add_b2 L a0 a1 a0 ((s a0 0) + 1) s
    else none :=
  (hh_Ev_eq pb_as_add).trans rfl
set_option maxRecDepth 20000 in
theorem as_add_b2_eq (L : Nat) (l0 : Nat) (l1 : Int) (k0 : Nat) (k1 : Int) (s : hh_Sv) : as_add_b2 L l0 l1 k0 k1 s =
  if kd L k0 = 20 then
  if 8 ≤ k0 then
  if w32 l1 = 0 then
    if kd L l0 = 20 then
    as_add_b4 L l0 l1 l0 (((up s k0 0 k1) l0 1) + 1) (up s k0 0 k1)
    else none
  else
    as_add_b4 L l0 l1 l0 0 (up s k0 0 k1)
  else none
  else none :=
  (hh_Ev_eq pb_as_add).trans rfl
set_option maxRecDepth 20000 in
theorem as_add_b4_eq (L : Nat) (l0 : Nat) (l1 : Int) (k0 : Nat) (k1 : Int) (s : hh_Sv) : as_add_b4 L l0 l1 k0 k1 s =
  if kd L k0 = 20 then
  if 8 ≤ k0 then
  if kd L l0 = 20 then
  if w32 l1 = 0 then
    as_add_b6 L l0 l0 ((up s k0 1 k1) l0 4) 0 (up s k0 1 k1)
  else
    as_add_b6 L l0 l0 ((up s k0 1 k1) l0 4) 1 (up s k0 1 k1)
  else none
  else none
  else none :=
  (hh_Ev_eq pb_as_add).trans rfl
set_option maxRecDepth 20000 in
theorem as_add_b6_eq (L : Nat) (l0 : Nat) (k0 : Nat) (k1 : Int) (k2 : Int) (s : hh_Sv) : as_add_b6 L l0 k0 k1 k2 s =
  if kd L k0 = 20 then
  if 8 ≤ k0 then
  if kd L l0 = 20 then
  if kd L l0 = 20 then
  if 8 ≤ l0 then
  ok L 0 (up (up s k0 4 (k1 + k2)) l0 3 (((up s k0 4 (k1 + k2)) l0 3) + 1))
  else none
  else none
  else none
  else none
  else none :=
  (hh_Ev_eq pb_as_add).trans rfl
set_option maxRecDepth 20000 in
theorem as_wordOf_eq (L : Nat) (a0 : Nat) (a1 : Int) (s : hh_Sv) : as_wordOf L a0 a1 s =
  if w32 a1 = 3 then
    if kd L a0 = 20 then
    ok L (s a0 5) s
    else none
  else
    if w32 a1 = 4 then
      if kd L a0 = 20 then
      ok L (s a0 6) s
      else none
    else
      if w32 a1 = 5 then
        if kd L a0 = 20 then
        ok L (s a0 2) s
        else none
      else
        if w32 a1 = 6 then
          if kd L a0 = 20 then
          ok L (s a0 0) s
          else none
        else
          if w32 a1 = 7 then
            if kd L a0 = 20 then
            ok L (s a0 1) s
            else none
          else
            if w32 a1 = 8 then
              if kd L a0 = 20 then
              ok L (s a0 3) s
              else none
            else
              if kd L a0 = 20 then
              ok L (s a0 4) s
              else none :=
  (hh_Ev_eq pb_as_wordOf).trans rfl
set_option maxRecDepth 20000 in
theorem as_meets_eq (L : Nat) (a0 : Nat) (a1 : Int) (s : hh_Sv) : as_meets L a0 a1 s =
  if kd L a0 = 20 then
  (as_wordOf L a0 (iShr a1 14) s).bind (fun r1 =>
  if w32 (bAnd (iShr a1 7) 127) = 60 then
    if w32 r1.1 < w32 (bAnd a1 127) then
      ok L 1 r1.2.2
    else
      ok L 0 r1.2.2
  else
    if w32 (bAnd (iShr a1 7) 127) = 62 then
      if w32 (bAnd a1 127) < w32 r1.1 then
        ok L 1 r1.2.2
      else
        ok L 0 r1.2.2
    else
      if w32 r1.1 = w32 (bAnd a1 127) then
        ok L 1 r1.2.2
      else
        ok L 0 r1.2.2)
  else none :=
  (hh_Ev_eq pb_as_meets).trans rfl
set_option maxRecDepth 20000 in
theorem co_copy_72_9_eq (L : Nat) (s : hh_Sv) : co_copy L 72 9 s =
  ok L 0 (cpy (cpy (cpy (cpy (cpy (up (up (up s 72 0 (s 9 0)) 72 1 (s 9 1)) 72 2 (s 9 2)) 10 0 73 0 60) 11 0 74 0 60) 12 0 75 0 60) 13 0 76 0 60) 14 0 77 0 60) :=
  (hh_Ev_eq pb_co_copy).trans rfl
set_option maxRecDepth 20000 in
theorem co_copy_78_9_eq (L : Nat) (s : hh_Sv) : co_copy L 78 9 s =
  ok L 0 (cpy (cpy (cpy (cpy (cpy (up (up (up s 78 0 (s 9 0)) 78 1 (s 9 1)) 78 2 (s 9 2)) 10 0 79 0 60) 11 0 80 0 60) 12 0 81 0 60) 13 0 82 0 60) 14 0 83 0 60) :=
  (hh_Ev_eq pb_co_copy).trans rfl
set_option maxRecDepth 20000 in
theorem co_copy_84_9_eq (L : Nat) (s : hh_Sv) : co_copy L 84 9 s =
  ok L 0 (cpy (cpy (cpy (cpy (cpy (up (up (up s 84 0 (s 9 0)) 84 1 (s 9 1)) 84 2 (s 9 2)) 10 0 85 0 60) 11 0 86 0 60) 12 0 87 0 60) 13 0 88 0 60) 14 0 89 0 60) :=
  (hh_Ev_eq pb_co_copy).trans rfl
set_option maxRecDepth 20000 in
theorem co_copy_9_72_eq (L : Nat) (s : hh_Sv) : co_copy L 9 72 s =
  ok L 0 (cpy (cpy (cpy (cpy (cpy (up (up (up s 9 0 (s 72 0)) 9 1 (s 72 1)) 9 2 (s 72 2)) 73 0 10 0 60) 74 0 11 0 60) 75 0 12 0 60) 76 0 13 0 60) 77 0 14 0 60) :=
  (hh_Ev_eq pb_co_copy).trans rfl
set_option maxRecDepth 20000 in
theorem co_copy_9_78_eq (L : Nat) (s : hh_Sv) : co_copy L 9 78 s =
  ok L 0 (cpy (cpy (cpy (cpy (cpy (up (up (up s 9 0 (s 78 0)) 9 1 (s 78 1)) 9 2 (s 78 2)) 79 0 10 0 60) 80 0 11 0 60) 81 0 12 0 60) 82 0 13 0 60) 83 0 14 0 60) :=
  (hh_Ev_eq pb_co_copy).trans rfl
set_option maxRecDepth 20000 in
theorem co_copy_9_84_eq (L : Nat) (s : hh_Sv) : co_copy L 9 84 s =
  ok L 0 (cpy (cpy (cpy (cpy (cpy (up (up (up s 9 0 (s 84 0)) 9 1 (s 84 1)) 9 2 (s 84 2)) 85 0 10 0 60) 86 0 11 0 60) 87 0 12 0 60) 88 0 13 0 60) 89 0 14 0 60) :=
  (hh_Ev_eq pb_co_copy).trans rfl
set_option maxRecDepth 20000 in
theorem co_hasThrower_eq (L : Nat) (a1 : Int) (s : hh_Sv) : co_hasThrower L a1 s =
  if w32 a1 < 0 then
    co_hasThrower_b1 L s
  else
    if w32 a1 < w32 (s 9 0) then
      ok L 1 s
    else
      co_hasThrower_b1 L s :=
  (hh_Ev_eq pb_co_hasThrower).trans rfl
set_option maxRecDepth 20000 in
theorem co_hasThrower_b1_eq (L : Nat) (s : hh_Sv) : co_hasThrower_b1 L s =
  ok L 0 s :=
  (hh_Ev_eq pb_co_hasThrower).trans rfl
set_option maxRecDepth 20000 in
theorem co_hasRow_eq (L : Nat) (a1 : Int) (s : hh_Sv) : co_hasRow L a1 s =
  if w32 a1 < 0 then
    co_hasRow_b1 L s
  else
    if w32 a1 < w32 (s 9 1) then
      ok L 1 s
    else
      co_hasRow_b1 L s :=
  (hh_Ev_eq pb_co_hasRow).trans rfl
set_option maxRecDepth 20000 in
theorem co_hasRow_b1_eq (L : Nat) (s : hh_Sv) : co_hasRow_b1 L s =
  ok L 0 s :=
  (hh_Ev_eq pb_co_hasRow).trans rfl
set_option maxRecDepth 20000 in
theorem co_isOf_eq (L : Nat) (a1 : Int) (a2 : Int) (s : hh_Sv) : co_isOf L a1 a2 s =
  if w32 a2 = (-1) then
    ok L 1 s
  else
    if 0 ≤ a1 ∧ a1 < 60 then
    if w32 (s 10 a1.toNat) = w32 a2 then
      ok L 1 s
    else
      ok L 0 s
    else none :=
  ((hh_Ev_eq pb_co_isOf).trans (show _ = (
  if w32 a2 = w32 (-1) then
    ok L 1 s
  else
    if 0 ≤ a1 ∧ a1 < 60 then
    if w32 (s 10 a1.toNat) = w32 a2 then
      ok L 1 s
    else
      ok L 0 s
    else none) from rfl)).trans (by simp only [k32_m1])
set_option maxRecDepth 20000 in
theorem co_addRow_eq (L : Nat) (a1 : Int) (s : hh_Sv) : co_addRow L a1 s =
  if 0 ≤ s 9 1 ∧ s 9 1 < 60 then
  ok L (((s 9 1) + 1) - 1) (up (up s 10 ((s 9 1).toNat) a1) 9 1 ((s 9 1) + 1))
  else none :=
  (hh_Ev_eq pb_co_addRow).trans rfl
set_option maxRecDepth 20000 in
theorem co_addThrow_eq (L : Nat) (a1 : Int) (a2 : Int) (a3 : Int) (a4 : Int) (s : hh_Sv) : co_addThrow L a1 a2 a3 a4 s =
  if 0 ≤ a1 ∧ a1 < 60 then
  if 0 ≤ a1 ∧ a1 < 60 then
  if w32 a2 = 0 then
    co_addThrow_b2 L a1 a3 a4 (s 11 a1.toNat) a1 (s 12 a1.toNat) 0 s
  else
    co_addThrow_b2 L a1 a3 a4 (s 11 a1.toNat) a1 (s 12 a1.toNat) (iShl 1 (s 11 a1.toNat)) s
  else none
  else none :=
  (hh_Ev_eq pb_co_addThrow).trans rfl
set_option maxRecDepth 20000 in
theorem co_addThrow_b2_eq (L : Nat) (l1 : Int) (l3 : Int) (l4 : Int) (l5 : Int) (k1 : Int) (k2 : Int) (k3 : Int) (s : hh_Sv) : co_addThrow_b2 L l1 l3 l4 l5 k1 k2 k3 s =
  if 0 ≤ k1 ∧ k1 < 60 then
  if 0 ≤ l1 ∧ l1 < 60 then
  if 0 ≤ l1 ∧ l1 < 60 then
  if 0 ≤ l1 ∧ l1 < 60 then
  if 0 ≤ l1 ∧ l1 < 60 then
  if 0 ≤ l1 ∧ l1 < 60 then
  ok L 0 (up (up (up (up s 12 k1.toNat (bOr k2 k3)) 13 l1.toNat (bOr (s 13 l1.toNat) (lShl (w32 l3) (2 * l5)))) 14 l1.toNat (bOr (s 14 l1.toNat) (lShl (w32 l4) (2 * l5)))) 11 l1.toNat (l5 + 1))
  else none
  else none
  else none
  else none
  else none
  else none :=
  (hh_Ev_eq pb_co_addThrow).trans rfl
set_option maxRecDepth 20000 in
theorem co_isHitAt_eq (L : Nat) (a1 : Int) (a2 : Int) (s : hh_Sv) : co_isHitAt L a1 a2 s =
  if 0 ≤ a1 ∧ a1 < 60 then
  if w32 (bAnd (iShr (s 12 a1.toNat) a2) 1) = 1 then
    ok L 1 s
  else
    ok L 0 s
  else none :=
  ((hh_Ev_eq pb_co_isHitAt).trans (show _ = (
  if 0 ≤ a1 ∧ a1 < 60 then
  if w32 (bAnd (iShr (s 12 a1.toNat) a2) 1) = w32 1 then
    ok L 1 s
  else
    ok L 0 s
  else none) from rfl)).trans (by simp only [k32_1])
set_option maxRecDepth 20000 in
theorem co_show_eq (L : Nat) (a1 : Int) (a2 : Int) (s : hh_Sv) : co_show L a1 a2 s =
  if 0 ≤ a1 ∧ a1 < 60 then
  if 0 ≤ a1 ∧ a1 < 60 then
  ok L 0 (up (up s 29 5 (bAnd (lUshr (s 13 a1.toNat) (2 * a2)) 3)) 29 6 (bAnd (lUshr (s 14 a1.toNat) (2 * a2)) 3))
  else none
  else none :=
  (hh_Ev_eq pb_co_show).trans rfl
set_option maxRecDepth 20000 in
theorem co_countThrows_eq (L : Nat) (a1 : Int) (s : hh_Sv) : co_countThrows L a1 s =
  co_countThrows_b1 L a1 0 0 s :=
  (hh_Ev_eq pb_co_countThrows).trans rfl
set_option maxRecDepth 20000 in
theorem co_countThrows_b1_eq (L : Nat) (l1 : Int) (l2 : Int) (l3 : Int) (s : hh_Sv) : co_countThrows_b1 L l1 l2 l3 s =
  if w32 l3 < w32 (s 9 1) then
    (co_isOf L l3 l1 s).bind (fun r1 =>
    if w32 r1.1 = 0 then
      co_countThrows_b3 L l1 l3 l2 0 r1.2.2
    else
      if 0 ≤ l3 ∧ l3 < 60 then
      co_countThrows_b3 L l1 l3 l2 (r1.2.2 11 l3.toNat) r1.2.2
      else none)
  else
    ok L l2 s :=
  (hh_Ev_eq pb_co_countThrows).trans rfl
set_option maxRecDepth 20000 in
theorem co_countThrows_b3_eq (L : Nat) (l1 : Int) (l3 : Int) (k0 : Int) (k1 : Int) (s : hh_Sv) : co_countThrows_b3 L l1 l3 k0 k1 s =
  co_countThrows_b1 L l1 (k0 + k1) (l3 + 1) s :=
  (hh_Ev_eq pb_co_countThrows).trans rfl
set_option maxRecDepth 20000 in
theorem jin_bitCount_eq (L : Nat) (a0 : Int) (s : hh_Sv) : jin_bitCount L a0 s =
  ok L (bAnd (((bAnd (((bAnd (a0 - (bAnd (iUshr a0 1) 1431655765)) 858993459) + (bAnd (iUshr (a0 - (bAnd (iUshr a0 1) 1431655765)) 2) 858993459)) + (iUshr ((bAnd (a0 - (bAnd (iUshr a0 1) 1431655765)) 858993459) + (bAnd (iUshr (a0 - (bAnd (iUshr a0 1) 1431655765)) 2) 858993459)) 4)) 252645135) + (iUshr (bAnd (((bAnd (a0 - (bAnd (iUshr a0 1) 1431655765)) 858993459) + (bAnd (iUshr (a0 - (bAnd (iUshr a0 1) 1431655765)) 2) 858993459)) + (iUshr ((bAnd (a0 - (bAnd (iUshr a0 1) 1431655765)) 858993459) + (bAnd (iUshr (a0 - (bAnd (iUshr a0 1) 1431655765)) 2) 858993459)) 4)) 252645135) 8)) + (iUshr ((bAnd (((bAnd (a0 - (bAnd (iUshr a0 1) 1431655765)) 858993459) + (bAnd (iUshr (a0 - (bAnd (iUshr a0 1) 1431655765)) 2) 858993459)) + (iUshr ((bAnd (a0 - (bAnd (iUshr a0 1) 1431655765)) 858993459) + (bAnd (iUshr (a0 - (bAnd (iUshr a0 1) 1431655765)) 2) 858993459)) 4)) 252645135) + (iUshr (bAnd (((bAnd (a0 - (bAnd (iUshr a0 1) 1431655765)) 858993459) + (bAnd (iUshr (a0 - (bAnd (iUshr a0 1) 1431655765)) 2) 858993459)) + (iUshr ((bAnd (a0 - (bAnd (iUshr a0 1) 1431655765)) 858993459) + (bAnd (iUshr (a0 - (bAnd (iUshr a0 1) 1431655765)) 2) 858993459)) 4)) 252645135) 8)) 16)) 63) s :=
  (hh_Ev_eq pb_jin_bitCount).trans rfl
set_option maxRecDepth 20000 in
theorem co_countHits_eq (L : Nat) (a1 : Int) (s : hh_Sv) : co_countHits L a1 s =
  co_countHits_b1 L a1 0 0 s :=
  (hh_Ev_eq pb_co_countHits).trans rfl
set_option maxRecDepth 20000 in
theorem co_countHits_b1_eq (L : Nat) (l1 : Int) (l2 : Int) (l3 : Int) (s : hh_Sv) : co_countHits_b1 L l1 l2 l3 s =
  if w32 l3 < w32 (s 9 1) then
    (co_isOf L l3 l1 s).bind (fun r1 =>
    if w32 r1.1 = 0 then
      co_countHits_b3 L l1 l3 l2 0 r1.2.2
    else
      if 0 ≤ l3 ∧ l3 < 60 then
      (jin_bitCount L (r1.2.2 12 l3.toNat) r1.2.2).bind (fun r2 =>
      co_countHits_b3 L l1 l3 l2 r2.1 r2.2.2)
      else none)
  else
    ok L l2 s :=
  (hh_Ev_eq pb_co_countHits).trans rfl
set_option maxRecDepth 20000 in
theorem co_countHits_b3_eq (L : Nat) (l1 : Int) (l3 : Int) (k0 : Int) (k1 : Int) (s : hh_Sv) : co_countHits_b3 L l1 l3 k0 k1 s =
  co_countHits_b1 L l1 (k0 + k1) (l3 + 1) s :=
  (hh_Ev_eq pb_co_countHits).trans rfl
set_option maxRecDepth 20000 in
theorem jma_max_eq (L : Nat) (a0 : Int) (a1 : Int) (s : hh_Sv) : jma_max L a0 a1 s =
  if w32 a0 < w32 a1 then
    ok L a1 s
  else
    ok L a0 s :=
  (hh_Ev_eq pb_jma_max).trans rfl
set_option maxRecDepth 20000 in
theorem co_longestRow_eq (L : Nat) (a1 : Int) (s : hh_Sv) : co_longestRow L a1 s =
  co_longestRow_b1 L a1 0 0 s :=
  (hh_Ev_eq pb_co_longestRow).trans rfl
set_option maxRecDepth 20000 in
theorem co_longestRow_b1_eq (L : Nat) (l1 : Int) (l2 : Int) (l3 : Int) (s : hh_Sv) : co_longestRow_b1 L l1 l2 l3 s =
  if w32 l3 < w32 (s 9 1) then
    (co_isOf L l3 l1 s).bind (fun r1 =>
    if w32 r1.1 = 0 then
      co_longestRow_b1 L l1 l2 (l3 + 1) r1.2.2
    else
      if 0 ≤ l3 ∧ l3 < 60 then
      (jma_max L l2 (r1.2.2 11 l3.toNat) r1.2.2).bind (fun r2 =>
      co_longestRow_b1 L l1 r2.1 (l3 + 1) r2.2.2)
      else none)
  else
    ok L l2 s :=
  (hh_Ev_eq pb_co_longestRow).trans rfl
set_option maxRecDepth 20000 in
theorem hx_ofBits_eq (L : Nat) (a0 : Int) (a1 : Int) (a2 : Int) (s : hh_Sv) : hx_ofBits L a0 a1 a2 s =
  if w32 a2 = 0 then
    ok L (bAnd (bXor a0 (-1)) ((iShl 1 a1) - 1)) s
  else
    ok L a0 s :=
  (hh_Ev_eq pb_hx_ofBits).trans rfl
set_option maxRecDepth 20000 in
theorem hx_behindBits_eq (L : Nat) (a0 : Int) (a1 : Int) (a2 : Int) (a3 : Int) (s : hh_Sv) : hx_behindBits L a0 a1 a2 a3 s =
  (hx_ofBits L a0 a1 a2 s).bind (fun r1 =>
  hx_behindBits_b1 L a3 r1.1 ((iShl 1 a1) - 1) 1 r1.2.2) :=
  (hh_Ev_eq pb_hx_behindBits).trans rfl
set_option maxRecDepth 20000 in
theorem hx_behindBits_b1_eq (L : Nat) (l3 : Int) (l4 : Int) (l5 : Int) (l6 : Int) (s : hh_Sv) : hx_behindBits_b1 L l3 l4 l5 l6 s =
  if w32 l3 < w32 l6 then
    ok L l5 s
  else
    hx_behindBits_b1 L l3 l4 (bAnd l5 (iShl l4 l6)) (l6 + 1) s :=
  (hh_Ev_eq pb_hx_behindBits).trans rfl
set_option maxRecDepth 20000 in
theorem co_countBehindIn_eq (L : Nat) (a1 : Int) (a2 : Int) (a3 : Int) (a4 : Int) (s : hh_Sv) : co_countBehindIn L a1 a2 a3 a4 s =
  if 0 ≤ a1 ∧ a1 < 60 then
  if 0 ≤ a1 ∧ a1 < 60 then
  (hx_behindBits L (s 12 a1.toNat) (s 11 a1.toNat) a2 a3 s).bind (fun r1 =>
  if w32 a4 = 0 then
    co_countBehindIn_b2 L r1.1 r1.2.2
  else
    if 0 ≤ a1 ∧ a1 < 60 then
    co_countBehindIn_b2 L (bAnd r1.1 (r1.2.2 12 a1.toNat)) r1.2.2
    else none)
  else none
  else none :=
  (hh_Ev_eq pb_co_countBehindIn).trans rfl
set_option maxRecDepth 20000 in
theorem co_countBehindIn_b2_eq (L : Nat) (k0 : Int) (s : hh_Sv) : co_countBehindIn_b2 L k0 s =
  (jin_bitCount L k0 s).bind (fun r1 =>
  ok L r1.1 r1.2.2) :=
  (hh_Ev_eq pb_co_countBehindIn).trans rfl
set_option maxRecDepth 20000 in
theorem co_countBehind_eq (L : Nat) (a1 : Int) (a2 : Int) (a3 : Int) (a4 : Int) (s : hh_Sv) : co_countBehind L a1 a2 a3 a4 s =
  co_countBehind_b1 L a1 a2 a3 a4 0 0 s :=
  (hh_Ev_eq pb_co_countBehind).trans rfl
set_option maxRecDepth 20000 in
theorem co_countBehind_b1_eq (L : Nat) (l1 : Int) (l2 : Int) (l3 : Int) (l4 : Int) (l5 : Int) (l6 : Int) (s : hh_Sv) : co_countBehind_b1 L l1 l2 l3 l4 l5 l6 s =
  if w32 l6 < w32 (s 9 1) then
    (co_isOf L l6 l1 s).bind (fun r1 =>
    if w32 r1.1 = 0 then
      co_countBehind_b1 L l1 l2 l3 l4 l5 (l6 + 1) r1.2.2
    else
      (co_countBehindIn L l6 l2 l3 l4 r1.2.2).bind (fun r2 =>
      co_countBehind_b1 L l1 l2 l3 l4 (l5 + r2.1) (l6 + 1) r2.2.2))
  else
    ok L l5 s :=
  (hh_Ev_eq pb_co_countBehind).trans rfl
set_option maxRecDepth 20000 in
theorem co_hardBits_eq (L : Nat) (a1 : Int) (a2 : Int) (s : hh_Sv) : co_hardBits L a1 a2 s =
  co_hardBits_b1 L a1 a2 0 0 s :=
  (hh_Ev_eq pb_co_hardBits).trans rfl
set_option maxRecDepth 20000 in
theorem co_hardBits_b1_eq (L : Nat) (l1 : Int) (l2 : Int) (l3 : Int) (l4 : Int) (s : hh_Sv) : co_hardBits_b1 L l1 l2 l3 l4 s =
  if 0 ≤ l1 ∧ l1 < 60 then
  if w32 l4 < w32 (s 11 l1.toNat) then
    if 0 ≤ l1 ∧ l1 < 60 then
    if w32 (lCmp (bAnd (lUshr (s 13 l1.toNat) (2 * l4)) 3) (w32 l2)) = 0 then
      co_hardBits_b3 L l1 l2 l4 l3 (iShl 1 l4) s
    else
      co_hardBits_b3 L l1 l2 l4 l3 0 s
    else none
  else
    ok L l3 s
  else none :=
  (hh_Ev_eq pb_co_hardBits).trans rfl
set_option maxRecDepth 20000 in
theorem co_hardBits_b3_eq (L : Nat) (l1 : Int) (l2 : Int) (l4 : Int) (k0 : Int) (k1 : Int) (s : hh_Sv) : co_hardBits_b3 L l1 l2 l4 k0 k1 s =
  co_hardBits_b1 L l1 l2 (bOr k0 k1) (l4 + 1) s :=
  (hh_Ev_eq pb_co_hardBits).trans rfl
set_option maxRecDepth 20000 in
theorem co_countHard_eq (L : Nat) (a1 : Int) (a2 : Int) (a3 : Int) (s : hh_Sv) : co_countHard L a1 a2 a3 s =
  co_countHard_b1 L a1 a2 a3 0 0 s :=
  (hh_Ev_eq pb_co_countHard).trans rfl
set_option maxRecDepth 20000 in
theorem co_countHard_b1_eq (L : Nat) (l1 : Int) (l2 : Int) (l3 : Int) (l4 : Int) (l5 : Int) (s : hh_Sv) : co_countHard_b1 L l1 l2 l3 l4 l5 s =
  if w32 l5 < w32 (s 9 1) then
    (co_isOf L l5 l1 s).bind (fun r1 =>
    if w32 r1.1 = 0 then
      co_countHard_b1 L l1 l2 l3 l4 (l5 + 1) r1.2.2
    else
      (co_hardBits L l5 l2 r1.2.2).bind (fun r2 =>
      if w32 l3 < 2 then
        co_countHard_b2 L l1 l2 l3 l4 l5 r2.1 r2.2.2
      else
        if 0 ≤ l5 ∧ l5 < 60 then
        if 0 ≤ l5 ∧ l5 < 60 then
        (hx_behindBits L (r2.2.2 12 l5.toNat) (r2.2.2 11 l5.toNat) 1 1 r2.2.2).bind (fun r3 =>
        co_countHard_b2 L l1 l2 l3 l4 l5 (bAnd r2.1 r3.1) r3.2.2)
        else none
        else none))
  else
    ok L l4 s :=
  ((hh_Ev_eq pb_co_countHard).trans (show _ = (
  if w32 l5 < w32 (s 9 1) then
    (co_isOf L l5 l1 s).bind (fun r1 =>
    if w32 r1.1 = 0 then
      co_countHard_b1 L l1 l2 l3 l4 (l5 + 1) r1.2.2
    else
      (co_hardBits L l5 l2 r1.2.2).bind (fun r2 =>
      if w32 l3 < w32 2 then
        co_countHard_b2 L l1 l2 l3 l4 l5 r2.1 r2.2.2
      else
        if 0 ≤ l5 ∧ l5 < 60 then
        if 0 ≤ l5 ∧ l5 < 60 then
        (hx_behindBits L (r2.2.2 12 l5.toNat) (r2.2.2 11 l5.toNat) 1 1 r2.2.2).bind (fun r3 =>
        co_countHard_b2 L l1 l2 l3 l4 l5 (bAnd r2.1 r3.1) r3.2.2)
        else none
        else none))
  else
    ok L l4 s) from rfl)).trans (by simp only [k32_2])
set_option maxRecDepth 20000 in
theorem co_countHard_b2_eq (L : Nat) (l1 : Int) (l2 : Int) (l3 : Int) (l4 : Int) (l5 : Int) (l6 : Int) (s : hh_Sv) : co_countHard_b2 L l1 l2 l3 l4 l5 l6 s =
  if w32 (tMod (w32 l3) 2) = 0 then
    if 0 ≤ l5 ∧ l5 < 60 then
    co_countHard_b4 L l1 l2 l3 l5 l4 (bAnd l6 (s 12 l5.toNat)) s
    else none
  else
    co_countHard_b4 L l1 l2 l3 l5 l4 l6 s :=
  ((hh_Ev_eq pb_co_countHard).trans (show _ = (
  if w32 2 = 0 then none else
  if w32 (tMod (w32 l3) (w32 2)) = 0 then
    if 0 ≤ l5 ∧ l5 < 60 then
    co_countHard_b4 L l1 l2 l3 l5 l4 (bAnd l6 (s 12 l5.toNat)) s
    else none
  else
    co_countHard_b4 L l1 l2 l3 l5 l4 l6 s) from rfl)).trans (by simp only [k32_2, kz_2, if_false, if_true])
set_option maxRecDepth 20000 in
theorem co_countHard_b4_eq (L : Nat) (l1 : Int) (l2 : Int) (l3 : Int) (l5 : Int) (k0 : Int) (k1 : Int) (s : hh_Sv) : co_countHard_b4 L l1 l2 l3 l5 k0 k1 s =
  (jin_bitCount L k1 s).bind (fun r1 =>
  co_countHard_b1 L l1 l2 l3 (k0 + r1.1) (l5 + 1) r1.2.2) :=
  (hh_Ev_eq pb_co_countHard).trans rfl
set_option maxRecDepth 20000 in
theorem ga_begin_eq (L : Nat) (a1 : Nat) (a2 : Nat) (a3 : Int) (s : hh_Sv) : ga_begin L a1 a2 a3 s =
  if 0 < a1 then
  if 0 < a2 then
  if 0 ≤ 0 ∧ 0 < 9 then
  (as_clear L 52 (up (up (up (up (up s 38 1 ((a1 : Nat) : Int)) 38 2 ((a2 : Nat) : Int)) 38 0 a3) 38 3 9) 38 4 0)).bind (fun r1 =>
  if 0 ≤ 0 ∧ 0 < 9 then
  (as_clear L 53 r1.2.2).bind (fun r2 =>
  ok L 0 r2.2.2)
  else none)
  else none
  else none
  else none :=
  (hh_Ev_eq pb_ga_begin).trans rfl
set_option maxRecDepth 20000 in
theorem ga_giveAt_eq (L : Nat) (a1 : Int) (a2 : Int) (s : hh_Sv) : ga_giveAt L a1 a2 s =
  ok L 0 (up (up s 38 3 a1) 38 4 a2) :=
  (hh_Ev_eq pb_ga_giveAt).trans rfl
set_option maxRecDepth 20000 in
theorem ru_holds_eq (L : Nat) (a0 : Nat) (a1 : Int) (a2 : Nat) (s : hh_Sv) : ru_holds L a0 a1 a2 s =
  if w32 a1 = 0 then
    ru_holds_b2 L a0 a1 a2 1 0 s
  else
    if kd L a0 = 26 then
    if kd L (pf L a0 6) = 0 then
    if 0 ≤ a1 - 1 ∧ a1 - 1 < (ln L (pf L a0 6) : Int) then
    ru_holds_b2 L a0 a1 a2 1 (s (pf L a0 6) ((a1 - 1).toNat)) s
    else none
    else none
    else none :=
  (hh_Ev_eq pb_ru_holds).trans rfl
set_option maxRecDepth 20000 in
theorem ru_holds_b2_eq (L : Nat) (l0 : Nat) (l1 : Int) (l2 : Nat) (l3 : Int) (k0 : Int) (s : hh_Sv) : ru_holds_b2 L l0 l1 l2 l3 k0 s =
  ru_holds_b3 L l0 l1 l2 l3 k0 s :=
  (hh_Ev_eq pb_ru_holds).trans rfl
set_option maxRecDepth 20000 in
theorem ru_holds_b3_eq (L : Nat) (l0 : Nat) (l1 : Int) (l2 : Nat) (l3 : Int) (l5 : Int) (s : hh_Sv) : ru_holds_b3 L l0 l1 l2 l3 l5 s =
  if kd L l0 = 26 then
  if kd L (pf L l0 6) = 0 then
  if 0 ≤ l1 ∧ l1 < (ln L (pf L l0 6) : Int) then
  if w32 l5 < w32 (s (pf L l0 6) l1.toNat) then
    if kd L l0 = 26 then
    if kd L (pf L l0 7) = 0 then
    if 0 ≤ l5 ∧ l5 < (ln L (pf L l0 7) : Int) then
    if w32 (s (pf L l0 7) l5.toNat) = 20 then
      ru_holds_b3 L l0 l1 l2 (bXor l3 1) (l5 + 1) s
    else
      if w32 (s (pf L l0 7) l5.toNat) = 18 then
        ru_holds_b3 L l0 l1 l2 (bAnd (lUshr l3 1) (bOr l3 (-2))) (l5 + 1) s
      else
        if w32 (s (pf L l0 7) l5.toNat) = 19 then
          ru_holds_b3 L l0 l1 l2 (bOr (lUshr l3 1) (bAnd l3 1)) (l5 + 1) s
        else
          if kd L l2 = 20 then
          (as_meets L l2 (s (pf L l0 7) l5.toNat) s).bind (fun r1 =>
          if w32 r1.1 = 0 then
            ru_holds_b8 L l0 l1 l2 l5 (lShl l3 1) 0 r1.2.2
          else
            ru_holds_b8 L l0 l1 l2 l5 (lShl l3 1) 1 r1.2.2)
          else none
    else none
    else none
    else none
  else
    if w32 (lCmp (bAnd l3 1) 1) = 0 then
      ok L 1 s
    else
      ok L 0 s
  else none
  else none
  else none :=
  ((hh_Ev_eq pb_ru_holds).trans (show _ = (
  if kd L l0 = 26 then
  if kd L (pf L l0 6) = 0 then
  if 0 ≤ l1 ∧ l1 < (ln L (pf L l0 6) : Int) then
  if w32 l5 < w32 (s (pf L l0 6) l1.toNat) then
    if kd L l0 = 26 then
    if kd L (pf L l0 7) = 0 then
    if 0 ≤ l5 ∧ l5 < (ln L (pf L l0 7) : Int) then
    if w32 (s (pf L l0 7) l5.toNat) = w32 20 then
      ru_holds_b3 L l0 l1 l2 (bXor l3 1) (l5 + 1) s
    else
      if w32 (s (pf L l0 7) l5.toNat) = w32 18 then
        ru_holds_b3 L l0 l1 l2 (bAnd (lUshr l3 1) (bOr l3 (-2))) (l5 + 1) s
      else
        if w32 (s (pf L l0 7) l5.toNat) = w32 19 then
          ru_holds_b3 L l0 l1 l2 (bOr (lUshr l3 1) (bAnd l3 1)) (l5 + 1) s
        else
          if kd L l2 = 20 then
          (as_meets L l2 (s (pf L l0 7) l5.toNat) s).bind (fun r1 =>
          if w32 r1.1 = 0 then
            ru_holds_b8 L l0 l1 l2 l5 (lShl l3 1) 0 r1.2.2
          else
            ru_holds_b8 L l0 l1 l2 l5 (lShl l3 1) 1 r1.2.2)
          else none
    else none
    else none
    else none
  else
    if w32 (lCmp (bAnd l3 1) 1) = 0 then
      ok L 1 s
    else
      ok L 0 s
  else none
  else none
  else none) from rfl)).trans (by simp only [k32_18, k32_19, k32_20])
set_option maxRecDepth 20000 in
theorem ru_holds_b8_eq (L : Nat) (l0 : Nat) (l1 : Int) (l2 : Nat) (l5 : Int) (k0 : Int) (k1 : Int) (s : hh_Sv) : ru_holds_b8 L l0 l1 l2 l5 k0 k1 s =
  ru_holds_b3 L l0 l1 l2 (bOr k0 (w32 k1)) (l5 + 1) s :=
  (hh_Ev_eq pb_ru_holds).trans rfl
set_option maxRecDepth 20000 in
theorem ru_firstOf_eq (L : Nat) (a0 : Nat) (a1 : Int) (a2 : Nat) (a3 : Int) (s : hh_Sv) : ru_firstOf L a0 a1 a2 a3 s =
  ru_firstOf_b1 L a0 a1 a2 a3 0 s :=
  (hh_Ev_eq pb_ru_firstOf).trans rfl
set_option maxRecDepth 20000 in
theorem ru_firstOf_b1_eq (L : Nat) (l0 : Nat) (l1 : Int) (l2 : Nat) (l3 : Int) (l4 : Int) (s : hh_Sv) : ru_firstOf_b1 L l0 l1 l2 l3 l4 s =
  if kd L l0 = 26 then
  if w32 l4 < w32 (s l0 0) then
    if kd L l0 = 26 then
    if kd L (pf L l0 4) = 0 then
    if 0 ≤ l4 ∧ l4 < (ln L (pf L l0 4) : Int) then
    if w32 (s (pf L l0 4) l4.toNat) = w32 l1 then
      if kd L l0 = 26 then
      (ru_holds L l0 l4 l2 s).bind (fun r1 =>
      if w32 r1.1 = 0 then
        ru_firstOf_b1 L l0 l1 l2 l3 (l4 + 1) r1.2.2
      else
        if kd L l0 = 26 then
        if kd L (pf L l0 5) = 0 then
        if 0 ≤ l4 ∧ l4 < (ln L (pf L l0 5) : Int) then
        ok L (r1.2.2 (pf L l0 5) l4.toNat) r1.2.2
        else none
        else none
        else none)
      else none
    else
      ru_firstOf_b1 L l0 l1 l2 l3 (l4 + 1) s
    else none
    else none
    else none
  else
    ok L l3 s
  else none :=
  (hh_Ev_eq pb_ru_firstOf).trans rfl
set_option maxRecDepth 20000 in
theorem ru_aim_eq (L : Nat) (a0 : Nat) (a1 : Nat) (s : hh_Sv) : ru_aim L a0 a1 s =
  if kd L a1 = 20 then
  if 8 ≤ a1 then
  if kd L a1 = 20 then
  if 8 ≤ a1 then
  if kd L a0 = 26 then
  (ru_firstOf L a0 3 a1 0 (up (up s a1 5 0) a1 6 0)).bind (fun r1 =>
  if kd L a1 = 20 then
  if 8 ≤ a1 then
  if kd L a0 = 26 then
  (ru_firstOf L a0 4 a1 0 (up r1.2.2 a1 5 r1.1)).bind (fun r2 =>
  if kd L a1 = 20 then
  if 8 ≤ a1 then
  ok L 0 (up r2.2.2 a1 6 r2.1)
  else none
  else none)
  else none
  else none
  else none)
  else none
  else none
  else none
  else none
  else none :=
  (hh_Ev_eq pb_ru_aim).trans rfl
set_option maxRecDepth 20000 in
theorem jma_min_eq (L : Nat) (a0 : Int) (a1 : Int) (s : hh_Sv) : jma_min L a0 a1 s =
  if w32 a1 < w32 a0 then
    ok L a1 s
  else
    ok L a0 s :=
  (hh_Ev_eq pb_jma_min).trans rfl
set_option maxRecDepth 20000 in
theorem ru_chanceOf_eq (L : Nat) (a0 : Nat) (a1 : Nat) (s : hh_Sv) : ru_chanceOf L a0 a1 s =
  if kd L a0 = 26 then
  (ru_firstOf L a0 0 a1 50 s).bind (fun r1 =>
  if kd L a0 = 26 then
  if kd L a1 = 20 then
  if kd L a0 = 26 then
  if kd L a1 = 20 then
  (jma_min L 100 ((r1.1 - ((r1.2.2 a0 1) * (r1.2.2 a1 5))) - ((r1.2.2 a0 2) * (r1.2.2 a1 6))) r1.2.2).bind (fun r2 =>
  (jma_max L 0 r2.1 r2.2.2).bind (fun r3 =>
  ok L r3.1 r3.2.2))
  else none
  else none
  else none
  else none)
  else none :=
  (hh_Ev_eq pb_ru_chanceOf).trans rfl
set_option maxRecDepth 20000 in
theorem ga_aimAt_eq (L : Nat) (a1 : Int) (s : hh_Sv) : ga_aimAt L a1 s =
  if 0 ≤ a1 ∧ a1 < 9 then
  if kd L (pf L 49 a1.toNat) = 20 then
  if w32 (s (pf L 49 a1.toNat) 0) < w32 (s 38 3) then
    ga_aimAt_b2 L a1 0 s
  else
    ga_aimAt_b2 L a1 1 s
  else none
  else none :=
  (hh_Ev_eq pb_ga_aimAt).trans rfl
set_option maxRecDepth 20000 in
theorem ga_aimAt_b2_eq (L : Nat) (l1 : Int) (k0 : Int) (s : hh_Sv) : ga_aimAt_b2 L l1 k0 s =
  if w32 k0 = 0 then
    if w32 (tMod (w32 l1) 2) = 0 then
      ga_aimAt_b5 L l1 k0 l1 1 s
    else
      ga_aimAt_b5 L l1 k0 l1 0 s
  else
    ga_aimAt_b5 L l1 k0 l1 1 s :=
  ((hh_Ev_eq pb_ga_aimAt).trans (show _ = (
  if w32 k0 = 0 then
    if w32 2 = 0 then none else
    if w32 (tMod (w32 l1) (w32 2)) = 0 then
      ga_aimAt_b5 L l1 k0 l1 1 s
    else
      ga_aimAt_b5 L l1 k0 l1 0 s
  else
    ga_aimAt_b5 L l1 k0 l1 1 s) from rfl)).trans (by simp only [k32_2, kz_2, if_false, if_true])
set_option maxRecDepth 20000 in
theorem ga_aimAt_b5_eq (L : Nat) (l1 : Int) (l2 : Int) (k1 : Int) (k2 : Int) (s : hh_Sv) : ga_aimAt_b5 L l1 l2 k1 k2 s =
  if 0 ≤ k1 ∧ k1 < 8 then
  if k2 = 0 ∨ k2 = 1 then
  if 0 ≤ l1 ∧ l1 < 8 then
  if w32 ((up s 51 k1.toNat k2) 51 l1.toNat) = 0 then
    if 0 ≤ l1 ∧ l1 < 9 then
    ga_aimAt_b7 L l1 l2 (pf L 50 l1.toNat) (up s 51 k1.toNat k2)
    else none
  else
    if 0 ≤ l1 ∧ l1 < 9 then
    ga_aimAt_b7 L l1 l2 (pf L 49 l1.toNat) (up s 51 k1.toNat k2)
    else none
  else none
  else none
  else none :=
  (hh_Ev_eq pb_ga_aimAt).trans rfl
set_option maxRecDepth 20000 in
theorem ga_aimAt_b7_eq (L : Nat) (l1 : Int) (l2 : Int) (k0 : Nat) (s : hh_Sv) : ga_aimAt_b7 L l1 l2 k0 s =
  if 0 ≤ l1 ∧ l1 < 8 then
  if w32 (s 51 l1.toNat) = 0 then
    ga_aimAt_b9 L l2 k0 ((s 38 2).toNat) s
  else
    ga_aimAt_b9 L l2 k0 ((s 38 1).toNat) s
  else none :=
  (hh_Ev_eq pb_ga_aimAt).trans rfl
set_option maxRecDepth 20000 in
theorem ga_aimAt_b9_eq (L : Nat) (l2 : Int) (l3 : Nat) (k0 : Nat) (s : hh_Sv) : ga_aimAt_b9 L l2 l3 k0 s =
  if kd L k0 = 26 then
  (ru_aim L k0 l3 s).bind (fun r1 =>
  if w32 l2 = 0 then
    ga_aimAt_b10 L l3 k0 r1.2.2
  else
    if kd L l3 = 20 then
    (jma_min L 3 ((r1.2.2 l3 6) + (r1.2.2 38 4)) r1.2.2).bind (fun r2 =>
    if kd L l3 = 20 then
    if 8 ≤ l3 then
    ga_aimAt_b10 L l3 k0 (up r2.2.2 l3 6 r2.1)
    else none
    else none)
    else none)
  else none :=
  (hh_Ev_eq pb_ga_aimAt).trans rfl
set_option maxRecDepth 20000 in
theorem ga_aimAt_b10_eq (L : Nat) (l3 : Nat) (l4 : Nat) (s : hh_Sv) : ga_aimAt_b10 L l3 l4 s =
  if kd L l4 = 26 then
  (ru_chanceOf L l4 l3 s).bind (fun r1 =>
  ok L r1.1 r1.2.2)
  else none :=
  (hh_Ev_eq pb_ga_aimAt).trans rfl
set_option maxRecDepth 20000 in
theorem ru_goOn_eq (L : Nat) (a0 : Nat) (a1 : Nat) (a2 : Int) (s : hh_Sv) : ru_goOn L a0 a1 a2 s =
  if kd L a1 = 20 then
  (as_add L a1 a2 s).bind (fun r1 =>
  if kd L a1 = 20 then
  if kd L a0 = 26 then
  (ru_firstOf L a0 5 a1 (r1.2.2 a1 2) r1.2.2).bind (fun r2 =>
  if kd L a1 = 20 then
  if 8 ≤ a1 then
  ok L 0 (up r2.2.2 a1 2 r2.1)
  else none
  else none)
  else none
  else none)
  else none :=
  (hh_Ev_eq pb_ru_goOn).trans rfl
set_option maxRecDepth 20000 in
theorem ga_follow_eq (L : Nat) (a1 : Int) (a2 : Int) (s : hh_Sv) : ga_follow L a1 a2 s =
  if 0 ≤ a1 + 1 ∧ a1 + 1 < 9 then
  if 0 ≤ a1 ∧ a1 < 9 then
  if kd L (pf L 49 ((a1 + 1).toNat)) = 20 then
  (as_copy L (pf L 49 ((a1 + 1).toNat)) (pf L 49 a1.toNat) s).bind (fun r1 =>
  if 0 ≤ a1 + 1 ∧ a1 + 1 < 9 then
  if 0 ≤ a1 ∧ a1 < 9 then
  if kd L (pf L 50 ((a1 + 1).toNat)) = 20 then
  (as_copy L (pf L 50 ((a1 + 1).toNat)) (pf L 50 a1.toNat) r1.2.2).bind (fun r2 =>
  if 0 ≤ a1 ∧ a1 < 8 then
  if w32 (r2.2.2 51 a1.toNat) = 0 then
    if 0 ≤ a1 + 1 ∧ a1 + 1 < 9 then
    if kd L ((r2.2.2 38 2).toNat) = 26 then
    (ru_goOn L ((r2.2.2 38 2).toNat) (pf L 50 ((a1 + 1).toNat)) a2 r2.2.2).bind (fun r3 =>
    ok L 0 r3.2.2)
    else none
    else none
  else
    if 0 ≤ a1 + 1 ∧ a1 + 1 < 9 then
    if kd L ((r2.2.2 38 1).toNat) = 26 then
    (ru_goOn L ((r2.2.2 38 1).toNat) (pf L 49 ((a1 + 1).toNat)) a2 r2.2.2).bind (fun r4 =>
    ok L 0 r4.2.2)
    else none
    else none
  else none)
  else none
  else none
  else none)
  else none
  else none
  else none :=
  (hh_Ev_eq pb_ga_follow).trans rfl
set_option maxRecDepth 20000 in
theorem hx_longestOf_eq (L : Nat) (a0 : Int) (s : hh_Sv) : hx_longestOf L a0 s =
  hx_longestOf_b1 L 0 a0 s :=
  (hh_Ev_eq pb_hx_longestOf).trans rfl
set_option maxRecDepth 20000 in
theorem hx_longestOf_b1_eq (L : Nat) (l1 : Int) (l2 : Int) (s : hh_Sv) : hx_longestOf_b1 L l1 l2 s =
  if w32 l2 = 0 then
    ok L l1 s
  else
    if w32 l1 < 24 then
      hx_longestOf_b1 L (l1 + 1) (bAnd l2 (iShl l2 1)) s
    else
      ok L l1 s :=
  ((hh_Ev_eq pb_hx_longestOf).trans (show _ = (
  if w32 l2 = 0 then
    ok L l1 s
  else
    if w32 l1 < w32 24 then
      hx_longestOf_b1 L (l1 + 1) (bAnd l2 (iShl l2 1)) s
    else
      ok L l1 s) from rfl)).trans (by simp only [k32_24])
set_option maxRecDepth 20000 in
theorem me_termOf_eq (L : Nat) (a0 : Nat) (a1 : Int) (a2 : Int) (a3 : Int) (a4 : Int) (s : hh_Sv) : me_termOf L a0 a1 a2 a3 a4 s =
  if kd L a0 = 24 then
  if kd L (pf L a0 3) = 2 then
  if 0 ≤ a1 ∧ a1 < (ln L (pf L a0 3) : Int) then
  (hx_ofBits L a2 a3 (s (pf L a0 3) a1.toNat) s).bind (fun r1 =>
  if kd L a0 = 24 then
  if kd L (pf L a0 2) = 0 then
  if 0 ≤ a1 ∧ a1 < (ln L (pf L a0 2) : Int) then
  if w32 (r1.2.2 (pf L a0 2) a1.toNat) = 9 then
    (jin_bitCount L a2 r1.2.2).bind (fun r11 =>
    ok L (a4 * (w32 r11.1)) r11.2.2)
  else
    if w32 (r1.2.2 (pf L a0 2) a1.toNat) = 10 then
      if 0 < w32 a3 then
        if w64 (w32 a3) = 0 then none else
        (jin_bitCount L a2 r1.2.2).bind (fun r10 =>
        ok L ((tDiv (w64 a4) (w64 (w32 a3))) * (w32 r10.1)) r10.2.2)
      else
        ok L (-9000000000000000000) r1.2.2
    else
      if w32 (r1.2.2 (pf L a0 2) a1.toNat) = 11 then
        (jin_bitCount L (bOr (bAnd (bXor a2 (iShl a2 1)) ((iShl 1 a3) - 1)) 1) r1.2.2).bind (fun r9 =>
        ok L (a4 * (w32 r9.1)) r9.2.2)
      else
        if w32 (r1.2.2 (pf L a0 2) a1.toNat) = 12 then
          if kd L a0 = 24 then
          if kd L (pf L a0 3) = 2 then
          if 0 ≤ a1 ∧ a1 < (ln L (pf L a0 3) : Int) then
          if kd L a0 = 24 then
          if kd L (pf L a0 5) = 0 then
          if 0 ≤ a1 ∧ a1 < (ln L (pf L a0 5) : Int) then
          (hx_behindBits L a2 a3 (r1.2.2 (pf L a0 3) a1.toNat) (r1.2.2 (pf L a0 5) a1.toNat) r1.2.2).bind (fun r6 =>
          (jin_bitCount L r6.1 r6.2.2).bind (fun r7 =>
          if w32 r7.1 = 0 then
            ok L (-9000000000000000000) r7.2.2
          else
            if w64 (w32 r7.1) = 0 then none else
            (jin_bitCount L (bAnd r6.1 a2) r7.2.2).bind (fun r8 =>
            ok L ((tDiv (w64 a4) (w64 (w32 r7.1))) * (w32 r8.1)) r8.2.2)))
          else none
          else none
          else none
          else none
          else none
          else none
        else
          if w32 (r1.2.2 (pf L a0 2) a1.toNat) = 13 then
            (hx_longestOf L r1.1 r1.2.2).bind (fun r5 =>
            ok L (a4 * (w32 r5.1)) r5.2.2)
          else
            if w32 (r1.2.2 (pf L a0 2) a1.toNat) = 14 then
              if kd L a0 = 24 then
              if kd L (pf L a0 4) = 2 then
              if 0 ≤ a1 ∧ a1 < (ln L (pf L a0 4) : Int) then
              (hx_ofBits L a2 a3 (r1.2.2 (pf L a0 4) a1.toNat) r1.2.2).bind (fun r3 =>
              (jin_bitCount L (bAnd (iShl r1.1 1) r3.1) r3.2.2).bind (fun r4 =>
              ok L (a4 * (w32 r4.1)) r4.2.2))
              else none
              else none
              else none
            else
              if w32 r1.1 = 0 then
                ok L 0 r1.2.2
              else
                (jin_bitCount L ((bAnd r1.1 (-r1.1)) - 1) r1.2.2).bind (fun r2 =>
                ok L (a4 * (w32 (r2.1 + 1))) r2.2.2)
  else none
  else none
  else none)
  else none
  else none
  else none :=
  (hh_Ev_eq pb_me_termOf).trans rfl
set_option maxRecDepth 20000 in
theorem me_reckon_eq (L : Nat) (a0 : Nat) (a1 : Int) (a2 : Int) (a3 : Int) (s : hh_Sv) : me_reckon L a0 a1 a2 a3 s =
  if 0 < w32 a2 then
    me_reckon_b2 L a0 a1 a2 a3 0 0 s
  else
    ok L (-9000000000000000000) s :=
  (hh_Ev_eq pb_me_reckon).trans rfl
set_option maxRecDepth 20000 in
theorem me_reckon_b2_eq (L : Nat) (l0 : Nat) (l1 : Int) (l2 : Int) (l3 : Int) (l5 : Int) (l7 : Int) (s : hh_Sv) : me_reckon_b2 L l0 l1 l2 l3 l5 l7 s =
  if kd L l0 = 24 then
  if w32 l7 < w32 (s l0 0) then
    if kd L l0 = 24 then
    (me_termOf L l0 l7 l1 l2 l3 s).bind (fun r1 =>
    if w32 (lCmp r1.1 (-9000000000000000000)) = 0 then
      ok L (-9000000000000000000) r1.2.2
    else
      if kd L l0 = 24 then
      if kd L (pf L l0 1) = 0 then
      if 0 ≤ l7 ∧ l7 < (ln L (pf L l0 1) : Int) then
      me_reckon_b2 L l0 l1 l2 l3 (l5 + ((w32 (r1.2.2 (pf L l0 1) l7.toNat)) * r1.1)) (l7 + 1) r1.2.2
      else none
      else none
      else none)
    else none
  else
    ok L l5 s
  else none :=
  (hh_Ev_eq pb_me_reckon).trans rfl
set_option maxRecDepth 20000 in
theorem le_reckon_eq (L : Nat) (a1 : Nat) (a2 : Int) (a3 : Int) (s : hh_Sv) : le_reckon L a1 a2 a3 s =
  if 0 ≤ 0 ∧ 0 < 13 then
  le_reckon_b1 L a1 a2 a3 0 (up s 31 0 1)
  else none :=
  (hh_Ev_eq pb_le_reckon).trans rfl
set_option maxRecDepth 20000 in
theorem le_reckon_b1_eq (L : Nat) (l1 : Nat) (l2 : Int) (l3 : Int) (l4 : Int) (s : hh_Sv) : le_reckon_b1 L l1 l2 l3 l4 s =
  if w32 l4 < w32 l2 then
    if 0 ≤ 0 ∧ 0 < 13 then
    if 0 ≤ 0 ∧ 0 < 13 then
    le_reckon_b1 L l1 l2 l3 (l4 + 1) (up s 31 0 ((s 31 0) * (w32 (10 - l3))))
    else none
    else none
  else
    le_reckon_b3 L l1 l2 l3 1 s :=
  (hh_Ev_eq pb_le_reckon).trans rfl
set_option maxRecDepth 20000 in
theorem le_reckon_b3_eq (L : Nat) (l1 : Nat) (l2 : Int) (l3 : Int) (l4 : Int) (s : hh_Sv) : le_reckon_b3 L l1 l2 l3 l4 s =
  if w32 l2 < w32 l4 then
    le_reckon_b5 L l1 l2 0 (up (up s 30 0 0) 30 1 0)
  else
    if 0 ≤ l4 - 1 ∧ l4 - 1 < 13 then
    (jma_max L 1 (10 - l3) s).bind (fun r1 =>
    if w64 (w32 r1.1) = 0 then none else
    if 0 ≤ l4 ∧ l4 < 13 then
    le_reckon_b3 L l1 l2 l3 (l4 + 1) (up r1.2.2 31 l4.toNat ((tDiv (w64 (s 31 ((l4 - 1).toNat))) (w64 (w32 r1.1))) * (w32 l3)))
    else none)
    else none :=
  (hh_Ev_eq pb_le_reckon).trans rfl
set_option maxRecDepth 20000 in
theorem le_reckon_b5_eq (L : Nat) (l1 : Nat) (l2 : Int) (l4 : Int) (s : hh_Sv) : le_reckon_b5 L l1 l2 l4 s =
  if w32 l4 < w32 (iShl 1 l2) then
    if kd L l1 = 24 then
    (me_reckon L l1 l4 l2 27720 s).bind (fun r1 =>
    if w32 (lCmp r1.1 (-9000000000000000000)) = 0 then
      le_reckon_b5 L l1 l2 (l4 + 1) r1.2.2
    else
      (jin_bitCount L l4 r1.2.2).bind (fun r2 =>
      if 0 ≤ r2.1 ∧ r2.1 < 13 then
      le_reckon_b5 L l1 l2 (l4 + 1) (up (up r2.2.2 30 0 ((r2.2.2 30 0) + (r1.1 * (r2.2.2 31 r2.1.toNat)))) 30 1 ((r2.2.2 30 1) + (r2.2.2 31 r2.1.toNat)))
      else none))
    else none
  else
    ok L 0 s :=
  (hh_Ev_eq pb_le_reckon).trans rfl
set_option maxRecDepth 20000 in
theorem me_clear_eq (L : Nat) (a0 : Nat) (s : hh_Sv) : me_clear L a0 s =
  if kd L a0 = 24 then
  if 8 ≤ a0 then
  ok L 0 (up s a0 0 0)
  else none
  else none :=
  (hh_Ev_eq pb_me_clear).trans rfl
set_option maxRecDepth 20000 in
theorem me_add_eq (L : Nat) (a0 : Nat) (a1 : Int) (a2 : Int) (a3 : Int) (a4 : Int) (a5 : Int) (s : hh_Sv) : me_add L a0 a1 a2 a3 a4 a5 s =
  if kd L a0 = 24 then
  if w32 (s a0 0) < 4 then
    if kd L a0 = 24 then
    if kd L a0 = 24 then
    if kd L (pf L a0 2) = 0 then
    if 8 ≤ pf L a0 2 then
    if 0 ≤ s a0 0 ∧ s a0 0 < (ln L (pf L a0 2) : Int) then
    if kd L a0 = 24 then
    if kd L a0 = 24 then
    if kd L (pf L a0 1) = 0 then
    if 8 ≤ pf L a0 1 then
    if 0 ≤ (up s (pf L a0 2) ((s a0 0).toNat) a1) a0 0 ∧ (up s (pf L a0 2) ((s a0 0).toNat) a1) a0 0 < (ln L (pf L a0 1) : Int) then
    if kd L a0 = 24 then
    if kd L a0 = 24 then
    if kd L (pf L a0 3) = 2 then
    if 8 ≤ pf L a0 3 then
    if 0 ≤ (up (up s (pf L a0 2) ((s a0 0).toNat) a1) (pf L a0 1) (((up s (pf L a0 2) ((s a0 0).toNat) a1) a0 0).toNat) a2) a0 0 ∧ (up (up s (pf L a0 2) ((s a0 0).toNat) a1) (pf L a0 1) (((up s (pf L a0 2) ((s a0 0).toNat) a1) a0 0).toNat) a2) a0 0 < (ln L (pf L a0 3) : Int) then
    if a3 = 0 ∨ a3 = 1 then
    if kd L a0 = 24 then
    if kd L a0 = 24 then
    if kd L (pf L a0 4) = 2 then
    if 8 ≤ pf L a0 4 then
    if 0 ≤ (up (up (up s (pf L a0 2) ((s a0 0).toNat) a1) (pf L a0 1) (((up s (pf L a0 2) ((s a0 0).toNat) a1) a0 0).toNat) a2) (pf L a0 3) (((up (up s (pf L a0 2) ((s a0 0).toNat) a1) (pf L a0 1) (((up s (pf L a0 2) ((s a0 0).toNat) a1) a0 0).toNat) a2) a0 0).toNat) a3) a0 0 ∧ (up (up (up s (pf L a0 2) ((s a0 0).toNat) a1) (pf L a0 1) (((up s (pf L a0 2) ((s a0 0).toNat) a1) a0 0).toNat) a2) (pf L a0 3) (((up (up s (pf L a0 2) ((s a0 0).toNat) a1) (pf L a0 1) (((up s (pf L a0 2) ((s a0 0).toNat) a1) a0 0).toNat) a2) a0 0).toNat) a3) a0 0 < (ln L (pf L a0 4) : Int) then
    if a4 = 0 ∨ a4 = 1 then
    if kd L a0 = 24 then
    if kd L a0 = 24 then
    if kd L (pf L a0 5) = 0 then
    if 8 ≤ pf L a0 5 then
    if 0 ≤ (up (up (up (up s (pf L a0 2) ((s a0 0).toNat) a1) (pf L a0 1) (((up s (pf L a0 2) ((s a0 0).toNat) a1) a0 0).toNat) a2) (pf L a0 3) (((up (up s (pf L a0 2) ((s a0 0).toNat) a1) (pf L a0 1) (((up s (pf L a0 2) ((s a0 0).toNat) a1) a0 0).toNat) a2) a0 0).toNat) a3) (pf L a0 4) (((up (up (up s (pf L a0 2) ((s a0 0).toNat) a1) (pf L a0 1) (((up s (pf L a0 2) ((s a0 0).toNat) a1) a0 0).toNat) a2) (pf L a0 3) (((up (up s (pf L a0 2) ((s a0 0).toNat) a1) (pf L a0 1) (((up s (pf L a0 2) ((s a0 0).toNat) a1) a0 0).toNat) a2) a0 0).toNat) a3) a0 0).toNat) a4) a0 0 ∧ (up (up (up (up s (pf L a0 2) ((s a0 0).toNat) a1) (pf L a0 1) (((up s (pf L a0 2) ((s a0 0).toNat) a1) a0 0).toNat) a2) (pf L a0 3) (((up (up s (pf L a0 2) ((s a0 0).toNat) a1) (pf L a0 1) (((up s (pf L a0 2) ((s a0 0).toNat) a1) a0 0).toNat) a2) a0 0).toNat) a3) (pf L a0 4) (((up (up (up s (pf L a0 2) ((s a0 0).toNat) a1) (pf L a0 1) (((up s (pf L a0 2) ((s a0 0).toNat) a1) a0 0).toNat) a2) (pf L a0 3) (((up (up s (pf L a0 2) ((s a0 0).toNat) a1) (pf L a0 1) (((up s (pf L a0 2) ((s a0 0).toNat) a1) a0 0).toNat) a2) a0 0).toNat) a3) a0 0).toNat) a4) a0 0 < (ln L (pf L a0 5) : Int) then
    if kd L a0 = 24 then
    if kd L a0 = 24 then
    if 8 ≤ a0 then
    ok L 0 (up (up (up (up (up (up s (pf L a0 2) ((s a0 0).toNat) a1) (pf L a0 1) (((up s (pf L a0 2) ((s a0 0).toNat) a1) a0 0).toNat) a2) (pf L a0 3) (((up (up s (pf L a0 2) ((s a0 0).toNat) a1) (pf L a0 1) (((up s (pf L a0 2) ((s a0 0).toNat) a1) a0 0).toNat) a2) a0 0).toNat) a3) (pf L a0 4) (((up (up (up s (pf L a0 2) ((s a0 0).toNat) a1) (pf L a0 1) (((up s (pf L a0 2) ((s a0 0).toNat) a1) a0 0).toNat) a2) (pf L a0 3) (((up (up s (pf L a0 2) ((s a0 0).toNat) a1) (pf L a0 1) (((up s (pf L a0 2) ((s a0 0).toNat) a1) a0 0).toNat) a2) a0 0).toNat) a3) a0 0).toNat) a4) (pf L a0 5) (((up (up (up (up s (pf L a0 2) ((s a0 0).toNat) a1) (pf L a0 1) (((up s (pf L a0 2) ((s a0 0).toNat) a1) a0 0).toNat) a2) (pf L a0 3) (((up (up s (pf L a0 2) ((s a0 0).toNat) a1) (pf L a0 1) (((up s (pf L a0 2) ((s a0 0).toNat) a1) a0 0).toNat) a2) a0 0).toNat) a3) (pf L a0 4) (((up (up (up s (pf L a0 2) ((s a0 0).toNat) a1) (pf L a0 1) (((up s (pf L a0 2) ((s a0 0).toNat) a1) a0 0).toNat) a2) (pf L a0 3) (((up (up s (pf L a0 2) ((s a0 0).toNat) a1) (pf L a0 1) (((up s (pf L a0 2) ((s a0 0).toNat) a1) a0 0).toNat) a2) a0 0).toNat) a3) a0 0).toNat) a4) a0 0).toNat) a5) a0 0 (((up (up (up (up (up s (pf L a0 2) ((s a0 0).toNat) a1) (pf L a0 1) (((up s (pf L a0 2) ((s a0 0).toNat) a1) a0 0).toNat) a2) (pf L a0 3) (((up (up s (pf L a0 2) ((s a0 0).toNat) a1) (pf L a0 1) (((up s (pf L a0 2) ((s a0 0).toNat) a1) a0 0).toNat) a2) a0 0).toNat) a3) (pf L a0 4) (((up (up (up s (pf L a0 2) ((s a0 0).toNat) a1) (pf L a0 1) (((up s (pf L a0 2) ((s a0 0).toNat) a1) a0 0).toNat) a2) (pf L a0 3) (((up (up s (pf L a0 2) ((s a0 0).toNat) a1) (pf L a0 1) (((up s (pf L a0 2) ((s a0 0).toNat) a1) a0 0).toNat) a2) a0 0).toNat) a3) a0 0).toNat) a4) (pf L a0 5) (((up (up (up (up s (pf L a0 2) ((s a0 0).toNat) a1) (pf L a0 1) (((up s (pf L a0 2) ((s a0 0).toNat) a1) a0 0).toNat) a2) (pf L a0 3) (((up (up s (pf L a0 2) ((s a0 0).toNat) a1) (pf L a0 1) (((up s (pf L a0 2) ((s a0 0).toNat) a1) a0 0).toNat) a2) a0 0).toNat) a3) (pf L a0 4) (((up (up (up s (pf L a0 2) ((s a0 0).toNat) a1) (pf L a0 1) (((up s (pf L a0 2) ((s a0 0).toNat) a1) a0 0).toNat) a2) (pf L a0 3) (((up (up s (pf L a0 2) ((s a0 0).toNat) a1) (pf L a0 1) (((up s (pf L a0 2) ((s a0 0).toNat) a1) a0 0).toNat) a2) a0 0).toNat) a3) a0 0).toNat) a4) a0 0).toNat) a5) a0 0) + 1))
    else none
    else none
    else none
    else none
    else none
    else none
    else none
    else none
    else none
    else none
    else none
    else none
    else none
    else none
    else none
    else none
    else none
    else none
    else none
    else none
    else none
    else none
    else none
    else none
    else none
    else none
    else none
    else none
    else none
    else none
  else
    ok L 0 s
  else none :=
  ((hh_Ev_eq pb_me_add).trans (show _ = (
  if kd L a0 = 24 then
  if w32 (s a0 0) < w32 4 then
    if kd L a0 = 24 then
    if kd L a0 = 24 then
    if kd L (pf L a0 2) = 0 then
    if 8 ≤ pf L a0 2 then
    if 0 ≤ s a0 0 ∧ s a0 0 < (ln L (pf L a0 2) : Int) then
    if kd L a0 = 24 then
    if kd L a0 = 24 then
    if kd L (pf L a0 1) = 0 then
    if 8 ≤ pf L a0 1 then
    if 0 ≤ (up s (pf L a0 2) ((s a0 0).toNat) a1) a0 0 ∧ (up s (pf L a0 2) ((s a0 0).toNat) a1) a0 0 < (ln L (pf L a0 1) : Int) then
    if kd L a0 = 24 then
    if kd L a0 = 24 then
    if kd L (pf L a0 3) = 2 then
    if 8 ≤ pf L a0 3 then
    if 0 ≤ (up (up s (pf L a0 2) ((s a0 0).toNat) a1) (pf L a0 1) (((up s (pf L a0 2) ((s a0 0).toNat) a1) a0 0).toNat) a2) a0 0 ∧ (up (up s (pf L a0 2) ((s a0 0).toNat) a1) (pf L a0 1) (((up s (pf L a0 2) ((s a0 0).toNat) a1) a0 0).toNat) a2) a0 0 < (ln L (pf L a0 3) : Int) then
    if a3 = 0 ∨ a3 = 1 then
    if kd L a0 = 24 then
    if kd L a0 = 24 then
    if kd L (pf L a0 4) = 2 then
    if 8 ≤ pf L a0 4 then
    if 0 ≤ (up (up (up s (pf L a0 2) ((s a0 0).toNat) a1) (pf L a0 1) (((up s (pf L a0 2) ((s a0 0).toNat) a1) a0 0).toNat) a2) (pf L a0 3) (((up (up s (pf L a0 2) ((s a0 0).toNat) a1) (pf L a0 1) (((up s (pf L a0 2) ((s a0 0).toNat) a1) a0 0).toNat) a2) a0 0).toNat) a3) a0 0 ∧ (up (up (up s (pf L a0 2) ((s a0 0).toNat) a1) (pf L a0 1) (((up s (pf L a0 2) ((s a0 0).toNat) a1) a0 0).toNat) a2) (pf L a0 3) (((up (up s (pf L a0 2) ((s a0 0).toNat) a1) (pf L a0 1) (((up s (pf L a0 2) ((s a0 0).toNat) a1) a0 0).toNat) a2) a0 0).toNat) a3) a0 0 < (ln L (pf L a0 4) : Int) then
    if a4 = 0 ∨ a4 = 1 then
    if kd L a0 = 24 then
    if kd L a0 = 24 then
    if kd L (pf L a0 5) = 0 then
    if 8 ≤ pf L a0 5 then
    if 0 ≤ (up (up (up (up s (pf L a0 2) ((s a0 0).toNat) a1) (pf L a0 1) (((up s (pf L a0 2) ((s a0 0).toNat) a1) a0 0).toNat) a2) (pf L a0 3) (((up (up s (pf L a0 2) ((s a0 0).toNat) a1) (pf L a0 1) (((up s (pf L a0 2) ((s a0 0).toNat) a1) a0 0).toNat) a2) a0 0).toNat) a3) (pf L a0 4) (((up (up (up s (pf L a0 2) ((s a0 0).toNat) a1) (pf L a0 1) (((up s (pf L a0 2) ((s a0 0).toNat) a1) a0 0).toNat) a2) (pf L a0 3) (((up (up s (pf L a0 2) ((s a0 0).toNat) a1) (pf L a0 1) (((up s (pf L a0 2) ((s a0 0).toNat) a1) a0 0).toNat) a2) a0 0).toNat) a3) a0 0).toNat) a4) a0 0 ∧ (up (up (up (up s (pf L a0 2) ((s a0 0).toNat) a1) (pf L a0 1) (((up s (pf L a0 2) ((s a0 0).toNat) a1) a0 0).toNat) a2) (pf L a0 3) (((up (up s (pf L a0 2) ((s a0 0).toNat) a1) (pf L a0 1) (((up s (pf L a0 2) ((s a0 0).toNat) a1) a0 0).toNat) a2) a0 0).toNat) a3) (pf L a0 4) (((up (up (up s (pf L a0 2) ((s a0 0).toNat) a1) (pf L a0 1) (((up s (pf L a0 2) ((s a0 0).toNat) a1) a0 0).toNat) a2) (pf L a0 3) (((up (up s (pf L a0 2) ((s a0 0).toNat) a1) (pf L a0 1) (((up s (pf L a0 2) ((s a0 0).toNat) a1) a0 0).toNat) a2) a0 0).toNat) a3) a0 0).toNat) a4) a0 0 < (ln L (pf L a0 5) : Int) then
    if kd L a0 = 24 then
    if kd L a0 = 24 then
    if 8 ≤ a0 then
    ok L 0 (up (up (up (up (up (up s (pf L a0 2) ((s a0 0).toNat) a1) (pf L a0 1) (((up s (pf L a0 2) ((s a0 0).toNat) a1) a0 0).toNat) a2) (pf L a0 3) (((up (up s (pf L a0 2) ((s a0 0).toNat) a1) (pf L a0 1) (((up s (pf L a0 2) ((s a0 0).toNat) a1) a0 0).toNat) a2) a0 0).toNat) a3) (pf L a0 4) (((up (up (up s (pf L a0 2) ((s a0 0).toNat) a1) (pf L a0 1) (((up s (pf L a0 2) ((s a0 0).toNat) a1) a0 0).toNat) a2) (pf L a0 3) (((up (up s (pf L a0 2) ((s a0 0).toNat) a1) (pf L a0 1) (((up s (pf L a0 2) ((s a0 0).toNat) a1) a0 0).toNat) a2) a0 0).toNat) a3) a0 0).toNat) a4) (pf L a0 5) (((up (up (up (up s (pf L a0 2) ((s a0 0).toNat) a1) (pf L a0 1) (((up s (pf L a0 2) ((s a0 0).toNat) a1) a0 0).toNat) a2) (pf L a0 3) (((up (up s (pf L a0 2) ((s a0 0).toNat) a1) (pf L a0 1) (((up s (pf L a0 2) ((s a0 0).toNat) a1) a0 0).toNat) a2) a0 0).toNat) a3) (pf L a0 4) (((up (up (up s (pf L a0 2) ((s a0 0).toNat) a1) (pf L a0 1) (((up s (pf L a0 2) ((s a0 0).toNat) a1) a0 0).toNat) a2) (pf L a0 3) (((up (up s (pf L a0 2) ((s a0 0).toNat) a1) (pf L a0 1) (((up s (pf L a0 2) ((s a0 0).toNat) a1) a0 0).toNat) a2) a0 0).toNat) a3) a0 0).toNat) a4) a0 0).toNat) a5) a0 0 (((up (up (up (up (up s (pf L a0 2) ((s a0 0).toNat) a1) (pf L a0 1) (((up s (pf L a0 2) ((s a0 0).toNat) a1) a0 0).toNat) a2) (pf L a0 3) (((up (up s (pf L a0 2) ((s a0 0).toNat) a1) (pf L a0 1) (((up s (pf L a0 2) ((s a0 0).toNat) a1) a0 0).toNat) a2) a0 0).toNat) a3) (pf L a0 4) (((up (up (up s (pf L a0 2) ((s a0 0).toNat) a1) (pf L a0 1) (((up s (pf L a0 2) ((s a0 0).toNat) a1) a0 0).toNat) a2) (pf L a0 3) (((up (up s (pf L a0 2) ((s a0 0).toNat) a1) (pf L a0 1) (((up s (pf L a0 2) ((s a0 0).toNat) a1) a0 0).toNat) a2) a0 0).toNat) a3) a0 0).toNat) a4) (pf L a0 5) (((up (up (up (up s (pf L a0 2) ((s a0 0).toNat) a1) (pf L a0 1) (((up s (pf L a0 2) ((s a0 0).toNat) a1) a0 0).toNat) a2) (pf L a0 3) (((up (up s (pf L a0 2) ((s a0 0).toNat) a1) (pf L a0 1) (((up s (pf L a0 2) ((s a0 0).toNat) a1) a0 0).toNat) a2) a0 0).toNat) a3) (pf L a0 4) (((up (up (up s (pf L a0 2) ((s a0 0).toNat) a1) (pf L a0 1) (((up s (pf L a0 2) ((s a0 0).toNat) a1) a0 0).toNat) a2) (pf L a0 3) (((up (up s (pf L a0 2) ((s a0 0).toNat) a1) (pf L a0 1) (((up s (pf L a0 2) ((s a0 0).toNat) a1) a0 0).toNat) a2) a0 0).toNat) a3) a0 0).toNat) a4) a0 0).toNat) a5) a0 0) + 1))
    else none
    else none
    else none
    else none
    else none
    else none
    else none
    else none
    else none
    else none
    else none
    else none
    else none
    else none
    else none
    else none
    else none
    else none
    else none
    else none
    else none
    else none
    else none
    else none
    else none
    else none
    else none
    else none
    else none
    else none
  else
    ok L 0 s
  else none) from rfl)).trans (by simp only [k32_4])
set_option maxRecDepth 20000 in
theorem re_put_eq (L : Nat) (a1 : Int) (s : hh_Sv) : re_put L a1 s =
  re_put_b1 L a1 24 s :=
  (hh_Ev_eq pb_re_put).trans rfl
set_option maxRecDepth 20000 in
theorem re_put_b1_eq (L : Nat) (l1 : Int) (l2 : Int) (s : hh_Sv) : re_put_b1 L l1 l2 s =
  if w32 l2 < 0 then
    ok L 0 s
  else
    if w32 (s 24 0) < 600 then
      if 0 ≤ s 24 0 ∧ s 24 0 < 600 then
      re_put_b1 L l1 (l2 + (-8)) (up (up s 25 ((s 24 0).toNat) (b8 (b8 (iShr l1 l2)))) 24 0 ((s 24 0) + 1))
      else none
    else
      re_put_b1 L l1 (l2 + (-8)) s :=
  ((hh_Ev_eq pb_re_put).trans (show _ = (
  if w32 l2 < 0 then
    ok L 0 s
  else
    if w32 (s 24 0) < w32 600 then
      if 0 ≤ s 24 0 ∧ s 24 0 < 600 then
      re_put_b1 L l1 (l2 + (-8)) (up (up s 25 ((s 24 0).toNat) (b8 (b8 (iShr l1 l2)))) 24 0 ((s 24 0) + 1))
      else none
    else
      re_put_b1 L l1 (l2 + (-8)) s) from rfl)).trans (by simp only [k32_600])
set_option maxRecDepth 20000 in
theorem re_placeNow_eq (L : Nat) (s : hh_Sv) : re_placeNow L s =
  if 0 ≤ s 24 5 ∧ s 24 5 < 601 then
  ok L (s 28 ((s 24 5).toNat)) s
  else none :=
  (hh_Ev_eq pb_re_placeNow).trans rfl
set_option maxRecDepth 20000 in
theorem ru_clear_eq (L : Nat) (a0 : Nat) (s : hh_Sv) : ru_clear L a0 s =
  if kd L a0 = 26 then
  if 8 ≤ a0 then
  if kd L a0 = 26 then
  if 8 ≤ a0 then
  if kd L a0 = 26 then
  if 8 ≤ a0 then
  if kd L a0 = 26 then
  if 8 ≤ a0 then
  ok L 0 (up (up (up (up s a0 0 0) a0 1 0) a0 2 0) a0 3 0)
  else none
  else none
  else none
  else none
  else none
  else none
  else none
  else none :=
  (hh_Ev_eq pb_ru_clear).trans rfl
set_option maxRecDepth 20000 in
theorem re_kindOf_eq (L : Nat) (a0 : Int) (s : hh_Sv) : re_kindOf L a0 s =
  if w32 a0 < 97 then
    re_kindOf_b1 L a0 s
  else
    if 122 < w32 a0 then
      re_kindOf_b1 L a0 s
    else
      ok L 1 s :=
  ((hh_Ev_eq pb_re_kindOf).trans (show _ = (
  if w32 a0 < w32 97 then
    re_kindOf_b1 L a0 s
  else
    if w32 122 < w32 a0 then
      re_kindOf_b1 L a0 s
    else
      ok L 1 s) from rfl)).trans (by simp only [k32_97, k32_122])
set_option maxRecDepth 20000 in
theorem re_kindOf_b1_eq (L : Nat) (l0 : Int) (s : hh_Sv) : re_kindOf_b1 L l0 s =
  if w32 l0 < 48 then
    re_kindOf_b2 L s
  else
    if 57 < w32 l0 then
      re_kindOf_b2 L s
    else
      ok L 2 s :=
  ((hh_Ev_eq pb_re_kindOf).trans (show _ = (
  if w32 l0 < w32 48 then
    re_kindOf_b2 L s
  else
    if w32 57 < w32 l0 then
      re_kindOf_b2 L s
    else
      ok L 2 s) from rfl)).trans (by simp only [k32_48, k32_57])
set_option maxRecDepth 20000 in
theorem re_kindOf_b2_eq (L : Nat) (s : hh_Sv) : re_kindOf_b2 L s =
  ok L 3 s :=
  (hh_Ev_eq pb_re_kindOf).trans rfl
set_option maxRecDepth 20000 in
theorem jst_coder_eq (L : Nat) (s : hh_Sv) : jst_coder L s =
  if 0 ≤ s 3 1 ∧ s 3 1 < 128 then
  ok L (s 3 1) s
  else none :=
  ((hh_Ev_eq pb_jst_coder).trans (show _ = (
  if w32 1 = 0 then
    ok L 1 s
  else
    if 0 ≤ s 3 1 ∧ s 3 1 < 128 then
    ok L (s 3 1) s
    else none) from rfl)).trans (by simp only [k32_0, k32_1, kz_1, if_false, if_true])
set_option maxRecDepth 20000 in
theorem jst_length_eq (L : Nat) (s : hh_Sv) : jst_length L s =
  (jst_coder L s).bind (fun r1 =>
  ok L (iShr 112 r1.1) r1.2.2) :=
  (hh_Ev_eq pb_jst_length).trans rfl
set_option maxRecDepth 20000 in
theorem jst_isLatin1_eq (L : Nat) (s : hh_Sv) : jst_isLatin1 L s =
  if w32 (s 3 1) = 0 then
    ok L 1 s
  else
    jst_isLatin1_b1 L s :=
  ((hh_Ev_eq pb_jst_isLatin1).trans (show _ = (
  if w32 1 = 0 then
    jst_isLatin1_b1 L s
  else
    if w32 (s 3 1) = 0 then
      ok L 1 s
    else
      jst_isLatin1_b1 L s) from rfl)).trans (by simp only [k32_0, k32_1, kz_1, if_false, if_true])
set_option maxRecDepth 20000 in
theorem jst_isLatin1_b1_eq (L : Nat) (s : hh_Sv) : jst_isLatin1_b1 L s =
  ok L 0 s :=
  (hh_Ev_eq pb_jst_isLatin1).trans rfl
set_option maxRecDepth 20000 in
theorem jpr_checkIndex_eq (L : Nat) (a0 : Int) (a1 : Int) (s : hh_Sv) : jpr_checkIndex L a0 a1 s =
  if w32 a0 < 0 then
    jpr_checkIndex_b1 L s
  else
    if w32 a0 < w32 a1 then
      ok L a0 s
    else
      jpr_checkIndex_b1 L s :=
  (hh_Ev_eq pb_jpr_checkIndex).trans rfl
set_option maxRecDepth 20000 in
theorem jst_checkIndex_eq (L : Nat) (a0 : Int) (a1 : Int) (s : hh_Sv) : jst_checkIndex L a0 a1 s =
  (jpr_checkIndex L a0 a1 s).bind (fun r1 =>
  ok L 0 r1.2.2) :=
  (hh_Ev_eq pb_jst_checkIndex).trans rfl
set_option maxRecDepth 20000 in
theorem jla_charAt_eq (L : Nat) (a1 : Int) (s : hh_Sv) : jla_charAt L a1 s =
  (jst_checkIndex L a1 112 s).bind (fun r1 =>
  if 0 ≤ a1 ∧ a1 < 112 then
  if 0 ≤ u16 (bAnd (r1.2.2 4 a1.toNat) 255) ∧ u16 (bAnd (r1.2.2 4 a1.toNat) 255) < 128 then
  ok L (u16 (bAnd (r1.2.2 4 a1.toNat) 255)) r1.2.2
  else none
  else none) :=
  (hh_Ev_eq pb_jla_charAt).trans rfl
set_option maxRecDepth 20000 in
theorem jst_charAt_eq (L : Nat) (a1 : Int) (s : hh_Sv) : jst_charAt L a1 s =
  (jst_isLatin1 L s).bind (fun r1 =>
  if w32 r1.1 = 0 then
    jst_charAt_b1 L r1.2.2
  else
    (jla_charAt L a1 r1.2.2).bind (fun r2 =>
    if 0 ≤ r2.1 ∧ r2.1 < 128 then
    ok L r2.1 r2.2.2
    else none)) :=
  (hh_Ev_eq pb_jst_charAt).trans rfl
set_option maxRecDepth 20000 in
theorem re_wordIn_eq (L : Nat) (a1 : Int) (a2 : Int) (s : hh_Sv) : re_wordIn L a1 a2 s =
  re_wordIn_b1 L a1 a2 0 a1 1 0 s :=
  (hh_Ev_eq pb_re_wordIn).trans rfl
set_option maxRecDepth 20000 in
theorem re_wordIn_b1_eq (L : Nat) (l1 : Int) (l2 : Int) (l3 : Int) (l4 : Int) (l5 : Int) (l6 : Int) (s : hh_Sv) : re_wordIn_b1 L l1 l2 l3 l4 l5 l6 s =
  (jst_length L s).bind (fun r1 =>
  if w32 l6 < w32 r1.1 then
    (jst_charAt L l6 r1.2.2).bind (fun r2 =>
    if w32 r2.1 = 32 then
      if w32 l5 = 0 then
        re_wordIn_b5 L l1 l2 l3 l6 r2.2.2
      else
        if w32 l4 = w32 l2 then
          ok L l3 r2.2.2
        else
          re_wordIn_b5 L l1 l2 l3 l6 r2.2.2
    else
      if w32 l5 = 0 then
        re_wordIn_b2 L l1 l2 l3 l4 l6 r2.2.2
      else
        if w32 l4 < w32 l2 then
          if 0 ≤ l4 ∧ l4 < 600 then
          if w32 (r2.2.2 25 l4.toNat) = w32 r2.1 then
            re_wordIn_b3 L l1 l2 l3 l4 l6 1 r2.2.2
          else
            re_wordIn_b2 L l1 l2 l3 l4 l6 r2.2.2
          else none
        else
          re_wordIn_b2 L l1 l2 l3 l4 l6 r2.2.2)
  else
    ok L (-1) r1.2.2) :=
  ((hh_Ev_eq pb_re_wordIn).trans (show _ = (
  (jst_length L s).bind (fun r1 =>
  if w32 l6 < w32 r1.1 then
    (jst_charAt L l6 r1.2.2).bind (fun r2 =>
    if w32 r2.1 = w32 32 then
      if w32 l5 = 0 then
        re_wordIn_b5 L l1 l2 l3 l6 r2.2.2
      else
        if w32 l4 = w32 l2 then
          ok L l3 r2.2.2
        else
          re_wordIn_b5 L l1 l2 l3 l6 r2.2.2
    else
      if w32 l5 = 0 then
        re_wordIn_b2 L l1 l2 l3 l4 l6 r2.2.2
      else
        if w32 l4 < w32 l2 then
          if 0 ≤ l4 ∧ l4 < 600 then
          if w32 (r2.2.2 25 l4.toNat) = w32 r2.1 then
            re_wordIn_b3 L l1 l2 l3 l4 l6 1 r2.2.2
          else
            re_wordIn_b2 L l1 l2 l3 l4 l6 r2.2.2
          else none
        else
          re_wordIn_b2 L l1 l2 l3 l4 l6 r2.2.2)
  else
    ok L (-1) r1.2.2)) from rfl)).trans (by simp only [k32_32])
set_option maxRecDepth 20000 in
theorem re_wordIn_b2_eq (L : Nat) (l1 : Int) (l2 : Int) (l3 : Int) (l4 : Int) (l6 : Int) (s : hh_Sv) : re_wordIn_b2 L l1 l2 l3 l4 l6 s =
  re_wordIn_b3 L l1 l2 l3 l4 l6 0 s :=
  (hh_Ev_eq pb_re_wordIn).trans rfl
set_option maxRecDepth 20000 in
theorem re_wordIn_b3_eq (L : Nat) (l1 : Int) (l2 : Int) (l3 : Int) (l4 : Int) (l6 : Int) (k0 : Int) (s : hh_Sv) : re_wordIn_b3 L l1 l2 l3 l4 l6 k0 s =
  re_wordIn_b1 L l1 l2 l3 (l4 + 1) k0 (l6 + 1) s :=
  (hh_Ev_eq pb_re_wordIn).trans rfl
set_option maxRecDepth 20000 in
theorem re_wordIn_b5_eq (L : Nat) (l1 : Int) (l2 : Int) (l3 : Int) (l6 : Int) (s : hh_Sv) : re_wordIn_b5 L l1 l2 l3 l6 s =
  re_wordIn_b1 L l1 l2 (l3 + 1) l1 1 (l6 + 1) s :=
  (hh_Ev_eq pb_re_wordIn).trans rfl
set_option maxRecDepth 20000 in
theorem re_numberIn_eq (L : Nat) (a1 : Int) (a2 : Int) (s : hh_Sv) : re_numberIn L a1 a2 s =
  if 3 < w32 (a2 - a1) then
    ok L (-1) s
  else
    re_numberIn_b2 L a2 0 a1 s :=
  ((hh_Ev_eq pb_re_numberIn).trans (show _ = (
  if w32 3 < w32 (a2 - a1) then
    ok L (-1) s
  else
    re_numberIn_b2 L a2 0 a1 s) from rfl)).trans (by simp only [k32_3])
set_option maxRecDepth 20000 in
theorem re_numberIn_b2_eq (L : Nat) (l2 : Int) (l3 : Int) (l4 : Int) (s : hh_Sv) : re_numberIn_b2 L l2 l3 l4 s =
  if w32 l4 < w32 l2 then
    if 0 ≤ l4 ∧ l4 < 600 then
    re_numberIn_b2 L l2 (((l3 * 10) + (s 25 l4.toNat)) - 48) (l4 + 1) s
    else none
  else
    ok L l3 s :=
  (hh_Ev_eq pb_re_numberIn).trans rfl
set_option maxRecDepth 20000 in
theorem re_open_eq (L : Nat) (a1 : Int) (s : hh_Sv) : re_open L a1 s =
  re_open_b1 L a1 0 0 s :=
  (hh_Ev_eq pb_re_open).trans rfl
set_option maxRecDepth 20000 in
theorem re_open_b1_eq (L : Nat) (l1 : Int) (l2 : Int) (l3 : Int) (s : hh_Sv) : re_open_b1 L l1 l2 l3 s =
  if w32 l3 < w32 l1 then
    if w32 l3 < 600 then
      if 0 ≤ l3 ∧ l3 < 600 then
      if w32 (s 25 l3.toNat) = 32 then
        re_open_b7 L l1 l2 (l3 + 1) s
      else
        if 0 ≤ l3 ∧ l3 < 600 then
        if w32 (s 25 l3.toNat) = 10 then
          re_open_b7 L l1 l2 (l3 + 1) s
        else
          if 0 ≤ l3 ∧ l3 < 600 then
          (re_kindOf L (s 25 l3.toNat) s).bind (fun r1 =>
          re_open_b2 L l1 l2 l3 (l3 + 1) r1.1 r1.2.2)
          else none
        else none
      else none
    else
      re_open_b8 L l1 l2 s
  else
    re_open_b8 L l1 l2 s :=
  ((hh_Ev_eq pb_re_open).trans (show _ = (
  if w32 l3 < w32 l1 then
    if w32 l3 < w32 600 then
      if 0 ≤ l3 ∧ l3 < 600 then
      if w32 (s 25 l3.toNat) = w32 32 then
        re_open_b7 L l1 l2 (l3 + 1) s
      else
        if 0 ≤ l3 ∧ l3 < 600 then
        if w32 (s 25 l3.toNat) = w32 10 then
          re_open_b7 L l1 l2 (l3 + 1) s
        else
          if 0 ≤ l3 ∧ l3 < 600 then
          (re_kindOf L (s 25 l3.toNat) s).bind (fun r1 =>
          re_open_b2 L l1 l2 l3 (l3 + 1) r1.1 r1.2.2)
          else none
        else none
      else none
    else
      re_open_b8 L l1 l2 s
  else
    re_open_b8 L l1 l2 s) from rfl)).trans (by simp only [k32_10, k32_32, k32_600])
set_option maxRecDepth 20000 in
theorem re_open_b2_eq (L : Nat) (l1 : Int) (l2 : Int) (l3 : Int) (l4 : Int) (l5 : Int) (s : hh_Sv) : re_open_b2 L l1 l2 l3 l4 l5 s =
  if w32 l5 = 3 then
    re_open_b3 L l1 l2 l3 l4 l5 s
  else
    if w32 l4 < w32 l1 then
      if w32 l4 < 600 then
        if 0 ≤ l4 ∧ l4 < 600 then
        (re_kindOf L (s 25 l4.toNat) s).bind (fun r1 =>
        if w32 r1.1 = w32 l5 then
          re_open_b2 L l1 l2 l3 (l4 + 1) l5 r1.2.2
        else
          re_open_b3 L l1 l2 l3 l4 l5 r1.2.2)
        else none
      else
        re_open_b3 L l1 l2 l3 l4 l5 s
    else
      re_open_b3 L l1 l2 l3 l4 l5 s :=
  ((hh_Ev_eq pb_re_open).trans (show _ = (
  if w32 l5 = w32 3 then
    re_open_b3 L l1 l2 l3 l4 l5 s
  else
    if w32 l4 < w32 l1 then
      if w32 l4 < w32 600 then
        if 0 ≤ l4 ∧ l4 < 600 then
        (re_kindOf L (s 25 l4.toNat) s).bind (fun r1 =>
        if w32 r1.1 = w32 l5 then
          re_open_b2 L l1 l2 l3 (l4 + 1) l5 r1.2.2
        else
          re_open_b3 L l1 l2 l3 l4 l5 r1.2.2)
        else none
      else
        re_open_b3 L l1 l2 l3 l4 l5 s
    else
      re_open_b3 L l1 l2 l3 l4 l5 s) from rfl)).trans (by simp only [k32_3, k32_600])
set_option maxRecDepth 20000 in
theorem re_open_b3_eq (L : Nat) (l1 : Int) (l2 : Int) (l3 : Int) (l4 : Int) (l5 : Int) (s : hh_Sv) : re_open_b3 L l1 l2 l3 l4 l5 s =
  if 0 ≤ l2 ∧ l2 < 601 then
  if w32 l5 = 1 then
    (re_wordIn L l3 l4 (up s 26 l2.toNat l5)).bind (fun r1 =>
    re_open_b6 L l1 l2 l3 l4 l2 r1.1 r1.2.2)
  else
    if w32 l5 = 2 then
      (re_numberIn L l3 l4 (up s 26 l2.toNat l5)).bind (fun r2 =>
      re_open_b6 L l1 l2 l3 l4 l2 r2.1 r2.2.2)
    else
      if 0 ≤ l3 ∧ l3 < 600 then
      re_open_b6 L l1 l2 l3 l4 l2 (s 25 l3.toNat) (up s 26 l2.toNat l5)
      else none
  else none :=
  ((hh_Ev_eq pb_re_open).trans (show _ = (
  if 0 ≤ l2 ∧ l2 < 601 then
  if w32 l5 = w32 1 then
    (re_wordIn L l3 l4 (up s 26 l2.toNat l5)).bind (fun r1 =>
    re_open_b6 L l1 l2 l3 l4 l2 r1.1 r1.2.2)
  else
    if w32 l5 = w32 2 then
      (re_numberIn L l3 l4 (up s 26 l2.toNat l5)).bind (fun r2 =>
      re_open_b6 L l1 l2 l3 l4 l2 r2.1 r2.2.2)
    else
      if 0 ≤ l3 ∧ l3 < 600 then
      re_open_b6 L l1 l2 l3 l4 l2 (s 25 l3.toNat) (up s 26 l2.toNat l5)
      else none
  else none) from rfl)).trans (by simp only [k32_1, k32_2])
set_option maxRecDepth 20000 in
theorem re_open_b6_eq (L : Nat) (l1 : Int) (l2 : Int) (l3 : Int) (l4 : Int) (k1 : Int) (k2 : Int) (s : hh_Sv) : re_open_b6 L l1 l2 l3 l4 k1 k2 s =
  if 0 ≤ k1 ∧ k1 < 601 then
  if 0 ≤ l2 ∧ l2 < 601 then
  re_open_b7 L l1 (l2 + 1) l4 (up (up s 27 k1.toNat k2) 28 l2.toNat l3)
  else none
  else none :=
  (hh_Ev_eq pb_re_open).trans rfl
set_option maxRecDepth 20000 in
theorem re_open_b7_eq (L : Nat) (l1 : Int) (l2 : Int) (l4 : Int) (s : hh_Sv) : re_open_b7 L l1 l2 l4 s =
  re_open_b1 L l1 l2 l4 s :=
  (hh_Ev_eq pb_re_open).trans rfl
set_option maxRecDepth 20000 in
theorem re_open_b8_eq (L : Nat) (l1 : Int) (l2 : Int) (s : hh_Sv) : re_open_b8 L l1 l2 s =
  if 0 ≤ l2 ∧ l2 < 601 then
  if 0 ≤ l2 ∧ l2 < 601 then
  if 0 ≤ l2 ∧ l2 < 601 then
  ok L 0 (up (up (up (up s 26 l2.toNat 0) 27 l2.toNat (-1)) 28 l2.toNat l1) 24 5 0)
  else none
  else none
  else none :=
  (hh_Ev_eq pb_re_open).trans rfl
set_option maxRecDepth 20000 in
theorem re_isWordOf_eq (L : Nat) (a1 : Int) (a2 : Int) (s : hh_Sv) : re_isWordOf L a1 a2 s =
  if 0 ≤ s 24 5 ∧ s 24 5 < 601 then
  if w32 (s 26 ((s 24 5).toNat)) = 1 then
    if 0 ≤ s 24 5 ∧ s 24 5 < 601 then
    if w32 (s 27 ((s 24 5).toNat)) < w32 a1 then
      re_isWordOf_b1 L s
    else
      if 0 ≤ s 24 5 ∧ s 24 5 < 601 then
      if w32 a2 < w32 (s 27 ((s 24 5).toNat)) then
        re_isWordOf_b1 L s
      else
        ok L 1 s
      else none
    else none
  else
    re_isWordOf_b1 L s
  else none :=
  ((hh_Ev_eq pb_re_isWordOf).trans (show _ = (
  if 0 ≤ s 24 5 ∧ s 24 5 < 601 then
  if w32 (s 26 ((s 24 5).toNat)) = w32 1 then
    if 0 ≤ s 24 5 ∧ s 24 5 < 601 then
    if w32 (s 27 ((s 24 5).toNat)) < w32 a1 then
      re_isWordOf_b1 L s
    else
      if 0 ≤ s 24 5 ∧ s 24 5 < 601 then
      if w32 a2 < w32 (s 27 ((s 24 5).toNat)) then
        re_isWordOf_b1 L s
      else
        ok L 1 s
      else none
    else none
  else
    re_isWordOf_b1 L s
  else none) from rfl)).trans (by simp only [k32_1])
set_option maxRecDepth 20000 in
theorem re_isWordOf_b1_eq (L : Nat) (s : hh_Sv) : re_isWordOf_b1 L s =
  ok L 0 s :=
  (hh_Ev_eq pb_re_isWordOf).trans rfl
set_option maxRecDepth 20000 in
theorem re_take_eq (L : Nat) (s : hh_Sv) : re_take L s =
  if 0 ≤ ((s 24 5) + 1) - 1 ∧ ((s 24 5) + 1) - 1 < 601 then
  ok L (s 27 ((((s 24 5) + 1) - 1).toNat)) (up s 24 5 ((s 24 5) + 1))
  else none :=
  (hh_Ev_eq pb_re_take).trans rfl
set_option maxRecDepth 20000 in
theorem re_mostOf_eq (L : Nat) (a0 : Int) (s : hh_Sv) : re_mostOf L a0 s =
  if w32 a0 = 0 then
    ok L 100 s
  else
    if w32 a0 = 1 then
      ok L 99 s
    else
      if w32 a0 = 2 then
        ok L 99 s
      else
        if w32 a0 = 3 then
          ok L 3 s
        else
          if w32 a0 = 4 then
            ok L 3 s
          else
            if w32 a0 = 5 then
              ok L 9 s
            else
              ok L 99 s :=
  (hh_Ev_eq pb_re_mostOf).trans rfl
set_option maxRecDepth 20000 in
theorem re_isNumber_eq (L : Nat) (a1 : Int) (a2 : Int) (s : hh_Sv) : re_isNumber L a1 a2 s =
  if 0 ≤ s 24 5 ∧ s 24 5 < 601 then
  if w32 (s 26 ((s 24 5).toNat)) = 2 then
    if 0 ≤ s 24 5 ∧ s 24 5 < 601 then
    if w32 (s 27 ((s 24 5).toNat)) < w32 a1 then
      re_isNumber_b1 L s
    else
      if 0 ≤ s 24 5 ∧ s 24 5 < 601 then
      if w32 a2 < w32 (s 27 ((s 24 5).toNat)) then
        re_isNumber_b1 L s
      else
        ok L 1 s
      else none
    else none
  else
    re_isNumber_b1 L s
  else none :=
  ((hh_Ev_eq pb_re_isNumber).trans (show _ = (
  if 0 ≤ s 24 5 ∧ s 24 5 < 601 then
  if w32 (s 26 ((s 24 5).toNat)) = w32 2 then
    if 0 ≤ s 24 5 ∧ s 24 5 < 601 then
    if w32 (s 27 ((s 24 5).toNat)) < w32 a1 then
      re_isNumber_b1 L s
    else
      if 0 ≤ s 24 5 ∧ s 24 5 < 601 then
      if w32 a2 < w32 (s 27 ((s 24 5).toNat)) then
        re_isNumber_b1 L s
      else
        ok L 1 s
      else none
    else none
  else
    re_isNumber_b1 L s
  else none) from rfl)).trans (by simp only [k32_2])
set_option maxRecDepth 20000 in
theorem re_isNumber_b1_eq (L : Nat) (s : hh_Sv) : re_isNumber_b1 L s =
  ok L 0 s :=
  (hh_Ev_eq pb_re_isNumber).trans rfl
set_option maxRecDepth 20000 in
theorem re_isWord_eq (L : Nat) (a1 : Int) (s : hh_Sv) : re_isWord L a1 s =
  if 0 ≤ s 24 5 ∧ s 24 5 < 601 then
  if w32 (s 26 ((s 24 5).toNat)) = 1 then
    if 0 ≤ s 24 5 ∧ s 24 5 < 601 then
    if w32 (s 27 ((s 24 5).toNat)) = w32 a1 then
      ok L 1 s
    else
      re_isWord_b1 L s
    else none
  else
    re_isWord_b1 L s
  else none :=
  ((hh_Ev_eq pb_re_isWord).trans (show _ = (
  if 0 ≤ s 24 5 ∧ s 24 5 < 601 then
  if w32 (s 26 ((s 24 5).toNat)) = w32 1 then
    if 0 ≤ s 24 5 ∧ s 24 5 < 601 then
    if w32 (s 27 ((s 24 5).toNat)) = w32 a1 then
      ok L 1 s
    else
      re_isWord_b1 L s
    else none
  else
    re_isWord_b1 L s
  else none) from rfl)).trans (by simp only [k32_1])
set_option maxRecDepth 20000 in
theorem re_isWord_b1_eq (L : Nat) (s : hh_Sv) : re_isWord_b1 L s =
  ok L 0 s :=
  (hh_Ev_eq pb_re_isWord).trans rfl
set_option maxRecDepth 20000 in
theorem re_isSign_eq (L : Nat) (a1 : Int) (s : hh_Sv) : re_isSign L a1 s =
  if 0 ≤ s 24 5 ∧ s 24 5 < 601 then
  if w32 (s 26 ((s 24 5).toNat)) = 3 then
    if 0 ≤ s 24 5 ∧ s 24 5 < 601 then
    if w32 (s 27 ((s 24 5).toNat)) = w32 a1 then
      ok L 1 s
    else
      re_isSign_b1 L s
    else none
  else
    re_isSign_b1 L s
  else none :=
  ((hh_Ev_eq pb_re_isSign).trans (show _ = (
  if 0 ≤ s 24 5 ∧ s 24 5 < 601 then
  if w32 (s 26 ((s 24 5).toNat)) = w32 3 then
    if 0 ≤ s 24 5 ∧ s 24 5 < 601 then
    if w32 (s 27 ((s 24 5).toNat)) = w32 a1 then
      ok L 1 s
    else
      re_isSign_b1 L s
    else none
  else
    re_isSign_b1 L s
  else none) from rfl)).trans (by simp only [k32_3])
set_option maxRecDepth 20000 in
theorem re_isSign_b1_eq (L : Nat) (s : hh_Sv) : re_isSign_b1 L s =
  ok L 0 s :=
  (hh_Ev_eq pb_re_isSign).trans rfl
set_option maxRecDepth 20000 in
theorem ru_write_eq (L : Nat) (a0 : Nat) (a1 : Int) (s : hh_Sv) : ru_write L a0 a1 s =
  if kd L a0 = 26 then
  if w32 (s a0 3) < 300 then
    if kd L a0 = 26 then
    if kd L a0 = 26 then
    if kd L (pf L a0 7) = 0 then
    if 8 ≤ pf L a0 7 then
    if 0 ≤ s a0 3 ∧ s a0 3 < (ln L (pf L a0 7) : Int) then
    if kd L a0 = 26 then
    if kd L a0 = 26 then
    if 8 ≤ a0 then
    ok L 0 (up (up s (pf L a0 7) ((s a0 3).toNat) a1) a0 3 (((up s (pf L a0 7) ((s a0 3).toNat) a1) a0 3) + 1))
    else none
    else none
    else none
    else none
    else none
    else none
    else none
    else none
  else
    ok L 0 s
  else none :=
  ((hh_Ev_eq pb_ru_write).trans (show _ = (
  if kd L a0 = 26 then
  if w32 (s a0 3) < w32 300 then
    if kd L a0 = 26 then
    if kd L a0 = 26 then
    if kd L (pf L a0 7) = 0 then
    if 8 ≤ pf L a0 7 then
    if 0 ≤ s a0 3 ∧ s a0 3 < (ln L (pf L a0 7) : Int) then
    if kd L a0 = 26 then
    if kd L a0 = 26 then
    if 8 ≤ a0 then
    ok L 0 (up (up s (pf L a0 7) ((s a0 3).toNat) a1) a0 3 (((up s (pf L a0 7) ((s a0 3).toNat) a1) a0 3) + 1))
    else none
    else none
    else none
    else none
    else none
    else none
    else none
    else none
  else
    ok L 0 s
  else none) from rfl)).trans (by simp only [k32_300])
set_option maxRecDepth 20000 in
theorem re_readComparison_eq (L : Nat) (a1 : Nat) (s : hh_Sv) : re_readComparison L a1 s =
  (re_isWordOf L 3 9 s).bind (fun r1 =>
  if w32 r1.1 = 0 then
    ok L 0 r1.2.2
  else
    (re_take L r1.2.2).bind (fun r2 =>
    (re_isSign L 60 r2.2.2).bind (fun r3 =>
    if w32 r3.1 = 0 then
      (re_isSign L 62 r3.2.2).bind (fun r4 =>
      if w32 r4.1 = 0 then
        (re_isSign L 61 r4.2.2).bind (fun r5 =>
        if w32 r5.1 = 0 then
          ok L 0 r5.2.2
        else
          re_readComparison_b2 L a1 r2.1 r5.2.2)
      else
        re_readComparison_b2 L a1 r2.1 r4.2.2)
    else
      re_readComparison_b2 L a1 r2.1 r3.2.2))) :=
  (hh_Ev_eq pb_re_readComparison).trans rfl
set_option maxRecDepth 20000 in
theorem re_readComparison_b2_eq (L : Nat) (l1 : Nat) (l2 : Int) (s : hh_Sv) : re_readComparison_b2 L l1 l2 s =
  (re_take L s).bind (fun r1 =>
  (re_isNumber L 0 99 r1.2.2).bind (fun r2 =>
  if w32 r2.1 = 0 then
    ok L 0 r2.2.2
  else
    (re_take L r2.2.2).bind (fun r3 =>
    if kd L l1 = 26 then
    (ru_write L l1 (bOr (bOr (iShl l2 14) (iShl r1.1 7)) r3.1) r3.2.2).bind (fun r4 =>
    ok L 1 r4.2.2)
    else none))) :=
  (hh_Ev_eq pb_re_readComparison).trans rfl
set_option maxRecDepth 20000 in
theorem re_readOne_eq (L : Nat) (d : Nat) (a1 : Nat) (a2 : Int) (s : hh_Sv) : re_readOne L d a1 a2 s =
  (if 1 < d then re_isWord L 20 s else none).bind (fun r1 =>
  if w32 r1.1 = 0 then
    (if 1 < d then re_isSign L 40 r1.2.2 else none).bind (fun r2 =>
    if w32 r2.1 = 0 then
      (if 2 < d then re_readComparison L a1 r2.2.2 else none).bind (fun r3 =>
      if r3.1 = 0 ∨ r3.1 = 1 then
      ok L r3.1 r3.2.2
      else none)
    else
      re_readOne_b1 L d a1 a2 r1.1 r2.2.2)
  else
    re_readOne_b1 L d a1 a2 r1.1 r1.2.2) :=
  (hh_Ev_eq pb_re_readOne).trans rfl
set_option maxRecDepth 20000 in
theorem re_readOne_b1_eq (L : Nat) (d : Nat) (l1 : Nat) (l2 : Int) (l3 : Int) (s : hh_Sv) : re_readOne_b1 L d l1 l2 l3 s =
  if w32 l2 < 8 then
    (if 1 < d then re_take L s else none).bind (fun r1 =>
    if w32 l3 = 0 then
      (if 4 + 2 * ((9 : Int) - (l2 + 1)).toNat < d then re_readAny L (4 + 2 * ((9 : Int) - (l2 + 1)).toNat) l1 (l2 + 1) r1.2.2 else none).bind (fun r2 =>
      if w32 r2.1 = 0 then
        ok L 0 r2.2.2
      else
        (if 1 < d then re_isSign L 41 r2.2.2 else none).bind (fun r3 =>
        if w32 r3.1 = 0 then
          ok L 0 r3.2.2
        else
          (if 1 < d then re_take L r3.2.2 else none).bind (fun r4 =>
          ok L 1 r4.2.2)))
    else
      (if 3 + 2 * ((9 : Int) - (l2 + 1)).toNat < d then re_readOne L (3 + 2 * ((9 : Int) - (l2 + 1)).toNat) l1 (l2 + 1) r1.2.2 else none).bind (fun r5 =>
      if w32 r5.1 = 0 then
        ok L 0 r5.2.2
      else
        if kd L l1 = 26 then
        (if 1 < d then ru_write L l1 20 r5.2.2 else none).bind (fun r6 =>
        ok L 1 r6.2.2)
        else none))
  else
    ok L 0 s :=
  ((hh_Ev_eq pb_re_readOne).trans (show _ = (
  if w32 l2 < w32 8 then
    (if 1 < d then re_take L s else none).bind (fun r1 =>
    if w32 l3 = 0 then
      (if 4 + 2 * ((9 : Int) - (l2 + 1)).toNat < d then re_readAny L (4 + 2 * ((9 : Int) - (l2 + 1)).toNat) l1 (l2 + 1) r1.2.2 else none).bind (fun r2 =>
      if w32 r2.1 = 0 then
        ok L 0 r2.2.2
      else
        (if 1 < d then re_isSign L 41 r2.2.2 else none).bind (fun r3 =>
        if w32 r3.1 = 0 then
          ok L 0 r3.2.2
        else
          (if 1 < d then re_take L r3.2.2 else none).bind (fun r4 =>
          ok L 1 r4.2.2)))
    else
      (if 3 + 2 * ((9 : Int) - (l2 + 1)).toNat < d then re_readOne L (3 + 2 * ((9 : Int) - (l2 + 1)).toNat) l1 (l2 + 1) r1.2.2 else none).bind (fun r5 =>
      if w32 r5.1 = 0 then
        ok L 0 r5.2.2
      else
        if kd L l1 = 26 then
        (if 1 < d then ru_write L l1 20 r5.2.2 else none).bind (fun r6 =>
        ok L 1 r6.2.2)
        else none))
  else
    ok L 0 s) from rfl)).trans (by simp only [k32_8])
set_option maxRecDepth 20000 in
theorem re_readAny_eq (L : Nat) (d : Nat) (a1 : Nat) (a2 : Int) (s : hh_Sv) : re_readAny L d a1 a2 s =
  re_readAny_b1 L d a1 a2 0 s :=
  (hh_Ev_eq pb_re_readAny).trans rfl
set_option maxRecDepth 20000 in
theorem re_readAny_b1_eq (L : Nat) (d : Nat) (l1 : Nat) (l2 : Int) (l3 : Int) (s : hh_Sv) : re_readAny_b1 L d l1 l2 l3 s =
  if w32 l3 < 600 then
    (if 3 + 2 * ((9 : Int) - l2).toNat < d then re_readOne L (3 + 2 * ((9 : Int) - l2).toNat) l1 l2 s else none).bind (fun r1 =>
    if w32 r1.1 = 0 then
      ok L 0 r1.2.2
    else
      re_readAny_b3 L d l1 l2 l3 1 r1.2.2)
  else
    ok L 0 s :=
  ((hh_Ev_eq pb_re_readAny).trans (show _ = (
  if w32 l3 < w32 600 then
    (if 3 + 2 * ((9 : Int) - l2).toNat < d then re_readOne L (3 + 2 * ((9 : Int) - l2).toNat) l1 l2 s else none).bind (fun r1 =>
    if w32 r1.1 = 0 then
      ok L 0 r1.2.2
    else
      re_readAny_b3 L d l1 l2 l3 1 r1.2.2)
  else
    ok L 0 s) from rfl)).trans (by simp only [k32_600])
set_option maxRecDepth 20000 in
theorem re_readAny_b3_eq (L : Nat) (d : Nat) (l1 : Nat) (l2 : Int) (l3 : Int) (l4 : Int) (s : hh_Sv) : re_readAny_b3 L d l1 l2 l3 l4 s =
  if w32 l4 < 600 then
    (if 1 < d then re_isWord L 18 s else none).bind (fun r1 =>
    if w32 r1.1 = 0 then
      re_readAny_b5 L d l1 l2 l3 r1.2.2
    else
      (if 1 < d then re_take L r1.2.2 else none).bind (fun r2 =>
      (if 3 + 2 * ((9 : Int) - l2).toNat < d then re_readOne L (3 + 2 * ((9 : Int) - l2).toNat) l1 l2 r2.2.2 else none).bind (fun r3 =>
      if w32 r3.1 = 0 then
        ok L 0 r3.2.2
      else
        if kd L l1 = 26 then
        (if 1 < d then ru_write L l1 18 r3.2.2 else none).bind (fun r4 =>
        re_readAny_b3 L d l1 l2 l3 (l4 + 1) r4.2.2)
        else none)))
  else
    re_readAny_b5 L d l1 l2 l3 s :=
  ((hh_Ev_eq pb_re_readAny).trans (show _ = (
  if w32 l4 < w32 600 then
    (if 1 < d then re_isWord L 18 s else none).bind (fun r1 =>
    if w32 r1.1 = 0 then
      re_readAny_b5 L d l1 l2 l3 r1.2.2
    else
      (if 1 < d then re_take L r1.2.2 else none).bind (fun r2 =>
      (if 3 + 2 * ((9 : Int) - l2).toNat < d then re_readOne L (3 + 2 * ((9 : Int) - l2).toNat) l1 l2 r2.2.2 else none).bind (fun r3 =>
      if w32 r3.1 = 0 then
        ok L 0 r3.2.2
      else
        if kd L l1 = 26 then
        (if 1 < d then ru_write L l1 18 r3.2.2 else none).bind (fun r4 =>
        re_readAny_b3 L d l1 l2 l3 (l4 + 1) r4.2.2)
        else none)))
  else
    re_readAny_b5 L d l1 l2 l3 s) from rfl)).trans (by simp only [k32_600])
set_option maxRecDepth 20000 in
theorem re_readAny_b5_eq (L : Nat) (d : Nat) (l1 : Nat) (l2 : Int) (l3 : Int) (s : hh_Sv) : re_readAny_b5 L d l1 l2 l3 s =
  if 0 < w32 l3 then
    if kd L l1 = 26 then
    (if 1 < d then ru_write L l1 19 s else none).bind (fun r1 =>
    re_readAny_b6 L d l1 l2 l3 r1.2.2)
    else none
  else
    re_readAny_b6 L d l1 l2 l3 s :=
  (hh_Ev_eq pb_re_readAny).trans rfl
set_option maxRecDepth 20000 in
theorem re_readAny_b6_eq (L : Nat) (d : Nat) (l1 : Nat) (l2 : Int) (l3 : Int) (s : hh_Sv) : re_readAny_b6 L d l1 l2 l3 s =
  (if 1 < d then re_isWord L 19 s else none).bind (fun r1 =>
  if w32 r1.1 = 0 then
    ok L 1 r1.2.2
  else
    (if 1 < d then re_take L r1.2.2 else none).bind (fun r2 =>
    re_readAny_b1 L d l1 l2 (l3 + 1) r2.2.2)) :=
  (hh_Ev_eq pb_re_readAny).trans rfl
set_option maxRecDepth 20000 in
theorem re_readIf_eq (L : Nat) (a1 : Nat) (a2 : Int) (s : hh_Sv) : re_readIf L a1 a2 s =
  if w32 a2 = 0 then
    re_readIf_b1 L s
  else
    (re_isWord L 17 s).bind (fun r1 =>
    if w32 r1.1 = 0 then
      re_readIf_b1 L r1.2.2
    else
      (re_take L r1.2.2).bind (fun r2 =>
      (if 4 + 2 * ((9 : Int) - 0).toNat < 23 then re_readAny L (4 + 2 * ((9 : Int) - 0).toNat) a1 0 r2.2.2 else none).bind (fun r3 =>
      if w32 r3.1 = 0 then
        ok L 0 r3.2.2
      else
        re_readIf_b1 L r3.2.2))) :=
  (hh_Ev_eq pb_re_readIf).trans rfl
set_option maxRecDepth 20000 in
theorem re_readIf_b1_eq (L : Nat) (s : hh_Sv) : re_readIf_b1 L s =
  (re_isSign L 59 s).bind (fun r1 =>
  if w32 r1.1 = 0 then
    ok L 0 r1.2.2
  else
    (re_take L r1.2.2).bind (fun r2 =>
    ok L 1 r2.2.2)) :=
  (hh_Ev_eq pb_re_readIf).trans rfl
set_option maxRecDepth 20000 in
theorem ru_add_eq (L : Nat) (a0 : Nat) (a1 : Int) (a2 : Int) (s : hh_Sv) : ru_add L a0 a1 a2 s =
  if kd L a0 = 26 then
  if w32 (s a0 0) < 24 then
    if kd L a0 = 26 then
    if kd L a0 = 26 then
    if kd L (pf L a0 4) = 0 then
    if 8 ≤ pf L a0 4 then
    if 0 ≤ s a0 0 ∧ s a0 0 < (ln L (pf L a0 4) : Int) then
    if kd L a0 = 26 then
    if kd L a0 = 26 then
    if kd L (pf L a0 5) = 0 then
    if 8 ≤ pf L a0 5 then
    if 0 ≤ (up s (pf L a0 4) ((s a0 0).toNat) a1) a0 0 ∧ (up s (pf L a0 4) ((s a0 0).toNat) a1) a0 0 < (ln L (pf L a0 5) : Int) then
    if kd L a0 = 26 then
    if kd L a0 = 26 then
    if kd L a0 = 26 then
    if kd L (pf L a0 6) = 0 then
    if 8 ≤ pf L a0 6 then
    if 0 ≤ (up (up s (pf L a0 4) ((s a0 0).toNat) a1) (pf L a0 5) (((up s (pf L a0 4) ((s a0 0).toNat) a1) a0 0).toNat) a2) a0 0 ∧ (up (up s (pf L a0 4) ((s a0 0).toNat) a1) (pf L a0 5) (((up s (pf L a0 4) ((s a0 0).toNat) a1) a0 0).toNat) a2) a0 0 < (ln L (pf L a0 6) : Int) then
    if kd L a0 = 26 then
    if kd L a0 = 26 then
    if 8 ≤ a0 then
    if w32 a1 = 1 then
      if kd L a0 = 26 then
      if 8 ≤ a0 then
      ru_add_b2 L a0 a1 a2 (up (up (up (up (up s (pf L a0 4) ((s a0 0).toNat) a1) (pf L a0 5) (((up s (pf L a0 4) ((s a0 0).toNat) a1) a0 0).toNat) a2) (pf L a0 6) (((up (up s (pf L a0 4) ((s a0 0).toNat) a1) (pf L a0 5) (((up s (pf L a0 4) ((s a0 0).toNat) a1) a0 0).toNat) a2) a0 0).toNat) ((up (up s (pf L a0 4) ((s a0 0).toNat) a1) (pf L a0 5) (((up s (pf L a0 4) ((s a0 0).toNat) a1) a0 0).toNat) a2) a0 3)) a0 0 (((up (up (up s (pf L a0 4) ((s a0 0).toNat) a1) (pf L a0 5) (((up s (pf L a0 4) ((s a0 0).toNat) a1) a0 0).toNat) a2) (pf L a0 6) (((up (up s (pf L a0 4) ((s a0 0).toNat) a1) (pf L a0 5) (((up s (pf L a0 4) ((s a0 0).toNat) a1) a0 0).toNat) a2) a0 0).toNat) ((up (up s (pf L a0 4) ((s a0 0).toNat) a1) (pf L a0 5) (((up s (pf L a0 4) ((s a0 0).toNat) a1) a0 0).toNat) a2) a0 3)) a0 0) + 1)) a0 1 a2)
      else none
      else none
    else
      ru_add_b2 L a0 a1 a2 (up (up (up (up s (pf L a0 4) ((s a0 0).toNat) a1) (pf L a0 5) (((up s (pf L a0 4) ((s a0 0).toNat) a1) a0 0).toNat) a2) (pf L a0 6) (((up (up s (pf L a0 4) ((s a0 0).toNat) a1) (pf L a0 5) (((up s (pf L a0 4) ((s a0 0).toNat) a1) a0 0).toNat) a2) a0 0).toNat) ((up (up s (pf L a0 4) ((s a0 0).toNat) a1) (pf L a0 5) (((up s (pf L a0 4) ((s a0 0).toNat) a1) a0 0).toNat) a2) a0 3)) a0 0 (((up (up (up s (pf L a0 4) ((s a0 0).toNat) a1) (pf L a0 5) (((up s (pf L a0 4) ((s a0 0).toNat) a1) a0 0).toNat) a2) (pf L a0 6) (((up (up s (pf L a0 4) ((s a0 0).toNat) a1) (pf L a0 5) (((up s (pf L a0 4) ((s a0 0).toNat) a1) a0 0).toNat) a2) a0 0).toNat) ((up (up s (pf L a0 4) ((s a0 0).toNat) a1) (pf L a0 5) (((up s (pf L a0 4) ((s a0 0).toNat) a1) a0 0).toNat) a2) a0 3)) a0 0) + 1))
    else none
    else none
    else none
    else none
    else none
    else none
    else none
    else none
    else none
    else none
    else none
    else none
    else none
    else none
    else none
    else none
    else none
    else none
    else none
  else
    ok L 0 s
  else none :=
  ((hh_Ev_eq pb_ru_add).trans (show _ = (
  if kd L a0 = 26 then
  if w32 (s a0 0) < w32 24 then
    if kd L a0 = 26 then
    if kd L a0 = 26 then
    if kd L (pf L a0 4) = 0 then
    if 8 ≤ pf L a0 4 then
    if 0 ≤ s a0 0 ∧ s a0 0 < (ln L (pf L a0 4) : Int) then
    if kd L a0 = 26 then
    if kd L a0 = 26 then
    if kd L (pf L a0 5) = 0 then
    if 8 ≤ pf L a0 5 then
    if 0 ≤ (up s (pf L a0 4) ((s a0 0).toNat) a1) a0 0 ∧ (up s (pf L a0 4) ((s a0 0).toNat) a1) a0 0 < (ln L (pf L a0 5) : Int) then
    if kd L a0 = 26 then
    if kd L a0 = 26 then
    if kd L a0 = 26 then
    if kd L (pf L a0 6) = 0 then
    if 8 ≤ pf L a0 6 then
    if 0 ≤ (up (up s (pf L a0 4) ((s a0 0).toNat) a1) (pf L a0 5) (((up s (pf L a0 4) ((s a0 0).toNat) a1) a0 0).toNat) a2) a0 0 ∧ (up (up s (pf L a0 4) ((s a0 0).toNat) a1) (pf L a0 5) (((up s (pf L a0 4) ((s a0 0).toNat) a1) a0 0).toNat) a2) a0 0 < (ln L (pf L a0 6) : Int) then
    if kd L a0 = 26 then
    if kd L a0 = 26 then
    if 8 ≤ a0 then
    if w32 a1 = w32 1 then
      if kd L a0 = 26 then
      if 8 ≤ a0 then
      ru_add_b2 L a0 a1 a2 (up (up (up (up (up s (pf L a0 4) ((s a0 0).toNat) a1) (pf L a0 5) (((up s (pf L a0 4) ((s a0 0).toNat) a1) a0 0).toNat) a2) (pf L a0 6) (((up (up s (pf L a0 4) ((s a0 0).toNat) a1) (pf L a0 5) (((up s (pf L a0 4) ((s a0 0).toNat) a1) a0 0).toNat) a2) a0 0).toNat) ((up (up s (pf L a0 4) ((s a0 0).toNat) a1) (pf L a0 5) (((up s (pf L a0 4) ((s a0 0).toNat) a1) a0 0).toNat) a2) a0 3)) a0 0 (((up (up (up s (pf L a0 4) ((s a0 0).toNat) a1) (pf L a0 5) (((up s (pf L a0 4) ((s a0 0).toNat) a1) a0 0).toNat) a2) (pf L a0 6) (((up (up s (pf L a0 4) ((s a0 0).toNat) a1) (pf L a0 5) (((up s (pf L a0 4) ((s a0 0).toNat) a1) a0 0).toNat) a2) a0 0).toNat) ((up (up s (pf L a0 4) ((s a0 0).toNat) a1) (pf L a0 5) (((up s (pf L a0 4) ((s a0 0).toNat) a1) a0 0).toNat) a2) a0 3)) a0 0) + 1)) a0 1 a2)
      else none
      else none
    else
      ru_add_b2 L a0 a1 a2 (up (up (up (up s (pf L a0 4) ((s a0 0).toNat) a1) (pf L a0 5) (((up s (pf L a0 4) ((s a0 0).toNat) a1) a0 0).toNat) a2) (pf L a0 6) (((up (up s (pf L a0 4) ((s a0 0).toNat) a1) (pf L a0 5) (((up s (pf L a0 4) ((s a0 0).toNat) a1) a0 0).toNat) a2) a0 0).toNat) ((up (up s (pf L a0 4) ((s a0 0).toNat) a1) (pf L a0 5) (((up s (pf L a0 4) ((s a0 0).toNat) a1) a0 0).toNat) a2) a0 3)) a0 0 (((up (up (up s (pf L a0 4) ((s a0 0).toNat) a1) (pf L a0 5) (((up s (pf L a0 4) ((s a0 0).toNat) a1) a0 0).toNat) a2) (pf L a0 6) (((up (up s (pf L a0 4) ((s a0 0).toNat) a1) (pf L a0 5) (((up s (pf L a0 4) ((s a0 0).toNat) a1) a0 0).toNat) a2) a0 0).toNat) ((up (up s (pf L a0 4) ((s a0 0).toNat) a1) (pf L a0 5) (((up s (pf L a0 4) ((s a0 0).toNat) a1) a0 0).toNat) a2) a0 3)) a0 0) + 1))
    else none
    else none
    else none
    else none
    else none
    else none
    else none
    else none
    else none
    else none
    else none
    else none
    else none
    else none
    else none
    else none
    else none
    else none
    else none
  else
    ok L 0 s
  else none) from rfl)).trans (by simp only [k32_1, k32_24])
set_option maxRecDepth 20000 in
theorem ru_add_b2_eq (L : Nat) (l0 : Nat) (l1 : Int) (l2 : Int) (s : hh_Sv) : ru_add_b2 L l0 l1 l2 s =
  if w32 l1 = 2 then
    if kd L l0 = 26 then
    if 8 ≤ l0 then
    ok L 0 (up s l0 2 l2)
    else none
    else none
  else
    ok L 0 s :=
  ((hh_Ev_eq pb_ru_add).trans (show _ = (
  if w32 l1 = w32 2 then
    if kd L l0 = 26 then
    if 8 ≤ l0 then
    ok L 0 (up s l0 2 l2)
    else none
    else none
  else
    ok L 0 s) from rfl)).trans (by simp only [k32_2])
set_option maxRecDepth 20000 in
theorem re_readRule_eq (L : Nat) (a1 : Nat) (s : hh_Sv) : re_readRule L a1 s =
  (re_isWordOf L 0 5 s).bind (fun r1 =>
  if w32 r1.1 = 0 then
    ok L 0 r1.2.2
  else
    (re_take L r1.2.2).bind (fun r2 =>
    (re_mostOf L r2.1 r2.2.2).bind (fun r3 =>
    (re_isNumber L 0 r3.1 r3.2.2).bind (fun r4 =>
    if w32 r4.1 = 0 then
      ok L 0 r4.2.2
    else
      (re_take L r4.2.2).bind (fun r5 =>
      if w32 r2.1 = 1 then
        re_readRule_b3 L a1 r2.1 r5.1 a1 r5.2.2
      else
        if w32 r2.1 = 2 then
          re_readRule_b3 L a1 r2.1 r5.1 a1 r5.2.2
        else
          re_readRule_b4 L a1 r2.1 r5.1 a1 1 r5.2.2))))) :=
  ((hh_Ev_eq pb_re_readRule).trans (show _ = (
  (re_isWordOf L 0 5 s).bind (fun r1 =>
  if w32 r1.1 = 0 then
    ok L 0 r1.2.2
  else
    (re_take L r1.2.2).bind (fun r2 =>
    (re_mostOf L r2.1 r2.2.2).bind (fun r3 =>
    (re_isNumber L 0 r3.1 r3.2.2).bind (fun r4 =>
    if w32 r4.1 = 0 then
      ok L 0 r4.2.2
    else
      (re_take L r4.2.2).bind (fun r5 =>
      if w32 r2.1 = w32 1 then
        re_readRule_b3 L a1 r2.1 r5.1 a1 r5.2.2
      else
        if w32 r2.1 = w32 2 then
          re_readRule_b3 L a1 r2.1 r5.1 a1 r5.2.2
        else
          re_readRule_b4 L a1 r2.1 r5.1 a1 1 r5.2.2)))))) from rfl)).trans (by simp only [k32_1, k32_2])
set_option maxRecDepth 20000 in
theorem re_readRule_b3_eq (L : Nat) (l1 : Nat) (l2 : Int) (l3 : Int) (k1 : Nat) (s : hh_Sv) : re_readRule_b3 L l1 l2 l3 k1 s =
  re_readRule_b4 L l1 l2 l3 k1 0 s :=
  (hh_Ev_eq pb_re_readRule).trans rfl
set_option maxRecDepth 20000 in
theorem re_readRule_b4_eq (L : Nat) (l1 : Nat) (l2 : Int) (l3 : Int) (k1 : Nat) (k2 : Int) (s : hh_Sv) : re_readRule_b4 L l1 l2 l3 k1 k2 s =
  (re_readIf L k1 k2 s).bind (fun r1 =>
  if w32 r1.1 = 0 then
    ok L 0 r1.2.2
  else
    if kd L l1 = 26 then
    (ru_add L l1 l2 l3 r1.2.2).bind (fun r2 =>
    ok L 1 r2.2.2)
    else none) :=
  (hh_Ev_eq pb_re_readRule).trans rfl
set_option maxRecDepth 20000 in
theorem re_readStatement_eq (L : Nat) (a1 : Nat) (s : hh_Sv) : re_readStatement L a1 s =
  (re_isWord L 0 s).bind (fun r1 =>
  if w32 r1.1 = 0 then
    (re_isWord L 7 r1.2.2).bind (fun r2 =>
    if w32 r2.1 = 0 then
      (re_isWord L 16 r2.2.2).bind (fun r3 =>
      if w32 r3.1 = 0 then
        ok L 0 r3.2.2
      else
        re_readStatement_b1 L a1 r3.2.2)
    else
      re_readStatement_b1 L a1 r2.2.2)
  else
    re_readStatement_b1 L a1 r1.2.2) :=
  (hh_Ev_eq pb_re_readStatement).trans rfl
set_option maxRecDepth 20000 in
theorem re_readStatement_b1_eq (L : Nat) (l1 : Nat) (s : hh_Sv) : re_readStatement_b1 L l1 s =
  (re_take L s).bind (fun r1 =>
  (re_readIf L l1 1 r1.2.2).bind (fun r2 =>
  if w32 r2.1 = 0 then
    ok L 0 r2.2.2
  else
    if kd L l1 = 26 then
    (ru_add L l1 r1.1 0 r2.2.2).bind (fun r3 =>
    ok L 1 r3.2.2)
    else none)) :=
  (hh_Ev_eq pb_re_readStatement).trans rfl
set_option maxRecDepth 20000 in
theorem re_readRules_eq (L : Nat) (a1 : Int) (a2 : Int) (a3 : Nat) (s : hh_Sv) : re_readRules L a1 a2 a3 s =
  if kd L a3 = 26 then
  (ru_clear L a3 s).bind (fun r1 =>
  (re_open L a1 r1.2.2).bind (fun r2 =>
  re_readRules_b1 L a2 a3 0 r2.2.2))
  else none :=
  (hh_Ev_eq pb_re_readRules).trans rfl
set_option maxRecDepth 20000 in
theorem re_readRules_b1_eq (L : Nat) (l2 : Int) (l3 : Nat) (l4 : Int) (s : hh_Sv) : re_readRules_b1 L l2 l3 l4 s =
  if w32 l4 < 24 then
    if 0 ≤ s 24 5 ∧ s 24 5 < 601 then
    if w32 (s 26 ((s 24 5).toNat)) = 0 then
      re_readRules_b5 L s
    else
      if w32 l2 = 0 then
        (re_readStatement L l3 s).bind (fun r1 =>
        if w32 r1.1 = 0 then
          ok L 0 r1.2.2
        else
          re_readRules_b1 L l2 l3 (l4 + 1) r1.2.2)
      else
        (re_readRule L l3 s).bind (fun r2 =>
        if w32 r2.1 = 0 then
          ok L 0 r2.2.2
        else
          re_readRules_b1 L l2 l3 (l4 + 1) r2.2.2)
    else none
  else
    re_readRules_b5 L s :=
  ((hh_Ev_eq pb_re_readRules).trans (show _ = (
  if w32 l4 < w32 24 then
    if 0 ≤ s 24 5 ∧ s 24 5 < 601 then
    if w32 (s 26 ((s 24 5).toNat)) = 0 then
      re_readRules_b5 L s
    else
      if w32 l2 = 0 then
        (re_readStatement L l3 s).bind (fun r1 =>
        if w32 r1.1 = 0 then
          ok L 0 r1.2.2
        else
          re_readRules_b1 L l2 l3 (l4 + 1) r1.2.2)
      else
        (re_readRule L l3 s).bind (fun r2 =>
        if w32 r2.1 = 0 then
          ok L 0 r2.2.2
        else
          re_readRules_b1 L l2 l3 (l4 + 1) r2.2.2)
    else none
  else
    re_readRules_b5 L s) from rfl)).trans (by simp only [k32_24])
set_option maxRecDepth 20000 in
theorem re_readRules_b5_eq (L : Nat) (s : hh_Sv) : re_readRules_b5 L s =
  if 0 ≤ s 24 5 ∧ s 24 5 < 601 then
  if w32 (s 26 ((s 24 5).toNat)) = 0 then
    ok L 1 s
  else
    ok L 0 s
  else none :=
  (hh_Ev_eq pb_re_readRules).trans rfl
set_option maxRecDepth 20000 in
theorem re_takeOf_eq (L : Nat) (s : hh_Sv) : re_takeOf L s =
  (re_isWord L 0 s).bind (fun r1 =>
  if w32 r1.1 = 0 then
    (re_isWord L 7 r1.2.2).bind (fun r2 =>
    if w32 r2.1 = 0 then
      ok L 0 r2.2.2
    else
      re_takeOf_b1 L r2.2.2)
  else
    re_takeOf_b1 L r1.2.2) :=
  (hh_Ev_eq pb_re_takeOf).trans rfl
set_option maxRecDepth 20000 in
theorem re_takeOf_b1_eq (L : Nat) (s : hh_Sv) : re_takeOf_b1 L s =
  (re_take L s).bind (fun r1 =>
  ok L 1 r1.2.2) :=
  (hh_Ev_eq pb_re_takeOf).trans rfl
set_option maxRecDepth 20000 in
theorem re_readTerm_eq (L : Nat) (a1 : Nat) (a2 : Int) (s : hh_Sv) : re_readTerm L a1 a2 s =
  if 0 ≤ s 24 5 ∧ s 24 5 < 601 then
  if w32 (s 26 ((s 24 5).toNat)) = 2 then
    (re_isNumber L 1 3 s).bind (fun r1 =>
    if w32 r1.1 = 0 then
      ok L 0 r1.2.2
    else
      (re_take L r1.2.2).bind (fun r2 =>
      re_readTerm_b2 L a1 a2 r2.1 r2.2.2))
  else
    re_readTerm_b2 L a1 a2 1 s
  else none :=
  ((hh_Ev_eq pb_re_readTerm).trans (show _ = (
  if 0 ≤ s 24 5 ∧ s 24 5 < 601 then
  if w32 (s 26 ((s 24 5).toNat)) = w32 2 then
    (re_isNumber L 1 3 s).bind (fun r1 =>
    if w32 r1.1 = 0 then
      ok L 0 r1.2.2
    else
      (re_take L r1.2.2).bind (fun r2 =>
      re_readTerm_b2 L a1 a2 r2.1 r2.2.2))
  else
    re_readTerm_b2 L a1 a2 1 s
  else none) from rfl)).trans (by simp only [k32_2])
set_option maxRecDepth 20000 in
theorem re_readTerm_b2_eq (L : Nat) (l1 : Nat) (l2 : Int) (l3 : Int) (s : hh_Sv) : re_readTerm_b2 L l1 l2 l3 s =
  (re_isWordOf L 9 15 s).bind (fun r1 =>
  if w32 r1.1 = 0 then
    ok L 0 r1.2.2
  else
    (re_take L r1.2.2).bind (fun r2 =>
    (re_isWord L 0 r2.2.2).bind (fun r3 =>
    if w32 r2.1 < 12 then
      re_readTerm_b4 L l1 l2 l3 r2.1 r3.1 r3.2.2
    else
      (re_takeOf L r3.2.2).bind (fun r4 =>
      if w32 r4.1 = 0 then
        ok L 0 r4.2.2
      else
        re_readTerm_b4 L l1 l2 l3 r2.1 r3.1 r4.2.2)))) :=
  ((hh_Ev_eq pb_re_readTerm).trans (show _ = (
  (re_isWordOf L 9 15 s).bind (fun r1 =>
  if w32 r1.1 = 0 then
    ok L 0 r1.2.2
  else
    (re_take L r1.2.2).bind (fun r2 =>
    (re_isWord L 0 r2.2.2).bind (fun r3 =>
    if w32 r2.1 < w32 12 then
      re_readTerm_b4 L l1 l2 l3 r2.1 r3.1 r3.2.2
    else
      (re_takeOf L r3.2.2).bind (fun r4 =>
      if w32 r4.1 = 0 then
        ok L 0 r4.2.2
      else
        re_readTerm_b4 L l1 l2 l3 r2.1 r3.1 r4.2.2))))) from rfl)).trans (by simp only [k32_12])
set_option maxRecDepth 20000 in
theorem re_readTerm_b4_eq (L : Nat) (l1 : Nat) (l2 : Int) (l3 : Int) (l4 : Int) (l5 : Int) (s : hh_Sv) : re_readTerm_b4 L l1 l2 l3 l4 l5 s =
  (re_isWord L 0 s).bind (fun r1 =>
  if w32 l4 = 14 then
    (re_takeOf L r1.2.2).bind (fun r2 =>
    if w32 r2.1 = 0 then
      ok L 0 r2.2.2
    else
      re_readTerm_b5 L l1 l2 l3 l4 l5 r1.1 r2.2.2)
  else
    re_readTerm_b5 L l1 l2 l3 l4 l5 r1.1 r1.2.2) :=
  ((hh_Ev_eq pb_re_readTerm).trans (show _ = (
  (re_isWord L 0 s).bind (fun r1 =>
  if w32 l4 = w32 14 then
    (re_takeOf L r1.2.2).bind (fun r2 =>
    if w32 r2.1 = 0 then
      ok L 0 r2.2.2
    else
      re_readTerm_b5 L l1 l2 l3 l4 l5 r1.1 r2.2.2)
  else
    re_readTerm_b5 L l1 l2 l3 l4 l5 r1.1 r1.2.2)) from rfl)).trans (by simp only [k32_14])
set_option maxRecDepth 20000 in
theorem re_readTerm_b5_eq (L : Nat) (l1 : Nat) (l2 : Int) (l3 : Int) (l4 : Int) (l5 : Int) (l6 : Int) (s : hh_Sv) : re_readTerm_b5 L l1 l2 l3 l4 l5 l6 s =
  if w32 l4 = 12 then
    (re_isNumber L 1 5 s).bind (fun r1 =>
    if w32 r1.1 = 0 then
      ok L 0 r1.2.2
    else
      (re_take L r1.2.2).bind (fun r2 =>
      re_readTerm_b7 L l1 l2 l3 l4 l5 l6 r2.1 r2.2.2))
  else
    re_readTerm_b7 L l1 l2 l3 l4 l5 l6 0 s :=
  ((hh_Ev_eq pb_re_readTerm).trans (show _ = (
  if w32 l4 = w32 12 then
    (re_isNumber L 1 5 s).bind (fun r1 =>
    if w32 r1.1 = 0 then
      ok L 0 r1.2.2
    else
      (re_take L r1.2.2).bind (fun r2 =>
      re_readTerm_b7 L l1 l2 l3 l4 l5 l6 r2.1 r2.2.2))
  else
    re_readTerm_b7 L l1 l2 l3 l4 l5 l6 0 s) from rfl)).trans (by simp only [k32_12])
set_option maxRecDepth 20000 in
theorem re_readTerm_b7_eq (L : Nat) (l1 : Nat) (l2 : Int) (l3 : Int) (l4 : Int) (l5 : Int) (l6 : Int) (l7 : Int) (s : hh_Sv) : re_readTerm_b7 L l1 l2 l3 l4 l5 l6 l7 s =
  if kd L l1 = 24 then
  (me_add L l1 l4 (l2 * l3) l5 l6 l7 s).bind (fun r1 =>
  ok L 1 r1.2.2)
  else none :=
  (hh_Ev_eq pb_re_readTerm).trans rfl
set_option maxRecDepth 20000 in
theorem re_readMeasure_eq (L : Nat) (a1 : Int) (a2 : Nat) (s : hh_Sv) : re_readMeasure L a1 a2 s =
  if kd L a2 = 24 then
  (me_clear L a2 s).bind (fun r1 =>
  (re_open L a1 r1.2.2).bind (fun r2 =>
  re_readMeasure_b1 L a2 1 1 r2.2.2))
  else none :=
  (hh_Ev_eq pb_re_readMeasure).trans rfl
set_option maxRecDepth 20000 in
theorem re_readMeasure_b1_eq (L : Nat) (l2 : Nat) (l3 : Int) (l4 : Int) (s : hh_Sv) : re_readMeasure_b1 L l2 l3 l4 s =
  if 4 < w32 l4 then
    ok L 0 s
  else
    (re_readTerm L l2 l3 s).bind (fun r1 =>
    if w32 r1.1 = 0 then
      ok L 0 r1.2.2
    else
      if 0 ≤ r1.2.2 24 5 ∧ r1.2.2 24 5 < 601 then
      if w32 (r1.2.2 26 ((r1.2.2 24 5).toNat)) = 0 then
        ok L 1 r1.2.2
      else
        (re_isSign L 43 r1.2.2).bind (fun r2 =>
        if w32 r2.1 = 0 then
          (re_isSign L 45 r2.2.2).bind (fun r3 =>
          if w32 r3.1 = 0 then
            re_readMeasure_b6 L l2 l4 0 r3.2.2
          else
            re_readMeasure_b6 L l2 l4 (-1) r3.2.2)
        else
          re_readMeasure_b6 L l2 l4 1 r2.2.2)
      else none) :=
  ((hh_Ev_eq pb_re_readMeasure).trans (show _ = (
  if w32 4 < w32 l4 then
    ok L 0 s
  else
    (re_readTerm L l2 l3 s).bind (fun r1 =>
    if w32 r1.1 = 0 then
      ok L 0 r1.2.2
    else
      if 0 ≤ r1.2.2 24 5 ∧ r1.2.2 24 5 < 601 then
      if w32 (r1.2.2 26 ((r1.2.2 24 5).toNat)) = 0 then
        ok L 1 r1.2.2
      else
        (re_isSign L 43 r1.2.2).bind (fun r2 =>
        if w32 r2.1 = 0 then
          (re_isSign L 45 r2.2.2).bind (fun r3 =>
          if w32 r3.1 = 0 then
            re_readMeasure_b6 L l2 l4 0 r3.2.2
          else
            re_readMeasure_b6 L l2 l4 (-1) r3.2.2)
        else
          re_readMeasure_b6 L l2 l4 1 r2.2.2)
      else none)) from rfl)).trans (by simp only [k32_4])
set_option maxRecDepth 20000 in
theorem re_readMeasure_b6_eq (L : Nat) (l2 : Nat) (l4 : Int) (k0 : Int) (s : hh_Sv) : re_readMeasure_b6 L l2 l4 k0 s =
  if w32 k0 = 0 then
    ok L 0 s
  else
    if w32 l4 = 4 then
      ok L 0 s
    else
      re_readMeasure_b1 L l2 k0 (l4 + 1) (up s 24 5 ((s 24 5) + 1)) :=
  ((hh_Ev_eq pb_re_readMeasure).trans (show _ = (
  if w32 k0 = 0 then
    ok L 0 s
  else
    if w32 l4 = w32 4 then
      ok L 0 s
    else
      re_readMeasure_b1 L l2 k0 (l4 + 1) (up s 24 5 ((s 24 5) + 1))) from rfl)).trans (by simp only [k32_4])
set_option maxRecDepth 20000 in
theorem ru_betOn_eq (L : Nat) (a0 : Nat) (a1 : Nat) (s : hh_Sv) : ru_betOn L a0 a1 s =
  ru_betOn_b1 L a0 a1 0 s :=
  (hh_Ev_eq pb_ru_betOn).trans rfl
set_option maxRecDepth 20000 in
theorem ru_betOn_b1_eq (L : Nat) (l0 : Nat) (l1 : Nat) (l2 : Int) (s : hh_Sv) : ru_betOn_b1 L l0 l1 l2 s =
  if kd L l0 = 26 then
  if w32 l2 < w32 (s l0 0) then
    if kd L l0 = 26 then
    (ru_holds L l0 l2 l1 s).bind (fun r1 =>
    if w32 r1.1 = 0 then
      ru_betOn_b1 L l0 l1 (l2 + 1) r1.2.2
    else
      if kd L l0 = 26 then
      if kd L (pf L l0 4) = 0 then
      if 0 ≤ l2 ∧ l2 < (ln L (pf L l0 4) : Int) then
      ok L (r1.2.2 (pf L l0 4) l2.toNat) r1.2.2
      else none
      else none
      else none)
    else none
  else
    ok L 16 s
  else none :=
  (hh_Ev_eq pb_ru_betOn).trans rfl
set_option maxRecDepth 20000 in
theorem hx_choose_eq (L : Nat) (a0 : Int) (a1 : Int) (s : hh_Sv) : hx_choose L a0 a1 s =
  if w32 a1 < 0 then
    ok L 0 s
  else
    if w32 a0 < w32 a1 then
      ok L 0 s
    else
      hx_choose_b3 L a0 a1 1 0 s :=
  (hh_Ev_eq pb_hx_choose).trans rfl
set_option maxRecDepth 20000 in
theorem hx_choose_b3_eq (L : Nat) (l0 : Int) (l1 : Int) (l2 : Int) (l4 : Int) (s : hh_Sv) : hx_choose_b3 L l0 l1 l2 l4 s =
  if w32 l4 < w32 l1 then
    if w64 (w32 (l4 + 1)) = 0 then none else
    hx_choose_b3 L l0 l1 (tDiv (w64 (l2 * (w32 (l0 - l4)))) (w64 (w32 (l4 + 1)))) (l4 + 1) s
  else
    ok L l2 s :=
  (hh_Ev_eq pb_hx_choose).trans rfl
set_option maxRecDepth 20000 in
theorem su_reckon_eq (L : Nat) (a2 : Int) (s : hh_Sv) : su_reckon L a2 s =
  su_reckon_b1 L a2 0 (up (up s 32 0 1) 32 1 0) :=
  (hh_Ev_eq pb_su_reckon).trans rfl
set_option maxRecDepth 20000 in
theorem su_reckon_b1_eq (L : Nat) (l2 : Int) (l3 : Int) (s : hh_Sv) : su_reckon_b1 L l2 l3 s =
  if w32 l3 < w32 (s 9 1) then
    (co_isOf L l3 l2 s).bind (fun r1 =>
    if w32 r1.1 = 0 then
      su_reckon_b1 L l2 (l3 + 1) r1.2.2
    else
      if 0 ≤ l3 ∧ l3 < 60 then
      if 0 ≤ l3 ∧ l3 < 60 then
      (jin_bitCount L (r1.2.2 12 l3.toNat) r1.2.2).bind (fun r2 =>
      (hx_choose L (r1.2.2 11 l3.toNat) r2.1 r2.2.2).bind (fun r3 =>
      if 0 < w32 (lCmp (r3.2.2 32 0) 0) then
        if w64 (r3.2.2 32 0) = 0 then none else
        if 0 < w32 (lCmp r3.1 (tDiv 4000000000000000000 (w64 (r3.2.2 32 0)))) then
          ok L 0 r3.2.2
        else
          (jin_bitCount L (bAnd (r1.2.2 12 l3.toNat) (iShr (r1.2.2 12 l3.toNat) 1)) (up r3.2.2 32 0 ((r3.2.2 32 0) * r3.1))).bind (fun r4 =>
          su_reckon_b1 L l2 (l3 + 1) (up r4.2.2 32 1 ((r3.2.2 32 1) + r4.1)))
      else
        ok L 0 r3.2.2))
      else none
      else none)
  else
    ok L 1 s :=
  ((hh_Ev_eq pb_su_reckon).trans (show _ = (
  if w32 l3 < w32 (s 9 1) then
    (co_isOf L l3 l2 s).bind (fun r1 =>
    if w32 r1.1 = 0 then
      su_reckon_b1 L l2 (l3 + 1) r1.2.2
    else
      if 0 ≤ l3 ∧ l3 < 60 then
      if 0 ≤ l3 ∧ l3 < 60 then
      (jin_bitCount L (r1.2.2 12 l3.toNat) r1.2.2).bind (fun r2 =>
      (hx_choose L (r1.2.2 11 l3.toNat) r2.1 r2.2.2).bind (fun r3 =>
      if 0 < w32 (lCmp (r3.2.2 32 0) 0) then
        if w64 (r3.2.2 32 0) = 0 then none else
        if 0 < w32 (lCmp r3.1 (tDiv (w64 4000000000000000000) (w64 (r3.2.2 32 0)))) then
          ok L 0 r3.2.2
        else
          (jin_bitCount L (bAnd (r1.2.2 12 l3.toNat) (iShr (r1.2.2 12 l3.toNat) 1)) (up r3.2.2 32 0 ((r3.2.2 32 0) * r3.1))).bind (fun r4 =>
          su_reckon_b1 L l2 (l3 + 1) (up r4.2.2 32 1 ((r3.2.2 32 1) + r4.1)))
      else
        ok L 0 r3.2.2))
      else none
      else none)
  else
    ok L 1 s) from rfl)).trans (by simp only [k64_4000000000000000000])
set_option maxRecDepth 20000 in
theorem jar_fill_eq (L : Nat) (a0 : Nat) (a1 : Int) (s : hh_Sv) : jar_fill L a0 a1 s =
  if kd L a0 < 20 then
  jar_fill_b1 L a0 a1 0 (ln L a0 : Int) s
  else none :=
  (hh_Ev_eq pb_jar_fill).trans rfl
set_option maxRecDepth 20000 in
theorem jar_fill_b1_eq (L : Nat) (l0 : Nat) (l1 : Int) (l3 : Int) (l4 : Int) (s : hh_Sv) : jar_fill_b1 L l0 l1 l3 l4 s =
  if w32 l3 < w32 l4 then
    if kd L l0 = 3 then
    if 8 ≤ l0 then
    if 0 ≤ l3 ∧ l3 < (ln L l0 : Int) then
    jar_fill_b1 L l0 l1 (l3 + 1) l4 (up s l0 l3.toNat l1)
    else none
    else none
    else none
  else
    ok L 0 s :=
  (hh_Ev_eq pb_jar_fill).trans rfl
set_option maxRecDepth 20000 in
theorem su_ordersOfRow_eq (L : Nat) (a0 : Int) (a1 : Int) (a2 : Int) (s : hh_Sv) : su_ordersOfRow L a0 a1 a2 s =
  if w32 a1 = 0 then
    ok L 1 s
  else
    (hx_choose L (a1 - 1) ((a1 - a2) - 1) s).bind (fun r1 =>
    (hx_choose L ((a0 - a1) + 1) (a1 - a2) r1.2.2).bind (fun r2 =>
    ok L (r1.1 * r2.1) r2.2.2)) :=
  (hh_Ev_eq pb_su_ordersOfRow).trans rfl
set_option maxRecDepth 20000 in
theorem su_join_eq (L : Nat) (a1 : Int) (a2 : Int) (s : hh_Sv) : su_join L a1 a2 s =
  (jma_max L 0 (a2 - ((a1 - a2) + 1)) s).bind (fun r1 =>
  (jma_max L 0 (a2 - 1) r1.2.2).bind (fun r2 =>
  su_join_b1 L a1 a2 r1.1 r2.1 r1.1 r2.2.2)) :=
  (hh_Ev_eq pb_su_join).trans rfl
set_option maxRecDepth 20000 in
theorem su_join_b1_eq (L : Nat) (l1 : Int) (l2 : Int) (l3 : Int) (l4 : Int) (l5 : Int) (s : hh_Sv) : su_join_b1 L l1 l2 l3 l4 l5 s =
  if w32 l4 < w32 l5 then
    su_join_b3 L l3 l4 ((s 32 4) + l4) (up s 32 4 ((s 32 4) + l4))
  else
    (su_ordersOfRow L l1 l2 l5 s).bind (fun r1 =>
    if 0 ≤ l5 ∧ l5 < 24 then
    su_join_b1 L l1 l2 l3 l4 (l5 + 1) (up r1.2.2 34 l5.toNat r1.1)
    else none) :=
  (hh_Ev_eq pb_su_join).trans rfl
set_option maxRecDepth 20000 in
theorem su_join_b3_eq (L : Nat) (l3 : Int) (l4 : Int) (l5 : Int) (s : hh_Sv) : su_join_b3 L l3 l4 l5 s =
  if w32 l5 < 0 then
    ok L 0 s
  else
    su_join_b4 L l3 l4 l5 0 l3 s :=
  (hh_Ev_eq pb_su_join).trans rfl
set_option maxRecDepth 20000 in
theorem su_join_b4_eq (L : Nat) (l3 : Int) (l4 : Int) (l5 : Int) (l6 : Int) (l8 : Int) (s : hh_Sv) : su_join_b4 L l3 l4 l5 l6 l8 s =
  if w32 l4 < w32 l8 then
    su_join_b5 L l3 l4 l5 l6 s
  else
    if w32 l5 < w32 l8 then
      su_join_b5 L l3 l4 l5 l6 s
    else
      if 0 ≤ l5 - l8 ∧ l5 - l8 < 1381 then
      if 0 ≤ l8 ∧ l8 < 24 then
      su_join_b4 L l3 l4 l5 (l6 + ((s 33 ((l5 - l8).toNat)) * (s 34 l8.toNat))) (l8 + 1) s
      else none
      else none :=
  (hh_Ev_eq pb_su_join).trans rfl
set_option maxRecDepth 20000 in
theorem su_join_b5_eq (L : Nat) (l3 : Int) (l4 : Int) (l5 : Int) (l6 : Int) (s : hh_Sv) : su_join_b5 L l3 l4 l5 l6 s =
  if 0 ≤ l5 ∧ l5 < 1381 then
  su_join_b3 L l3 l4 (l5 + (-1)) (up s 33 l5.toNat l6)
  else none :=
  (hh_Ev_eq pb_su_join).trans rfl
set_option maxRecDepth 20000 in
theorem su_atLeast_eq (L : Nat) (a2 : Int) (s : hh_Sv) : su_atLeast L a2 s =
  (jar_fill L 33 0 s).bind (fun r1 =>
  if 0 ≤ 0 ∧ 0 < 1381 then
  su_atLeast_b1 L a2 0 (up (up r1.2.2 33 0 1) 32 4 0)
  else none) :=
  (hh_Ev_eq pb_su_atLeast).trans rfl
set_option maxRecDepth 20000 in
theorem su_atLeast_b1_eq (L : Nat) (l2 : Int) (l3 : Int) (s : hh_Sv) : su_atLeast_b1 L l2 l3 s =
  if w32 l3 < w32 (s 9 1) then
    (co_isOf L l3 l2 s).bind (fun r1 =>
    if w32 r1.1 = 0 then
      su_atLeast_b1 L l2 (l3 + 1) r1.2.2
    else
      if 0 ≤ l3 ∧ l3 < 60 then
      if 0 ≤ l3 ∧ l3 < 60 then
      (jin_bitCount L (r1.2.2 12 l3.toNat) r1.2.2).bind (fun r2 =>
      (su_join L (r1.2.2 11 l3.toNat) r2.1 r2.2.2).bind (fun r3 =>
      su_atLeast_b1 L l2 (l3 + 1) r3.2.2))
      else none
      else none)
  else
    su_atLeast_b4 L 0 (s 32 1) s :=
  (hh_Ev_eq pb_su_atLeast).trans rfl
set_option maxRecDepth 20000 in
theorem su_atLeast_b4_eq (L : Nat) (l3 : Int) (l5 : Int) (s : hh_Sv) : su_atLeast_b4 L l3 l5 s =
  if w32 (s 32 4) < w32 l5 then
    ok L l3 s
  else
    if 0 ≤ l5 ∧ l5 < 1381 then
    su_atLeast_b4 L (l3 + (s 33 l5.toNat)) (l5 + 1) s
    else none :=
  (hh_Ev_eq pb_su_atLeast).trans rfl
set_option maxRecDepth 20000 in
theorem tr_lay_eq (L : Nat) (a1 : Int) (a2 : Int) (a3 : Int) (s : hh_Sv) : tr_lay L a1 a2 a3 s =
  (jma_min L 10 (a2 + a3) s).bind (fun r1 =>
  (jma_max L 0 (a2 - a3) r1.2.2).bind (fun r2 =>
  (jar_fill L 36 0 r2.2.2).bind (fun r3 =>
  (jar_fill L 37 0 r3.2.2).bind (fun r4 =>
  if 0 ≤ 0 ∧ 0 < 13 then
  if 0 ≤ 0 ∧ 0 < 13 then
  tr_lay_b1 L a1 r1.1 r2.1 1 (up (up r4.2.2 36 0 (w32 a2)) 37 0 (w32 (10 - a2)))
  else none
  else none)))) :=
  (hh_Ev_eq pb_tr_lay).trans rfl
set_option maxRecDepth 20000 in
theorem tr_lay_b1_eq (L : Nat) (l1 : Int) (l4 : Int) (l5 : Int) (l6 : Int) (s : hh_Sv) : tr_lay_b1 L l1 l4 l5 l6 s =
  if w32 l6 < w32 l1 then
    tr_lay_b2 L l1 l4 l5 l6 l6 s
  else
    ok L 0 s :=
  (hh_Ev_eq pb_tr_lay).trans rfl
set_option maxRecDepth 20000 in
theorem tr_lay_b2_eq (L : Nat) (l1 : Int) (l4 : Int) (l5 : Int) (l6 : Int) (l7 : Int) (s : hh_Sv) : tr_lay_b2 L l1 l4 l5 l6 l7 s =
  if w32 l7 < 0 then
    tr_lay_b1 L l1 l4 l5 (l6 + 1) s
  else
    if 0 ≤ l7 ∧ l7 < 13 then
    if 0 ≤ l7 ∧ l7 < 13 then
    if 0 < w32 l7 then
      if 0 ≤ l7 - 1 ∧ l7 - 1 < 13 then
      tr_lay_b4 L l1 l4 l5 l6 l7 (s 36 l7.toNat) l7 ((s 37 l7.toNat) * (w32 l5)) ((s 36 ((l7 - 1).toNat)) * (w32 l4)) s
      else none
    else
      tr_lay_b4 L l1 l4 l5 l6 l7 (s 36 l7.toNat) l7 ((s 37 l7.toNat) * (w32 l5)) 0 s
    else none
    else none :=
  (hh_Ev_eq pb_tr_lay).trans rfl
set_option maxRecDepth 20000 in
theorem tr_lay_b4_eq (L : Nat) (l1 : Int) (l4 : Int) (l5 : Int) (l6 : Int) (l7 : Int) (l8 : Int) (k1 : Int) (k2 : Int) (k3 : Int) (s : hh_Sv) : tr_lay_b4 L l1 l4 l5 l6 l7 l8 k1 k2 k3 s =
  if 0 ≤ k1 ∧ k1 < 13 then
  if 0 ≤ l7 ∧ l7 < 13 then
  if 0 ≤ l7 ∧ l7 < 13 then
  tr_lay_b2 L l1 l4 l5 l6 (l7 + (-1)) (up (up s 36 k1.toNat (k2 + k3)) 37 l7.toNat (((s 37 l7.toNat) * (w32 (10 - l5))) + (l8 * (w32 (10 - l4)))))
  else none
  else none
  else none :=
  (hh_Ev_eq pb_tr_lay).trans rfl
set_option maxRecDepth 20000 in
theorem tr_lineAt_eq (L : Nat) (a1 : Int) (a2 : Int) (a3 : Int) (s : hh_Sv) : tr_lineAt L a1 a2 a3 s =
  (tr_lay L a1 a2 0 s).bind (fun r1 =>
  tr_lineAt_b1 L a1 a3 a1 0 (a1 - 1) r1.2.2) :=
  (hh_Ev_eq pb_tr_lineAt).trans rfl
set_option maxRecDepth 20000 in
theorem tr_lineAt_b1_eq (L : Nat) (l1 : Int) (l3 : Int) (l4 : Int) (l5 : Int) (l7 : Int) (s : hh_Sv) : tr_lineAt_b1 L l1 l3 l4 l5 l7 s =
  if w32 l7 < 0 then
    ok L l4 s
  else
    if 0 ≤ l7 ∧ l7 < 13 then
    if 0 ≤ l7 ∧ l7 < 13 then
    if 0 ≤ l1 ∧ l1 < 17 then
    if 0 < w32 (lCmp ((l5 + ((s 36 l7.toNat) + (s 37 l7.toNat))) * 100) ((w32 l3) * (s 2 l1.toNat))) then
      tr_lineAt_b1 L l1 l3 l4 (l5 + ((s 36 l7.toNat) + (s 37 l7.toNat))) (l7 + (-1)) s
    else
      tr_lineAt_b1 L l1 l3 l7 (l5 + ((s 36 l7.toNat) + (s 37 l7.toNat))) (l7 + (-1)) s
    else none
    else none
    else none :=
  (hh_Ev_eq pb_tr_lineAt).trans rfl
set_option maxRecDepth 20000 in
theorem tr_atLeast_eq (L : Nat) (a1 : Int) (a2 : Int) (a3 : Int) (a4 : Int) (s : hh_Sv) : tr_atLeast L a1 a2 a3 a4 s =
  (tr_lay L a1 a2 a3 s).bind (fun r1 =>
  tr_atLeast_b1 L a1 0 a4 r1.2.2) :=
  (hh_Ev_eq pb_tr_atLeast).trans rfl
set_option maxRecDepth 20000 in
theorem tr_atLeast_b1_eq (L : Nat) (l1 : Int) (l5 : Int) (l7 : Int) (s : hh_Sv) : tr_atLeast_b1 L l1 l5 l7 s =
  if w32 l7 < w32 l1 then
    if 0 ≤ l7 ∧ l7 < 13 then
    if 0 ≤ l7 ∧ l7 < 13 then
    tr_atLeast_b1 L l1 (l5 + ((s 36 l7.toNat) + (s 37 l7.toNat))) (l7 + 1) s
    else none
    else none
  else
    ok L l5 s :=
  (hh_Ev_eq pb_tr_atLeast).trans rfl
set_option maxRecDepth 20000 in
theorem tr_isSeen_eq (L : Nat) (a1 : Int) (a2 : Int) (a3 : Int) (a4 : Int) (a5 : Int) (s : hh_Sv) : tr_isSeen L a1 a2 a3 a4 a5 s =
  (tr_lineAt L a1 a2 a4 s).bind (fun r1 =>
  (tr_atLeast L a1 a2 a3 r1.1 r1.2.2).bind (fun r2 =>
  if 0 ≤ a1 ∧ a1 < 17 then
  if w32 (lCmp (r2.1 * 100) ((w32 a5) * (r2.2.2 2 a1.toNat))) < 0 then
    ok L 0 r2.2.2
  else
    ok L 1 r2.2.2
  else none)) :=
  (hh_Ev_eq pb_tr_isSeen).trans rfl
set_option maxRecDepth 20000 in
theorem hx_feed_eq (L : Nat) (a1 : Int) (a2 : Int) (a3 : Int) (a4 : Int) (a5 : Int) (s : hh_Sv) : hx_feed L a1 a2 a3 a4 a5 s =
  if 600 < w32 ((s 24 0) + 20) then
    ok L (-1) s
  else
    (re_put L a1 s).bind (fun r1 =>
    (re_put L a2 r1.2.2).bind (fun r2 =>
    (re_put L a3 r2.2.2).bind (fun r3 =>
    (re_put L a4 r3.2.2).bind (fun r4 =>
    (re_put L a5 r4.2.2).bind (fun r5 =>
    ok L (r5.2.2 24 0) r5.2.2))))) :=
  ((hh_Ev_eq pb_hx_feed).trans (show _ = (
  if w32 600 < w32 ((s 24 0) + 20) then
    ok L (-1) s
  else
    (re_put L a1 s).bind (fun r1 =>
    (re_put L a2 r1.2.2).bind (fun r2 =>
    (re_put L a3 r2.2.2).bind (fun r3 =>
    (re_put L a4 r3.2.2).bind (fun r4 =>
    (re_put L a5 r4.2.2).bind (fun r5 =>
    ok L (r5.2.2 24 0) r5.2.2)))))) from rfl)).trans (by simp only [k32_600])
set_option maxRecDepth 20000 in
theorem hx_isOnTape_eq (L : Nat) (a1 : Int) (s : hh_Sv) : hx_isOnTape L a1 s =
  if w32 a1 < 0 then
    hx_isOnTape_b1 L s
  else
    if w32 (s 24 0) < w32 a1 then
      hx_isOnTape_b1 L s
    else
      ok L 1 s :=
  (hh_Ev_eq pb_hx_isOnTape).trans rfl
set_option maxRecDepth 20000 in
theorem hx_isOnTape_b1_eq (L : Nat) (s : hh_Sv) : hx_isOnTape_b1 L s =
  ok L 0 s :=
  (hh_Ev_eq pb_hx_isOnTape).trans rfl
set_option maxRecDepth 20000 in
theorem hx_closeText_eq (L : Nat) (a1 : Int) (s : hh_Sv) : hx_closeText L a1 s =
  if w32 a1 = 0 then
    (re_placeNow L s).bind (fun r1 =>
    hx_closeText_b2 L a1 r1.1 r1.2.2)
  else
    hx_closeText_b2 L a1 (-1) s :=
  (hh_Ev_eq pb_hx_closeText).trans rfl
set_option maxRecDepth 20000 in
theorem hx_closeText_b2_eq (L : Nat) (l1 : Int) (k1 : Int) (s : hh_Sv) : hx_closeText_b2 L l1 k1 s =
  if l1 = 0 ∨ l1 = 1 then
  ok L l1 (up (up s 8 9 k1) 24 0 0)
  else none :=
  (hh_Ev_eq pb_hx_closeText).trans rfl
set_option maxRecDepth 20000 in
theorem hx_law_eq (L : Nat) (a1 : Int) (a2 : Int) (s : hh_Sv) : hx_law L a1 a2 s =
  (hx_isOnTape L a2 s).bind (fun r1 =>
  if w32 r1.1 = 0 then
    ok L (-2) r1.2.2
  else
    (co_hasThrower L a1 r1.2.2).bind (fun r2 =>
    if w32 r2.1 = 0 then
      ok L (-2) r2.2.2
    else
      (re_readRules L a2 1 ((r2.2.2 8 5).toNat) r2.2.2).bind (fun r3 =>
      (hx_closeText L r3.1 r3.2.2).bind (fun r4 =>
      if w32 r4.1 = 0 then
        ok L (-1) r4.2.2
      else
        if 0 ≤ a1 ∧ a1 < 12 then
        if kd L ((r4.2.2 8 5).toNat) = 26 then
        if 8 ≤ 16 ∧ 8 ≤ (r4.2.2 8 5).toNat then
        if 0 ≤ a1 ∧ a1 < 12 then
        if 0 < (r4.2.2 16 a1.toNat).toNat then
        if 0 ≤ a1 ∧ a1 < 12 then
        if kd L (((up r4.2.2 16 a1.toNat (((r4.2.2 8 5).toNat : Nat) : Int)) 16 a1.toNat).toNat) = 26 then
        ok L ((up (up r4.2.2 16 a1.toNat (((r4.2.2 8 5).toNat : Nat) : Int)) 8 5 (((r4.2.2 16 a1.toNat).toNat : Nat) : Int)) (((up r4.2.2 16 a1.toNat (((r4.2.2 8 5).toNat : Nat) : Int)) 16 a1.toNat).toNat) 0) (up (up r4.2.2 16 a1.toNat (((r4.2.2 8 5).toNat : Nat) : Int)) 8 5 (((r4.2.2 16 a1.toNat).toNat : Nat) : Int))
        else none
        else none
        else none
        else none
        else none
        else none
        else none)))) :=
  (hh_Ev_eq pb_hx_law).trans rfl
set_option maxRecDepth 20000 in
theorem hx_isIn_eq (L : Nat) (a0 : Int) (a1 : Int) (a2 : Int) (s : hh_Sv) : hx_isIn L a0 a1 a2 s =
  if w32 a0 < w32 a1 then
    hx_isIn_b1 L s
  else
    if w32 a2 < w32 a0 then
      hx_isIn_b1 L s
    else
      ok L 1 s :=
  (hh_Ev_eq pb_hx_isIn).trans rfl
set_option maxRecDepth 20000 in
theorem hx_isIn_b1_eq (L : Nat) (s : hh_Sv) : hx_isIn_b1 L s =
  ok L 0 s :=
  (hh_Ev_eq pb_hx_isIn).trans rfl
set_option maxRecDepth 20000 in
theorem hx_isWatcher_eq (L : Nat) (a0 : Int) (s : hh_Sv) : hx_isWatcher L a0 s =
  (hx_isIn L a0 0 3 s).bind (fun r1 =>
  if r1.1 = 0 ∨ r1.1 = 1 then
  ok L r1.1 r1.2.2
  else none) :=
  (hh_Ev_eq pb_hx_isWatcher).trans rfl
set_option maxRecDepth 20000 in
theorem hx_belief_eq (L : Nat) (a1 : Int) (a2 : Int) (s : hh_Sv) : hx_belief L a1 a2 s =
  (hx_isOnTape L a2 s).bind (fun r1 =>
  if w32 r1.1 = 0 then
    ok L (-2) r1.2.2
  else
    (hx_isWatcher L a1 r1.2.2).bind (fun r2 =>
    if w32 r2.1 = 0 then
      ok L (-2) r2.2.2
    else
      (re_readRules L a2 0 ((r2.2.2 8 5).toNat) r2.2.2).bind (fun r3 =>
      (hx_closeText L r3.1 r3.2.2).bind (fun r4 =>
      if w32 r4.1 = 0 then
        ok L (-1) r4.2.2
      else
        if 0 ≤ a1 ∧ a1 < 4 then
        if kd L ((r4.2.2 8 5).toNat) = 26 then
        if 8 ≤ 17 ∧ 8 ≤ (r4.2.2 8 5).toNat then
        if 0 ≤ a1 ∧ a1 < 4 then
        if 0 < (r4.2.2 17 a1.toNat).toNat then
        if 0 ≤ a1 ∧ a1 < 4 then
        if kd L (((up r4.2.2 17 a1.toNat (((r4.2.2 8 5).toNat : Nat) : Int)) 17 a1.toNat).toNat) = 26 then
        ok L ((up (up r4.2.2 17 a1.toNat (((r4.2.2 8 5).toNat : Nat) : Int)) 8 5 (((r4.2.2 17 a1.toNat).toNat : Nat) : Int)) (((up r4.2.2 17 a1.toNat (((r4.2.2 8 5).toNat : Nat) : Int)) 17 a1.toNat).toNat) 0) (up (up r4.2.2 17 a1.toNat (((r4.2.2 8 5).toNat : Nat) : Int)) 8 5 (((r4.2.2 17 a1.toNat).toNat : Nat) : Int))
        else none
        else none
        else none
        else none
        else none
        else none
        else none)))) :=
  (hh_Ev_eq pb_hx_belief).trans rfl
set_option maxRecDepth 20000 in
theorem hx_measure_eq (L : Nat) (a1 : Int) (s : hh_Sv) : hx_measure L a1 s =
  (hx_isOnTape L a1 s).bind (fun r1 =>
  if w32 r1.1 = 0 then
    ok L (-2) r1.2.2
  else
    if w32 (r1.2.2 8 7) < 12 then
      if 0 ≤ r1.2.2 8 7 ∧ r1.2.2 8 7 < 12 then
      (re_readMeasure L a1 (pf L 23 ((r1.2.2 8 7).toNat)) r1.2.2).bind (fun r2 =>
      (hx_closeText L r2.1 r2.2.2).bind (fun r3 =>
      if w32 r3.1 = 0 then
        ok L (-1) r3.2.2
      else
        ok L (((r3.2.2 8 7) + 1) - 1) (up r3.2.2 8 7 ((r3.2.2 8 7) + 1))))
      else none
    else
      ok L (-3) r1.2.2) :=
  ((hh_Ev_eq pb_hx_measure).trans (show _ = (
  (hx_isOnTape L a1 s).bind (fun r1 =>
  if w32 r1.1 = 0 then
    ok L (-2) r1.2.2
  else
    if w32 (r1.2.2 8 7) < w32 12 then
      if 0 ≤ r1.2.2 8 7 ∧ r1.2.2 8 7 < 12 then
      (re_readMeasure L a1 (pf L 23 ((r1.2.2 8 7).toNat)) r1.2.2).bind (fun r2 =>
      (hx_closeText L r2.1 r2.2.2).bind (fun r3 =>
      if w32 r3.1 = 0 then
        ok L (-1) r3.2.2
      else
        ok L (((r3.2.2 8 7) + 1) - 1) (up r3.2.2 8 7 ((r3.2.2 8 7) + 1))))
      else none
    else
      ok L (-3) r1.2.2)) from rfl)).trans (by simp only [k32_12])
set_option maxRecDepth 20000 in
theorem hx_fault_eq (L : Nat) (s : hh_Sv) : hx_fault L s =
  ok L (s 8 9) s :=
  (hh_Ev_eq pb_hx_fault).trans rfl
set_option maxRecDepth 20000 in
theorem hx_thrower_eq (L : Nat) (s : hh_Sv) : hx_thrower L s =
  if w32 (s 9 0) < 12 then
    ok L (((s 9 0) + 1) - 1) (up s 9 0 ((s 9 0) + 1))
  else
    ok L (-1) s :=
  ((hh_Ev_eq pb_hx_thrower).trans (show _ = (
  if w32 (s 9 0) < w32 12 then
    ok L (((s 9 0) + 1) - 1) (up s 9 0 ((s 9 0) + 1))
  else
    ok L (-1) s) from rfl)).trans (by simp only [k32_12])
set_option maxRecDepth 20000 in
theorem hx_seed_eq (L : Nat) (a1 : Int) (s : hh_Sv) : hx_seed L a1 s =
  if w32 a1 < 0 then
    ok L 0 s
  else
    if 999999999 < w32 a1 then
      ok L 0 s
    else
      ok L 1 (up s 9 2 (w32 a1)) :=
  ((hh_Ev_eq pb_hx_seed).trans (show _ = (
  if w32 a1 < 0 then
    ok L 0 s
  else
    if w32 999999999 < w32 a1 then
      ok L 0 s
    else
      ok L 1 (up s 9 2 (w32 a1))) from rfl)).trans (by simp only [k32_999999999])
set_option maxRecDepth 20000 in
theorem hx_row_eq (L : Nat) (a1 : Int) (s : hh_Sv) : hx_row L a1 s =
  (co_hasThrower L a1 s).bind (fun r1 =>
  if w32 r1.1 = 0 then
    ok L (-1) r1.2.2
  else
    if w32 (r1.2.2 9 1) < 60 then
      (co_addRow L a1 r1.2.2).bind (fun r2 =>
      ok L r2.1 r2.2.2)
    else
      ok L (-1) r1.2.2) :=
  ((hh_Ev_eq pb_hx_row).trans (show _ = (
  (co_hasThrower L a1 s).bind (fun r1 =>
  if w32 r1.1 = 0 then
    ok L (-1) r1.2.2
  else
    if w32 (r1.2.2 9 1) < w32 60 then
      (co_addRow L a1 r1.2.2).bind (fun r2 =>
      ok L r2.1 r2.2.2)
    else
      ok L (-1) r1.2.2)) from rfl)).trans (by simp only [k32_60])
set_option maxRecDepth 20000 in
theorem hx_thrown_eq (L : Nat) (a1 : Int) (a2 : Int) (a3 : Int) (a4 : Int) (s : hh_Sv) : hx_thrown L a1 a2 a3 a4 s =
  (co_hasRow L a1 s).bind (fun r1 =>
  if w32 r1.1 = 0 then
    ok L (-1) r1.2.2
  else
    (hx_isIn L a3 0 3 r1.2.2).bind (fun r2 =>
    if w32 r2.1 = 0 then
      ok L (-1) r2.2.2
    else
      (hx_isIn L a4 0 3 r2.2.2).bind (fun r3 =>
      if w32 r3.1 = 0 then
        ok L (-1) r3.2.2
      else
        if 0 ≤ a1 ∧ a1 < 60 then
        if w32 (r3.2.2 11 a1.toNat) < 24 then
          (co_addThrow L a1 a2 a3 a4 r3.2.2).bind (fun r4 =>
          if 0 ≤ a1 ∧ a1 < 60 then
          ok L (r4.2.2 11 a1.toNat) r4.2.2
          else none)
        else
          ok L (-1) r3.2.2
        else none))) :=
  ((hh_Ev_eq pb_hx_thrown).trans (show _ = (
  (co_hasRow L a1 s).bind (fun r1 =>
  if w32 r1.1 = 0 then
    ok L (-1) r1.2.2
  else
    (hx_isIn L a3 0 3 r1.2.2).bind (fun r2 =>
    if w32 r2.1 = 0 then
      ok L (-1) r2.2.2
    else
      (hx_isIn L a4 0 3 r2.2.2).bind (fun r3 =>
      if w32 r3.1 = 0 then
        ok L (-1) r3.2.2
      else
        if 0 ≤ a1 ∧ a1 < 60 then
        if w32 (r3.2.2 11 a1.toNat) < w32 24 then
          (co_addThrow L a1 a2 a3 a4 r3.2.2).bind (fun r4 =>
          if 0 ≤ a1 ∧ a1 < 60 then
          ok L (r4.2.2 11 a1.toNat) r4.2.2
          else none)
        else
          ok L (-1) r3.2.2
        else none)))) from rfl)).trans (by simp only [k32_24])
set_option maxRecDepth 20000 in
theorem hx_lawOf_eq (L : Nat) (a1 : Int) (s : hh_Sv) : hx_lawOf L a1 s =
  if 0 ≤ a1 ∧ a1 < 60 then
  if 0 ≤ s 10 a1.toNat ∧ s 10 a1.toNat < 12 then
  if 0 < (s 16 ((s 10 a1.toNat).toNat)).toNat then
  ok L (((s 16 ((s 10 a1.toNat).toNat)).toNat : Nat) : Int) s
  else none
  else none
  else none :=
  (hh_Ev_eq pb_hx_lawOf).trans rfl
set_option maxRecDepth 20000 in
theorem hx_walkTo_eq (L : Nat) (a1 : Int) (a2 : Int) (s : hh_Sv) : hx_walkTo L a1 a2 s =
  (hx_lawOf L a1 s).bind (fun r1 =>
  (as_clear L 29 r1.2.2).bind (fun r2 =>
  hx_walkTo_b1 L a1 a2 r1.1.toNat 0 r2.2.2)) :=
  (hh_Ev_eq pb_hx_walkTo).trans rfl
set_option maxRecDepth 20000 in
theorem hx_walkTo_b1_eq (L : Nat) (l1 : Int) (l2 : Int) (l3 : Nat) (l4 : Int) (s : hh_Sv) : hx_walkTo_b1 L l1 l2 l3 l4 s =
  if w32 l4 < w32 l2 then
    (co_show L l1 l4 s).bind (fun r1 =>
    (co_isHitAt L l1 l4 r1.2.2).bind (fun r2 =>
    if kd L l3 = 26 then
    (ru_goOn L l3 29 r2.1 r2.2.2).bind (fun r3 =>
    hx_walkTo_b1 L l1 l2 l3 (l4 + 1) r3.2.2)
    else none))
  else
    if 0 ≤ l1 ∧ l1 < 60 then
    if w32 l2 < w32 (s 11 l1.toNat) then
      (co_show L l1 l2 s).bind (fun r4 =>
      ok L 0 r4.2.2)
    else
      ok L 0 s
    else none :=
  (hh_Ev_eq pb_hx_walkTo).trans rfl
set_option maxRecDepth 20000 in
theorem hx_drawn_eq (L : Nat) (a0 : Int) (s : hh_Sv) : hx_drawn L a0 s =
  ok L ((a0 * 6364136223846793005) + 1442695040888963407) s :=
  (hh_Ev_eq pb_hx_drawn).trans rfl
set_option maxRecDepth 20000 in
theorem hx_isHit_eq (L : Nat) (a0 : Int) (a1 : Int) (s : hh_Sv) : hx_isHit L a0 a1 s =
  if w32 (lCmp (tMod (w64 (lUshr a0 33)) 100) (w32 a1)) < 0 then
    ok L 1 s
  else
    ok L 0 s :=
  ((hh_Ev_eq pb_hx_isHit).trans (show _ = (
  if w64 100 = 0 then none else
  if w32 (lCmp (tMod (w64 (lUshr a0 33)) (w64 100)) (w32 a1)) < 0 then
    ok L 1 s
  else
    ok L 0 s) from rfl)).trans (by simp only [k64_100, kz_100, if_false, if_true])
set_option maxRecDepth 20000 in
theorem hx_deal_eq (L : Nat) (a1 : Int) (a2 : Int) (s : hh_Sv) : hx_deal L a1 a2 s =
  (co_hasRow L a1 s).bind (fun r1 =>
  if w32 r1.1 = 0 then
    ok L (-1) r1.2.2
  else
    (hx_isIn L a2 1 24 r1.2.2).bind (fun r2 =>
    if w32 r2.1 = 0 then
      ok L (-1) r2.2.2
    else
      if 0 ≤ a1 ∧ a1 < 60 then
      if 24 < w32 ((r2.2.2 11 a1.toNat) + a2) then
        ok L (-1) r2.2.2
      else
        (hx_lawOf L a1 r2.2.2).bind (fun r3 =>
        if 0 ≤ a1 ∧ a1 < 60 then
        (hx_walkTo L a1 (r3.2.2 11 a1.toNat) r3.2.2).bind (fun r4 =>
        hx_deal_b3 L a1 a2 r3.1.toNat 0 0 r4.2.2)
        else none)
      else none)) :=
  ((hh_Ev_eq pb_hx_deal).trans (show _ = (
  (co_hasRow L a1 s).bind (fun r1 =>
  if w32 r1.1 = 0 then
    ok L (-1) r1.2.2
  else
    (hx_isIn L a2 1 24 r1.2.2).bind (fun r2 =>
    if w32 r2.1 = 0 then
      ok L (-1) r2.2.2
    else
      if 0 ≤ a1 ∧ a1 < 60 then
      if w32 24 < w32 ((r2.2.2 11 a1.toNat) + a2) then
        ok L (-1) r2.2.2
      else
        (hx_lawOf L a1 r2.2.2).bind (fun r3 =>
        if 0 ≤ a1 ∧ a1 < 60 then
        (hx_walkTo L a1 (r3.2.2 11 a1.toNat) r3.2.2).bind (fun r4 =>
        hx_deal_b3 L a1 a2 r3.1.toNat 0 0 r4.2.2)
        else none)
      else none))) from rfl)).trans (by simp only [k32_24])
set_option maxRecDepth 20000 in
theorem hx_deal_b3_eq (L : Nat) (l1 : Int) (l2 : Int) (l3 : Nat) (l4 : Int) (l5 : Int) (s : hh_Sv) : hx_deal_b3 L l1 l2 l3 l4 l5 s =
  if w32 l5 < w32 l2 then
    if kd L l3 = 26 then
    (ru_aim L l3 29 s).bind (fun r1 =>
    (hx_drawn L (r1.2.2 9 2) r1.2.2).bind (fun r2 =>
    if kd L l3 = 26 then
    (ru_chanceOf L l3 29 (up r2.2.2 9 2 r2.1)).bind (fun r3 =>
    (hx_isHit L r2.1 r3.1 r3.2.2).bind (fun r4 =>
    (co_addThrow L l1 r4.1 (r4.2.2 29 5) (r4.2.2 29 6) r4.2.2).bind (fun r5 =>
    if kd L l3 = 26 then
    (ru_goOn L l3 29 r4.1 r5.2.2).bind (fun r6 =>
    if w32 r4.1 = 0 then
      hx_deal_b5 L l1 l2 l3 l5 l4 0 r6.2.2
    else
      hx_deal_b5 L l1 l2 l3 l5 l4 1 r6.2.2)
    else none)))
    else none))
    else none
  else
    ok L l4 s :=
  (hh_Ev_eq pb_hx_deal).trans rfl
set_option maxRecDepth 20000 in
theorem hx_deal_b5_eq (L : Nat) (l1 : Int) (l2 : Int) (l3 : Nat) (l5 : Int) (k0 : Int) (k1 : Int) (s : hh_Sv) : hx_deal_b5 L l1 l2 l3 l5 k0 k1 s =
  hx_deal_b3 L l1 l2 l3 (k0 + k1) (l5 + 1) s :=
  (hh_Ev_eq pb_hx_deal).trans rfl
set_option maxRecDepth 20000 in
theorem hx_toldOfRow_eq (L : Nat) (a1 : Int) (a2 : Int) (s : hh_Sv) : hx_toldOfRow L a1 a2 s =
  if w32 a2 = 0 then
    if 0 ≤ a1 ∧ a1 < 60 then
    ok L (s 10 a1.toNat) s
    else none
  else
    if w32 a2 = 1 then
      if 0 ≤ a1 ∧ a1 < 60 then
      ok L (s 11 a1.toNat) s
      else none
    else
      if w32 a2 = 2 then
        if 0 ≤ a1 ∧ a1 < 60 then
        (jin_bitCount L (s 12 a1.toNat) s).bind (fun r1 =>
        ok L r1.1 r1.2.2)
        else none
      else
        ok L (-1) s :=
  (hh_Ev_eq pb_hx_toldOfRow).trans rfl
set_option maxRecDepth 20000 in
theorem hx_told_eq (L : Nat) (a1 : Int) (a2 : Int) (a3 : Int) (s : hh_Sv) : hx_told L a1 a2 a3 s =
  (co_hasRow L a1 s).bind (fun r1 =>
  if w32 r1.1 = 0 then
    ok L (-1) r1.2.2
  else
    if w32 a2 = (-1) then
      (hx_toldOfRow L a1 a3 r1.2.2).bind (fun r2 =>
      ok L r2.1 r2.2.2)
    else
      if w32 a2 < 0 then
        ok L (-1) r1.2.2
      else
        if 0 ≤ a1 ∧ a1 < 60 then
        if w32 a2 < w32 (r1.2.2 11 a1.toNat) then
          (hx_walkTo L a1 a2 r1.2.2).bind (fun r3 =>
          if w32 a3 = 0 then
            (co_isHitAt L a1 a2 r3.2.2).bind (fun r6 =>
            if w32 r6.1 = 0 then
              ok L 0 r6.2.2
            else
              ok L 1 r6.2.2)
          else
            if w32 a3 = 1 then
              ok L (r3.2.2 29 5) r3.2.2
            else
              if w32 a3 = 2 then
                ok L (r3.2.2 29 6) r3.2.2
              else
                if w32 a3 = 3 then
                  ok L (r3.2.2 29 2) r3.2.2
                else
                  if w32 a3 = 4 then
                    (hx_lawOf L a1 r3.2.2).bind (fun r4 =>
                    if kd L r4.1.toNat = 26 then
                    (ru_chanceOf L r4.1.toNat 29 r4.2.2).bind (fun r5 =>
                    ok L r5.1 r5.2.2)
                    else none)
                  else
                    if w32 a3 = 5 then
                      ok L (r3.2.2 29 0) r3.2.2
                    else
                      if w32 a3 = 6 then
                        ok L (r3.2.2 29 1) r3.2.2
                      else
                        if w32 a3 = 7 then
                          ok L (r3.2.2 29 4) r3.2.2
                        else
                          ok L (-1) r3.2.2)
        else
          ok L (-1) r1.2.2
        else none) :=
  ((hh_Ev_eq pb_hx_told).trans (show _ = (
  (co_hasRow L a1 s).bind (fun r1 =>
  if w32 r1.1 = 0 then
    ok L (-1) r1.2.2
  else
    if w32 a2 = w32 (-1) then
      (hx_toldOfRow L a1 a3 r1.2.2).bind (fun r2 =>
      ok L r2.1 r2.2.2)
    else
      if w32 a2 < 0 then
        ok L (-1) r1.2.2
      else
        if 0 ≤ a1 ∧ a1 < 60 then
        if w32 a2 < w32 (r1.2.2 11 a1.toNat) then
          (hx_walkTo L a1 a2 r1.2.2).bind (fun r3 =>
          if w32 a3 = 0 then
            (co_isHitAt L a1 a2 r3.2.2).bind (fun r6 =>
            if w32 r6.1 = 0 then
              ok L 0 r6.2.2
            else
              ok L 1 r6.2.2)
          else
            if w32 a3 = 1 then
              ok L (r3.2.2 29 5) r3.2.2
            else
              if w32 a3 = 2 then
                ok L (r3.2.2 29 6) r3.2.2
              else
                if w32 a3 = 3 then
                  ok L (r3.2.2 29 2) r3.2.2
                else
                  if w32 a3 = 4 then
                    (hx_lawOf L a1 r3.2.2).bind (fun r4 =>
                    if kd L r4.1.toNat = 26 then
                    (ru_chanceOf L r4.1.toNat 29 r4.2.2).bind (fun r5 =>
                    ok L r5.1 r5.2.2)
                    else none)
                  else
                    if w32 a3 = 5 then
                      ok L (r3.2.2 29 0) r3.2.2
                    else
                      if w32 a3 = 6 then
                        ok L (r3.2.2 29 1) r3.2.2
                      else
                        if w32 a3 = 7 then
                          ok L (r3.2.2 29 4) r3.2.2
                        else
                          ok L (-1) r3.2.2)
        else
          ok L (-1) r1.2.2
        else none)) from rfl)).trans (by simp only [k32_m1])
set_option maxRecDepth 20000 in
theorem hx_next_eq (L : Nat) (a1 : Int) (a2 : Int) (s : hh_Sv) : hx_next L a1 a2 s =
  (co_hasRow L a1 s).bind (fun r1 =>
  if w32 r1.1 = 0 then
    ok L (-1) r1.2.2
  else
    (hx_lawOf L a1 r1.2.2).bind (fun r2 =>
    if 0 ≤ a1 ∧ a1 < 60 then
    (hx_walkTo L a1 (r2.2.2 11 a1.toNat) r2.2.2).bind (fun r3 =>
    if kd L r2.1.toNat = 26 then
    (ru_aim L r2.1.toNat 29 r3.2.2).bind (fun r4 =>
    if w32 a2 = 0 then
      ok L (r4.2.2 29 5) r4.2.2
    else
      if w32 a2 = 1 then
        ok L (r4.2.2 29 6) r4.2.2
      else
        if w32 a2 = 2 then
          if kd L r2.1.toNat = 26 then
          (ru_chanceOf L r2.1.toNat 29 r4.2.2).bind (fun r5 =>
          ok L r5.1 r5.2.2)
          else none
        else
          if w32 a2 = 3 then
            ok L (r4.2.2 29 2) r4.2.2
          else
            ok L (-1) r4.2.2)
    else none)
    else none)) :=
  (hh_Ev_eq pb_hx_next).trans rfl
set_option maxRecDepth 20000 in
theorem hx_isMeasure_eq (L : Nat) (a1 : Int) (s : hh_Sv) : hx_isMeasure L a1 s =
  if w32 a1 < 0 then
    hx_isMeasure_b1 L s
  else
    if w32 a1 < w32 (s 8 7) then
      ok L 1 s
    else
      hx_isMeasure_b1 L s :=
  (hh_Ev_eq pb_hx_isMeasure).trans rfl
set_option maxRecDepth 20000 in
theorem hx_isMeasure_b1_eq (L : Nat) (s : hh_Sv) : hx_isMeasure_b1 L s =
  ok L 0 s :=
  (hh_Ev_eq pb_hx_isMeasure).trans rfl
set_option maxRecDepth 20000 in
theorem jma_absL_eq (L : Nat) (a0 : Int) (s : hh_Sv) : jma_absL L a0 s =
  if w32 (lCmp a0 0) < 0 then
    ok L (-a0) s
  else
    ok L a0 s :=
  (hh_Ev_eq pb_jma_absL).trans rfl
set_option maxRecDepth 20000 in
theorem hx_part_eq (L : Nat) (a0 : Int) (a1 : Int) (a2 : Int) (s : hh_Sv) : hx_part L a0 a1 a2 s =
  if 0 < w32 (lCmp a1 0) then
    (jma_absL L a0 s).bind (fun r1 =>
    hx_part_b2 L a0 a1 a2 r1.1 a1 0 r1.2.2)
  else
    ok L (-1000000000000) s :=
  (hh_Ev_eq pb_hx_part).trans rfl
set_option maxRecDepth 20000 in
theorem hx_part_b2_eq (L : Nat) (l0 : Int) (l2 : Int) (l4 : Int) (l5 : Int) (l7 : Int) (l9 : Int) (s : hh_Sv) : hx_part_b2 L l0 l2 l4 l5 l7 l9 s =
  if w32 l9 < 100 then
    if w32 (lCmp l7 0) = 0 then
      hx_part_b3 L l0 l2 l4 l5 s
    else
      if w64 l7 = 0 then none else
      hx_part_b2 L l0 l2 l4 l7 (tMod (w64 l5) (w64 l7)) (l9 + 1) s
  else
    hx_part_b3 L l0 l2 l4 l5 s :=
  ((hh_Ev_eq pb_hx_part).trans (show _ = (
  if w32 l9 < w32 100 then
    if w32 (lCmp l7 0) = 0 then
      hx_part_b3 L l0 l2 l4 l5 s
    else
      if w64 l7 = 0 then none else
      hx_part_b2 L l0 l2 l4 l7 (tMod (w64 l5) (w64 l7)) (l9 + 1) s
  else
    hx_part_b3 L l0 l2 l4 l5 s) from rfl)).trans (by simp only [k32_100])
set_option maxRecDepth 20000 in
theorem hx_part_b3_eq (L : Nat) (l0 : Int) (l2 : Int) (l4 : Int) (l5 : Int) (s : hh_Sv) : hx_part_b3 L l0 l2 l4 l5 s =
  if w32 (lCmp l5 0) = 0 then
    ok L (-1000000000000) s
  else
    if w32 l4 = 0 then
      if w64 l5 = 0 then none else
      ok L (tDiv (w64 l0) (w64 l5)) s
    else
      if w64 l5 = 0 then none else
      ok L (tDiv (w64 l2) (w64 l5)) s :=
  (hh_Ev_eq pb_hx_part).trans rfl
set_option maxRecDepth 20000 in
theorem hx_value_eq (L : Nat) (a1 : Int) (a2 : Int) (a3 : Int) (s : hh_Sv) : hx_value L a1 a2 a3 s =
  (co_hasRow L a1 s).bind (fun r1 =>
  if w32 r1.1 = 0 then
    ok L (-1000000000000) r1.2.2
  else
    (hx_isMeasure L a2 r1.2.2).bind (fun r2 =>
    if w32 r2.1 = 0 then
      ok L (-1000000000000) r2.2.2
    else
      (hx_isIn L a3 0 1 r2.2.2).bind (fun r3 =>
      if w32 r3.1 = 0 then
        ok L (-1000000000000) r3.2.2
      else
        if 0 ≤ a2 ∧ a2 < 12 then
        if 0 ≤ a1 ∧ a1 < 60 then
        if 0 ≤ a1 ∧ a1 < 60 then
        if kd L (pf L 23 a2.toNat) = 24 then
        (me_reckon L (pf L 23 a2.toNat) (r3.2.2 12 a1.toNat) (r3.2.2 11 a1.toNat) 5354228880 r3.2.2).bind (fun r4 =>
        if w32 (lCmp r4.1 (-9000000000000000000)) = 0 then
          ok L (-1000000000000) r4.2.2
        else
          (hx_part L r4.1 5354228880 a3 r4.2.2).bind (fun r5 =>
          ok L r5.1 r5.2.2))
        else none
        else none
        else none
        else none))) :=
  (hh_Ev_eq pb_hx_value).trans rfl
set_option maxRecDepth 20000 in
theorem hx_mean_eq (L : Nat) (a1 : Int) (a2 : Int) (a3 : Int) (s : hh_Sv) : hx_mean L a1 a2 a3 s =
  if w32 a1 = (-1) then
    hx_mean_b1 L a1 a2 a3 s
  else
    (co_hasThrower L a1 s).bind (fun r1 =>
    if w32 r1.1 = 0 then
      ok L (-1000000000000) r1.2.2
    else
      hx_mean_b1 L a1 a2 a3 r1.2.2) :=
  ((hh_Ev_eq pb_hx_mean).trans (show _ = (
  if w32 a1 = w32 (-1) then
    hx_mean_b1 L a1 a2 a3 s
  else
    (co_hasThrower L a1 s).bind (fun r1 =>
    if w32 r1.1 = 0 then
      ok L (-1000000000000) r1.2.2
    else
      hx_mean_b1 L a1 a2 a3 r1.2.2)) from rfl)).trans (by simp only [k32_m1])
set_option maxRecDepth 20000 in
theorem hx_mean_b1_eq (L : Nat) (l1 : Int) (l2 : Int) (l3 : Int) (s : hh_Sv) : hx_mean_b1 L l1 l2 l3 s =
  (hx_isMeasure L l2 s).bind (fun r1 =>
  if w32 r1.1 = 0 then
    ok L (-1000000000000) r1.2.2
  else
    (hx_isIn L l3 0 1 r1.2.2).bind (fun r2 =>
    if w32 r2.1 = 0 then
      ok L (-1000000000000) r2.2.2
    else
      hx_mean_b4 L l1 l2 l3 0 0 0 r2.2.2)) :=
  (hh_Ev_eq pb_hx_mean).trans rfl
set_option maxRecDepth 20000 in
theorem hx_mean_b4_eq (L : Nat) (l1 : Int) (l2 : Int) (l3 : Int) (l4 : Int) (l6 : Int) (l7 : Int) (s : hh_Sv) : hx_mean_b4 L l1 l2 l3 l4 l6 l7 s =
  if w32 l7 < w32 (s 9 1) then
    (co_isOf L l7 l1 s).bind (fun r1 =>
    if w32 r1.1 = 0 then
      hx_mean_b4 L l1 l2 l3 l4 l6 (l7 + 1) r1.2.2
    else
      if 0 ≤ l2 ∧ l2 < 12 then
      if 0 ≤ l7 ∧ l7 < 60 then
      if 0 ≤ l7 ∧ l7 < 60 then
      if kd L (pf L 23 l2.toNat) = 24 then
      (me_reckon L (pf L 23 l2.toNat) (r1.2.2 12 l7.toNat) (r1.2.2 11 l7.toNat) 5354228880 r1.2.2).bind (fun r2 =>
      if w32 (lCmp r2.1 (-9000000000000000000)) = 0 then
        hx_mean_b4 L l1 l2 l3 l4 l6 (l7 + 1) r2.2.2
      else
        hx_mean_b4 L l1 l2 l3 (l4 + r2.1) (l6 + 1) (l7 + 1) r2.2.2)
      else none
      else none
      else none
      else none)
  else
    if w32 l6 = 0 then
      ok L (-1000000000000) s
    else
      (hx_part L l4 (5354228880 * (w32 l6)) l3 s).bind (fun r3 =>
      ok L r3.1 r3.2.2) :=
  (hh_Ev_eq pb_hx_mean).trans rfl
set_option maxRecDepth 20000 in
theorem hx_joined_eq (L : Nat) (a1 : Int) (a2 : Int) (a3 : Int) (a4 : Int) (s : hh_Sv) : hx_joined L a1 a2 a3 a4 s =
  (co_hasThrower L a1 s).bind (fun r1 =>
  if w32 r1.1 = 0 then
    ok L (-1) r1.2.2
  else
    (hx_isIn L a3 1 5 r1.2.2).bind (fun r2 =>
    if w32 r2.1 = 0 then
      ok L (-1) r2.2.2
    else
      (hx_isIn L a4 0 1 r2.2.2).bind (fun r3 =>
      if w32 r3.1 = 0 then
        ok L (-1) r3.2.2
      else
        if w32 a4 = 0 then
          hx_joined_b4 L a1 a2 a3 1 r3.2.2
        else
          hx_joined_b4 L a1 a2 a3 0 r3.2.2))) :=
  (hh_Ev_eq pb_hx_joined).trans rfl
set_option maxRecDepth 20000 in
theorem hx_joined_b4_eq (L : Nat) (k1 : Int) (k2 : Int) (k3 : Int) (k4 : Int) (s : hh_Sv) : hx_joined_b4 L k1 k2 k3 k4 s =
  (co_countBehind L k1 k2 k3 k4 s).bind (fun r1 =>
  ok L r1.1 r1.2.2) :=
  (hh_Ev_eq pb_hx_joined).trans rfl
set_option maxRecDepth 20000 in
theorem hx_lean_eq (L : Nat) (a1 : Int) (a2 : Int) (a3 : Int) (a4 : Int) (s : hh_Sv) : hx_lean L a1 a2 a3 a4 s =
  (hx_isMeasure L a1 s).bind (fun r1 =>
  if w32 r1.1 = 0 then
    ok L (-1000000000000) r1.2.2
  else
    (hx_isIn L a2 1 12 r1.2.2).bind (fun r2 =>
    if w32 r2.1 = 0 then
      ok L (-1000000000000) r2.2.2
    else
      (hx_isIn L a3 1 9 r2.2.2).bind (fun r3 =>
      if w32 r3.1 = 0 then
        ok L (-1000000000000) r3.2.2
      else
        (hx_isIn L a4 0 1 r3.2.2).bind (fun r4 =>
        if w32 r4.1 = 0 then
          ok L (-1000000000000) r4.2.2
        else
          if 0 ≤ a1 ∧ a1 < 12 then
          (le_reckon L (pf L 23 a1.toNat) a2 a3 r4.2.2).bind (fun r5 =>
          (hx_part L (r5.2.2 30 0) (27720 * (r5.2.2 30 1)) a4 r5.2.2).bind (fun r6 =>
          ok L r6.1 r6.2.2))
          else none)))) :=
  (hh_Ev_eq pb_hx_lean).trans rfl
set_option maxRecDepth 20000 in
theorem hx_right_eq (L : Nat) (a1 : Int) (a2 : Int) (a3 : Int) (a4 : Int) (s : hh_Sv) : hx_right L a1 a2 a3 a4 s =
  (co_hasRow L a1 s).bind (fun r1 =>
  if w32 r1.1 = 0 then
    ok L (-1000000000000) r1.2.2
  else
    (hx_isMeasure L a2 r1.2.2).bind (fun r2 =>
    if w32 r2.1 = 0 then
      ok L (-1000000000000) r2.2.2
    else
      (hx_isIn L a3 1 9 r2.2.2).bind (fun r3 =>
      if w32 r3.1 = 0 then
        ok L (-1000000000000) r3.2.2
      else
        (hx_isIn L a4 0 1 r3.2.2).bind (fun r4 =>
        if w32 r4.1 = 0 then
          ok L (-1000000000000) r4.2.2
        else
          if 0 ≤ a1 ∧ a1 < 60 then
          (hx_isIn L (r4.2.2 11 a1.toNat) 1 12 r4.2.2).bind (fun r5 =>
          if w32 r5.1 = 0 then
            ok L (-1000000000000) r5.2.2
          else
            if 0 ≤ a2 ∧ a2 < 12 then
            if 0 ≤ a1 ∧ a1 < 60 then
            if kd L (pf L 23 a2.toNat) = 24 then
            (me_reckon L (pf L 23 a2.toNat) (r5.2.2 12 a1.toNat) (r4.2.2 11 a1.toNat) 27720 r5.2.2).bind (fun r6 =>
            if w32 (lCmp r6.1 (-9000000000000000000)) = 0 then
              ok L (-1000000000000) r6.2.2
            else
              if 0 ≤ a2 ∧ a2 < 12 then
              (le_reckon L (pf L 23 a2.toNat) (r4.2.2 11 a1.toNat) a3 r6.2.2).bind (fun r7 =>
              (hx_part L ((r6.1 * (r7.2.2 30 1)) - (r7.2.2 30 0)) (27720 * (r7.2.2 30 1)) a4 r7.2.2).bind (fun r8 =>
              ok L r8.1 r8.2.2))
              else none)
            else none
            else none
            else none)
          else none)))) :=
  (hh_Ev_eq pb_hx_right).trans rfl
set_option maxRecDepth 20000 in
theorem hx_nextAlike_eq (L : Nat) (a0 : Int) (s : hh_Sv) : hx_nextAlike L a0 s =
  if w32 (bAnd a0 (-a0)) = 0 then
    ok L 0 s
  else
    if w32 (bAnd a0 (-a0)) = 0 then none else
    ok L (bOr (tDiv (w32 (iUshr (bXor (a0 + (bAnd a0 (-a0))) a0) 2)) (w32 (bAnd a0 (-a0)))) (a0 + (bAnd a0 (-a0)))) s :=
  (hh_Ev_eq pb_hx_nextAlike).trans rfl
set_option maxRecDepth 20000 in
theorem hx_ordersWith_eq (L : Nat) (a0 : Nat) (a1 : Int) (a2 : Int) (a3 : Int) (s : hh_Sv) : hx_ordersWith L a0 a1 a2 a3 s =
  (hx_choose L a1 a2 s).bind (fun r1 =>
  hx_ordersWith_b1 L a0 a1 a3 r1.1 ((iShl 1 a2) - 1) 0 0 r1.2.2) :=
  (hh_Ev_eq pb_hx_ordersWith).trans rfl
set_option maxRecDepth 20000 in
theorem hx_ordersWith_b1_eq (L : Nat) (l0 : Nat) (l1 : Int) (l3 : Int) (l5 : Int) (l7 : Int) (l8 : Int) (l10 : Int) (s : hh_Sv) : hx_ordersWith_b1 L l0 l1 l3 l5 l7 l8 l10 s =
  if w32 (lCmp l10 l5) < 0 then
    if kd L l0 = 24 then
    (me_reckon L l0 l7 l1 5354228880 s).bind (fun r1 =>
    if w32 (lCmp r1.1 l3) < 0 then
      hx_ordersWith_b2 L l0 l1 l3 l5 l7 l8 l10 r1.2.2
    else
      hx_ordersWith_b2 L l0 l1 l3 l5 l7 (l8 + 1) l10 r1.2.2)
    else none
  else
    ok L l8 s :=
  (hh_Ev_eq pb_hx_ordersWith).trans rfl
set_option maxRecDepth 20000 in
theorem hx_ordersWith_b2_eq (L : Nat) (l0 : Nat) (l1 : Int) (l3 : Int) (l5 : Int) (l7 : Int) (l8 : Int) (l10 : Int) (s : hh_Sv) : hx_ordersWith_b2 L l0 l1 l3 l5 l7 l8 l10 s =
  (hx_nextAlike L l7 s).bind (fun r1 =>
  hx_ordersWith_b1 L l0 l1 l3 l5 r1.1 l8 (l10 + 1) r1.2.2) :=
  (hh_Ev_eq pb_hx_ordersWith).trans rfl
set_option maxRecDepth 20000 in
theorem hx_shuffle_eq (L : Nat) (a1 : Int) (a2 : Int) (a3 : Int) (s : hh_Sv) : hx_shuffle L a1 a2 a3 s =
  (co_hasRow L a1 s).bind (fun r1 =>
  if w32 r1.1 = 0 then
    ok L (-1) r1.2.2
  else
    (hx_isMeasure L a2 r1.2.2).bind (fun r2 =>
    if w32 r2.1 = 0 then
      ok L (-1) r2.2.2
    else
      (hx_isIn L a3 0 1 r2.2.2).bind (fun r3 =>
      if w32 r3.1 = 0 then
        ok L (-1) r3.2.2
      else
        if 0 ≤ a1 ∧ a1 < 60 then
        (hx_isIn L (r3.2.2 11 a1.toNat) 1 16 r3.2.2).bind (fun r4 =>
        if w32 r4.1 = 0 then
          ok L (-1) r4.2.2
        else
          if 0 ≤ a2 ∧ a2 < 12 then
          if 0 ≤ a1 ∧ a1 < 60 then
          if kd L (pf L 23 a2.toNat) = 24 then
          (me_reckon L (pf L 23 a2.toNat) (r4.2.2 12 a1.toNat) (r3.2.2 11 a1.toNat) 5354228880 r4.2.2).bind (fun r5 =>
          if w32 (lCmp r5.1 (-9000000000000000000)) = 0 then
            ok L (-1) r5.2.2
          else
            if 0 ≤ a2 ∧ a2 < 12 then
            if 0 ≤ a1 ∧ a1 < 60 then
            (jin_bitCount L (r5.2.2 12 a1.toNat) r5.2.2).bind (fun r6 =>
            if w32 a3 = 0 then
              hx_shuffle_b6 L (pf L 23 a2.toNat) (r3.2.2 11 a1.toNat) r6.1 r5.1 r6.2.2
            else
              hx_shuffle_b6 L (pf L 23 a2.toNat) (r3.2.2 11 a1.toNat) r6.1 (-8999999999999999999) r6.2.2)
            else none
            else none)
          else none
          else none
          else none)
        else none))) :=
  (hh_Ev_eq pb_hx_shuffle).trans rfl
set_option maxRecDepth 20000 in
theorem hx_shuffle_b6_eq (L : Nat) (k0 : Nat) (k1 : Int) (k2 : Int) (k3 : Int) (s : hh_Sv) : hx_shuffle_b6 L k0 k1 k2 k3 s =
  (hx_ordersWith L k0 k1 k2 k3 s).bind (fun r1 =>
  ok L r1.1 r1.2.2) :=
  (hh_Ev_eq pb_hx_shuffle).trans rfl
set_option maxRecDepth 20000 in
theorem hx_together_eq (L : Nat) (a1 : Int) (a2 : Int) (s : hh_Sv) : hx_together L a1 a2 s =
  (co_hasThrower L a1 s).bind (fun r1 =>
  if w32 r1.1 = 0 then
    ok L (-1) r1.2.2
  else
    (hx_isIn L a2 0 2 r1.2.2).bind (fun r2 =>
    if w32 r2.1 = 0 then
      ok L (-1) r2.2.2
    else
      (su_reckon L a1 r2.2.2).bind (fun r3 =>
      if w32 r3.1 = 0 then
        ok L (-1) r3.2.2
      else
        if w32 a2 = 0 then
          (su_atLeast L a1 r3.2.2).bind (fun r4 =>
          ok L r4.1 r4.2.2)
        else
          if w32 a2 = 1 then
            ok L (r3.2.2 32 0) r3.2.2
          else
            ok L (w32 (r3.2.2 32 1)) r3.2.2))) :=
  (hh_Ev_eq pb_hx_together).trans rfl
set_option maxRecDepth 20000 in
theorem hx_streak_eq (L : Nat) (a1 : Int) (a2 : Int) (s : hh_Sv) : hx_streak L a1 a2 s =
  (hx_isIn L a1 1 60 s).bind (fun r1 =>
  if w32 r1.1 = 0 then
    ok L (-1) r1.2.2
  else
    (hx_isIn L a2 1 60 r1.2.2).bind (fun r2 =>
    if w32 r2.1 = 0 then
      ok L (-1) r2.2.2
    else
      hx_streak_b3 L a1 a2 0 r2.2.2)) :=
  (hh_Ev_eq pb_hx_streak).trans rfl
set_option maxRecDepth 20000 in
theorem hx_streak_b3_eq (L : Nat) (l1 : Int) (l2 : Int) (l3 : Int) (s : hh_Sv) : hx_streak_b3 L l1 l2 l3 s =
  if w32 l1 < w32 l3 then
    if 0 ≤ l1 ∧ l1 < 61 then
    ok L ((lShl 1 l1) - (s 71 l1.toNat)) s
    else none
  else
    if w32 l3 < w32 l2 then
      hx_streak_b5 L l1 l2 l3 l3 (lShl 1 l3) s
    else
      hx_streak_b5 L l1 l2 l3 l3 0 s :=
  (hh_Ev_eq pb_hx_streak).trans rfl
set_option maxRecDepth 20000 in
theorem hx_streak_b5_eq (L : Nat) (l1 : Int) (l2 : Int) (l3 : Int) (k1 : Int) (k2 : Int) (s : hh_Sv) : hx_streak_b5 L l1 l2 l3 k1 k2 s =
  if 0 ≤ k1 ∧ k1 < 61 then
  hx_streak_b6 L l1 l2 l3 1 (up s 71 k1.toNat k2)
  else none :=
  (hh_Ev_eq pb_hx_streak).trans rfl
set_option maxRecDepth 20000 in
theorem hx_streak_b6_eq (L : Nat) (l1 : Int) (l2 : Int) (l3 : Int) (l4 : Int) (s : hh_Sv) : hx_streak_b6 L l1 l2 l3 l4 s =
  if w32 l3 < w32 l2 then
    hx_streak_b3 L l1 l2 (l3 + 1) s
  else
    if w32 l2 < w32 l4 then
      hx_streak_b3 L l1 l2 (l3 + 1) s
    else
      if 0 ≤ l3 ∧ l3 < 61 then
      if 0 ≤ l3 - l4 ∧ l3 - l4 < 61 then
      if 0 ≤ l3 ∧ l3 < 61 then
      hx_streak_b6 L l1 l2 l3 (l4 + 1) (up s 71 l3.toNat ((s 71 l3.toNat) + (s 71 ((l3 - l4).toNat))))
      else none
      else none
      else none :=
  (hh_Ev_eq pb_hx_streak).trans rfl
set_option maxRecDepth 20000 in
theorem hx_isTrial_eq (L : Nat) (a0 : Int) (a1 : Int) (a2 : Int) (s : hh_Sv) : hx_isTrial L a0 a1 a2 s =
  (hx_isIn L a0 2 12 s).bind (fun r1 =>
  if w32 r1.1 = 0 then
    hx_isTrial_b1 L r1.2.2
  else
    (hx_isIn L a1 1 9 r1.2.2).bind (fun r2 =>
    if w32 r2.1 = 0 then
      hx_isTrial_b1 L r2.2.2
    else
      (hx_isIn L a2 1 99 r2.2.2).bind (fun r3 =>
      if w32 r3.1 = 0 then
        hx_isTrial_b1 L r3.2.2
      else
        ok L 1 r3.2.2))) :=
  (hh_Ev_eq pb_hx_isTrial).trans rfl
set_option maxRecDepth 20000 in
theorem hx_isTrial_b1_eq (L : Nat) (s : hh_Sv) : hx_isTrial_b1 L s =
  ok L 0 s :=
  (hh_Ev_eq pb_hx_isTrial).trans rfl
set_option maxRecDepth 20000 in
theorem hx_power_eq (L : Nat) (a1 : Int) (a2 : Int) (a3 : Int) (a4 : Int) (a5 : Int) (s : hh_Sv) : hx_power L a1 a2 a3 a4 a5 s =
  (hx_isTrial L a1 a2 a4 s).bind (fun r1 =>
  if w32 r1.1 = 0 then
    ok L (-1) r1.2.2
  else
    (hx_isIn L a3 0 9 r1.2.2).bind (fun r2 =>
    if w32 r2.1 = 0 then
      ok L (-1) r2.2.2
    else
      (hx_isIn L a5 0 2 r2.2.2).bind (fun r3 =>
      if w32 r3.1 = 0 then
        ok L (-1) r3.2.2
      else
        (tr_lineAt L a1 a2 a4 r3.2.2).bind (fun r4 =>
        if w32 a5 = 0 then
          ok L (w32 r4.1) r4.2.2
        else
          (tr_atLeast L a1 a2 a3 r4.1 r4.2.2).bind (fun r5 =>
          if 0 ≤ a1 ∧ a1 < 17 then
          (hx_part L r5.1 (r5.2.2 2 a1.toNat) (a5 - 1) r5.2.2).bind (fun r6 =>
          ok L r6.1 r6.2.2)
          else none))))) :=
  (hh_Ev_eq pb_hx_power).trans rfl
set_option maxRecDepth 20000 in
theorem hx_need_eq (L : Nat) (a1 : Int) (a2 : Int) (a3 : Int) (a4 : Int) (s : hh_Sv) : hx_need L a1 a2 a3 a4 s =
  (hx_isTrial L 2 a1 a3 s).bind (fun r1 =>
  if w32 r1.1 = 0 then
    ok L (-1) r1.2.2
  else
    (hx_isIn L a2 0 9 r1.2.2).bind (fun r2 =>
    if w32 r2.1 = 0 then
      ok L (-1) r2.2.2
    else
      (hx_isIn L a4 0 100 r2.2.2).bind (fun r3 =>
      if w32 r3.1 = 0 then
        ok L (-1) r3.2.2
      else
        hx_need_b3 L a1 a2 a3 a4 2 r3.2.2))) :=
  (hh_Ev_eq pb_hx_need).trans rfl
set_option maxRecDepth 20000 in
theorem hx_need_b3_eq (L : Nat) (l1 : Int) (l2 : Int) (l3 : Int) (l4 : Int) (l5 : Int) (s : hh_Sv) : hx_need_b3 L l1 l2 l3 l4 l5 s =
  if 12 < w32 l5 then
    ok L (-1) s
  else
    (tr_isSeen L l5 l1 l2 l3 l4 s).bind (fun r1 =>
    if w32 r1.1 = 0 then
      hx_need_b3 L l1 l2 l3 l4 (l5 + 1) r1.2.2
    else
      ok L l5 r1.2.2) :=
  ((hh_Ev_eq pb_hx_need).trans (show _ = (
  if w32 12 < w32 l5 then
    ok L (-1) s
  else
    (tr_isSeen L l5 l1 l2 l3 l4 s).bind (fun r1 =>
    if w32 r1.1 = 0 then
      hx_need_b3 L l1 l2 l3 l4 (l5 + 1) r1.2.2
    else
      ok L l5 r1.2.2)) from rfl)).trans (by simp only [k32_12])
set_option maxRecDepth 20000 in
theorem hx_strong_eq (L : Nat) (a1 : Int) (a2 : Int) (a3 : Int) (a4 : Int) (s : hh_Sv) : hx_strong L a1 a2 a3 a4 s =
  (hx_isTrial L a1 a2 a3 s).bind (fun r1 =>
  if w32 r1.1 = 0 then
    ok L (-1) r1.2.2
  else
    (hx_isIn L a4 0 100 r1.2.2).bind (fun r2 =>
    if w32 r2.1 = 0 then
      ok L (-1) r2.2.2
    else
      hx_strong_b3 L a1 a2 a3 a4 1 r2.2.2)) :=
  (hh_Ev_eq pb_hx_strong).trans rfl
set_option maxRecDepth 20000 in
theorem hx_strong_b3_eq (L : Nat) (l1 : Int) (l2 : Int) (l3 : Int) (l4 : Int) (l5 : Int) (s : hh_Sv) : hx_strong_b3 L l1 l2 l3 l4 l5 s =
  if 9 < w32 l5 then
    ok L (-1) s
  else
    (tr_isSeen L l1 l2 l5 l3 l4 s).bind (fun r1 =>
    if w32 r1.1 = 0 then
      hx_strong_b3 L l1 l2 l3 l4 (l5 + 1) r1.2.2
    else
      ok L l5 r1.2.2) :=
  ((hh_Ev_eq pb_hx_strong).trans (show _ = (
  if w32 9 < w32 l5 then
    ok L (-1) s
  else
    (tr_isSeen L l1 l2 l5 l3 l4 s).bind (fun r1 =>
    if w32 r1.1 = 0 then
      hx_strong_b3 L l1 l2 l3 l4 (l5 + 1) r1.2.2
    else
      ok L l5 r1.2.2)) from rfl)).trans (by simp only [k32_9])
set_option maxRecDepth 20000 in
theorem hx_hards_eq (L : Nat) (a1 : Int) (a2 : Int) (a3 : Int) (s : hh_Sv) : hx_hards L a1 a2 a3 s =
  (co_hasThrower L a1 s).bind (fun r1 =>
  if w32 r1.1 = 0 then
    ok L (-1) r1.2.2
  else
    (hx_isIn L a2 0 3 r1.2.2).bind (fun r2 =>
    if w32 r2.1 = 0 then
      ok L (-1) r2.2.2
    else
      (hx_isIn L a3 0 3 r2.2.2).bind (fun r3 =>
      if w32 r3.1 = 0 then
        ok L (-1) r3.2.2
      else
        (co_countHard L a1 a2 a3 r3.2.2).bind (fun r4 =>
        ok L r4.1 r4.2.2)))) :=
  (hh_Ev_eq pb_hx_hards).trans rfl
set_option maxRecDepth 20000 in
theorem hx_off_eq (L : Nat) (a1 : Int) (a2 : Int) (s : hh_Sv) : hx_off L a1 a2 s =
  (co_hasThrower L a1 s).bind (fun r1 =>
  if w32 r1.1 = 0 then
    ok L (-1000000000000) r1.2.2
  else
    (hx_isIn L a2 0 1 r1.2.2).bind (fun r2 =>
    if w32 r2.1 = 0 then
      ok L (-1000000000000) r2.2.2
    else
      hx_off_b3 L a1 a2 0 1 0 r2.2.2)) :=
  (hh_Ev_eq pb_hx_off).trans rfl
set_option maxRecDepth 20000 in
theorem hx_off_b3_eq (L : Nat) (l1 : Int) (l2 : Int) (l3 : Int) (l5 : Int) (l7 : Int) (s : hh_Sv) : hx_off_b3 L l1 l2 l3 l5 l7 s =
  if 3 < w32 l7 then
    (hx_part L l3 l5 l2 s).bind (fun r1 =>
    ok L r1.1 r1.2.2)
  else
    (co_countHard L l1 l7 1 s).bind (fun r2 =>
    if 0 < w32 (lCmp (w32 r2.1) 0) then
      (co_countHard L l1 l7 2 r2.2.2).bind (fun r3 =>
      (co_countHard L l1 l7 3 r3.2.2).bind (fun r4 =>
      (co_countHard L l1 l7 0 r4.2.2).bind (fun r5 =>
      hx_off_b3 L l1 l2 ((l3 * (w32 r2.1)) + ((((w32 r3.1) * (w32 r2.1)) - ((w32 r4.1) * (w32 r5.1))) * l5)) (l5 * (w32 r2.1)) (l7 + 1) r5.2.2)))
    else
      hx_off_b3 L l1 l2 l3 l5 (l7 + 1) r2.2.2) :=
  ((hh_Ev_eq pb_hx_off).trans (show _ = (
  if w32 3 < w32 l7 then
    (hx_part L l3 l5 l2 s).bind (fun r1 =>
    ok L r1.1 r1.2.2)
  else
    (co_countHard L l1 l7 1 s).bind (fun r2 =>
    if 0 < w32 (lCmp (w32 r2.1) 0) then
      (co_countHard L l1 l7 2 r2.2.2).bind (fun r3 =>
      (co_countHard L l1 l7 3 r3.2.2).bind (fun r4 =>
      (co_countHard L l1 l7 0 r4.2.2).bind (fun r5 =>
      hx_off_b3 L l1 l2 ((l3 * (w32 r2.1)) + ((((w32 r3.1) * (w32 r2.1)) - ((w32 r4.1) * (w32 r5.1))) * l5)) (l5 * (w32 r2.1)) (l7 + 1) r5.2.2)))
    else
      hx_off_b3 L l1 l2 l3 l5 (l7 + 1) r2.2.2)) from rfl)).trans (by simp only [k32_3])
set_option maxRecDepth 20000 in
theorem hx_chosen_eq (L : Nat) (a1 : Int) (a2 : Int) (s : hh_Sv) : hx_chosen L a1 a2 s =
  (co_hasThrower L a1 s).bind (fun r1 =>
  if w32 r1.1 = 0 then
    ok L (-1000000000000) r1.2.2
  else
    (hx_isIn L a2 0 1 r1.2.2).bind (fun r2 =>
    if w32 r2.1 = 0 then
      ok L (-1000000000000) r2.2.2
    else
      hx_chosen_b3 L a1 a2 0 0 0 0 0 r2.2.2)) :=
  (hh_Ev_eq pb_hx_chosen).trans rfl
set_option maxRecDepth 20000 in
theorem hx_chosen_b3_eq (L : Nat) (l1 : Int) (l2 : Int) (l3 : Int) (l5 : Int) (l7 : Int) (l9 : Int) (l11 : Int) (s : hh_Sv) : hx_chosen_b3 L l1 l2 l3 l5 l7 l9 l11 s =
  if 3 < w32 l11 then
    (hx_part L ((l5 * l7) - (l9 * l3)) (l3 * l7) l2 s).bind (fun r1 =>
    ok L r1.1 r1.2.2)
  else
    (co_countHard L l1 l11 3 s).bind (fun r2 =>
    (co_countHard L l1 l11 1 r2.2.2).bind (fun r3 =>
    hx_chosen_b3 L l1 l2 (l3 + (w32 r2.1)) (l5 + (w32 (r2.1 * l11))) (l7 + (w32 (r3.1 - r2.1))) (l9 + (w32 ((r3.1 - r2.1) * l11))) (l11 + 1) r3.2.2)) :=
  ((hh_Ev_eq pb_hx_chosen).trans (show _ = (
  if w32 3 < w32 l11 then
    (hx_part L ((l5 * l7) - (l9 * l3)) (l3 * l7) l2 s).bind (fun r1 =>
    ok L r1.1 r1.2.2)
  else
    (co_countHard L l1 l11 3 s).bind (fun r2 =>
    (co_countHard L l1 l11 1 r2.2.2).bind (fun r3 =>
    hx_chosen_b3 L l1 l2 (l3 + (w32 r2.1)) (l5 + (w32 (r2.1 * l11))) (l7 + (w32 (r3.1 - r2.1))) (l9 + (w32 ((r3.1 - r2.1) * l11))) (l11 + 1) r3.2.2))) from rfl)).trans (by simp only [k32_3])
set_option maxRecDepth 20000 in
theorem hx_hundredthsOf_eq (L : Nat) (a1 : Int) (s : hh_Sv) : hx_hundredthsOf L a1 s =
  (co_countThrows L a1 s).bind (fun r1 =>
  if w32 r1.1 = 0 then
    ok L (-1) r1.2.2
  else
    (co_countHits L a1 r1.2.2).bind (fun r2 =>
    if w32 r1.1 = 0 then none else
    ok L (tDiv (w32 (r2.1 * 100)) (w32 r1.1)) r2.2.2)) :=
  (hh_Ev_eq pb_hx_hundredthsOf).trans rfl
set_option maxRecDepth 20000 in
theorem hx_hundredths_eq (L : Nat) (a1 : Int) (s : hh_Sv) : hx_hundredths L a1 s =
  (co_hasThrower L a1 s).bind (fun r1 =>
  if w32 r1.1 = 0 then
    ok L (-1) r1.2.2
  else
    (hx_hundredthsOf L a1 r1.2.2).bind (fun r2 =>
    ok L r2.1 r2.2.2)) :=
  (hh_Ev_eq pb_hx_hundredths).trans rfl
set_option maxRecDepth 20000 in
theorem hx_sortPeople_eq (L : Nat) (s : hh_Sv) : hx_sortPeople L s =
  hx_sortPeople_b1 L 0 0 s :=
  (hh_Ev_eq pb_hx_sortPeople).trans rfl
set_option maxRecDepth 20000 in
theorem hx_sortPeople_b1_eq (L : Nat) (l1 : Int) (l2 : Int) (s : hh_Sv) : hx_sortPeople_b1 L l1 l2 s =
  if w32 l2 < w32 (s 9 0) then
    (hx_hundredthsOf L l2 s).bind (fun r1 =>
    if w32 r1.1 = (-1) then
      hx_sortPeople_b1 L l1 (l2 + 1) r1.2.2
    else
      hx_sortPeople_b2 L l1 l2 r1.1 l1 r1.2.2)
  else
    ok L l1 s :=
  ((hh_Ev_eq pb_hx_sortPeople).trans (show _ = (
  if w32 l2 < w32 (s 9 0) then
    (hx_hundredthsOf L l2 s).bind (fun r1 =>
    if w32 r1.1 = w32 (-1) then
      hx_sortPeople_b1 L l1 (l2 + 1) r1.2.2
    else
      hx_sortPeople_b2 L l1 l2 r1.1 l1 r1.2.2)
  else
    ok L l1 s) from rfl)).trans (by simp only [k32_m1])
set_option maxRecDepth 20000 in
theorem hx_sortPeople_b2_eq (L : Nat) (l1 : Int) (l2 : Int) (l3 : Int) (l4 : Int) (s : hh_Sv) : hx_sortPeople_b2 L l1 l2 l3 l4 s =
  if 0 < w32 l4 then
    if 0 ≤ l4 - 1 ∧ l4 - 1 < 12 then
    if w32 l3 < w32 (s 70 ((l4 - 1).toNat)) then
      if 0 ≤ l4 - 1 ∧ l4 - 1 < 12 then
      if 0 ≤ l4 ∧ l4 < 12 then
      hx_sortPeople_b2 L l1 l2 l3 (l4 + (-1)) (up s 70 l4.toNat (s 70 ((l4 - 1).toNat)))
      else none
      else none
    else
      hx_sortPeople_b3 L l1 l2 l3 l4 s
    else none
  else
    hx_sortPeople_b3 L l1 l2 l3 l4 s :=
  (hh_Ev_eq pb_hx_sortPeople).trans rfl
set_option maxRecDepth 20000 in
theorem hx_sortPeople_b3_eq (L : Nat) (l1 : Int) (l2 : Int) (l3 : Int) (l4 : Int) (s : hh_Sv) : hx_sortPeople_b3 L l1 l2 l3 l4 s =
  if 0 ≤ l4 ∧ l4 < 12 then
  hx_sortPeople_b1 L (l1 + 1) (l2 + 1) (up s 70 l4.toNat l3)
  else none :=
  (hh_Ev_eq pb_hx_sortPeople).trans rfl
set_option maxRecDepth 20000 in
theorem jma_absI_eq (L : Nat) (a0 : Int) (s : hh_Sv) : jma_absI L a0 s =
  if w32 a0 < 0 then
    ok L (-a0) s
  else
    ok L a0 s :=
  (hh_Ev_eq pb_jma_absI).trans rfl
set_option maxRecDepth 20000 in
theorem hx_apart_eq (L : Nat) (a1 : Int) (a2 : Int) (s : hh_Sv) : hx_apart L a1 a2 s =
  hx_apart_b1 L a1 a2 0 a1 s :=
  (hh_Ev_eq pb_hx_apart).trans rfl
set_option maxRecDepth 20000 in
theorem hx_apart_b1_eq (L : Nat) (l1 : Int) (l2 : Int) (l3 : Int) (l4 : Int) (s : hh_Sv) : hx_apart_b1 L l1 l2 l3 l4 s =
  if w32 l4 < w32 (l1 + l2) then
    if 0 ≤ l4 ∧ l4 < 12 then
    if 0 ≤ l1 + (tDiv (w32 (l2 - 1)) 2) ∧ l1 + (tDiv (w32 (l2 - 1)) 2) < 12 then
    (jma_absI L ((s 70 l4.toNat) - (s 70 ((l1 + (tDiv (w32 (l2 - 1)) 2)).toNat))) s).bind (fun r1 =>
    hx_apart_b1 L l1 l2 (l3 + r1.1) (l4 + 1) r1.2.2)
    else none
    else none
  else
    ok L l3 s :=
  ((hh_Ev_eq pb_hx_apart).trans (show _ = (
  if w32 l4 < w32 (l1 + l2) then
    if 0 ≤ l4 ∧ l4 < 12 then
    if w32 2 = 0 then none else
    if 0 ≤ l1 + (tDiv (w32 (l2 - 1)) (w32 2)) ∧ l1 + (tDiv (w32 (l2 - 1)) (w32 2)) < 12 then
    (jma_absI L ((s 70 l4.toNat) - (s 70 ((l1 + (tDiv (w32 (l2 - 1)) (w32 2))).toNat))) s).bind (fun r1 =>
    hx_apart_b1 L l1 l2 (l3 + r1.1) (l4 + 1) r1.2.2)
    else none
    else none
  else
    ok L l3 s) from rfl)).trans (by simp only [k32_2, kz_2, if_false, if_true])
set_option maxRecDepth 20000 in
theorem hx_groups_eq (L : Nat) (a1 : Int) (a2 : Int) (s : hh_Sv) : hx_groups L a1 a2 s =
  (hx_isIn L a1 1 3 s).bind (fun r1 =>
  if w32 r1.1 = 0 then
    ok L (-1) r1.2.2
  else
    (hx_isIn L a2 0 3 r1.2.2).bind (fun r2 =>
    if w32 r2.1 = 0 then
      ok L (-1) r2.2.2
    else
      (hx_sortPeople L r2.2.2).bind (fun r3 =>
      if w32 r3.1 < w32 a1 then
        ok L (-1) r3.2.2
      else
        hx_groups_b4 L a1 a2 r3.1 (-1) 0 0 1 r3.2.2))) :=
  (hh_Ev_eq pb_hx_groups).trans rfl
set_option maxRecDepth 20000 in
theorem hx_groups_b4_eq (L : Nat) (l1 : Int) (l2 : Int) (l3 : Int) (l4 : Int) (l5 : Int) (l6 : Int) (l7 : Int) (s : hh_Sv) : hx_groups_b4 L l1 l2 l3 l4 l5 l6 l7 s =
  if w32 l3 < w32 l7 then
    if w32 l2 = 0 then
      ok L l4 s
    else
      if w32 l2 = 1 then
        ok L l5 s
      else
        if w32 l2 = 2 then
          ok L l6 s
        else
          ok L ((l3 - l5) - l6) s
  else
    hx_groups_b5 L l1 l2 l3 l4 l5 l6 l7 0 s :=
  (hh_Ev_eq pb_hx_groups).trans rfl
set_option maxRecDepth 20000 in
theorem hx_groups_b5_eq (L : Nat) (l1 : Int) (l2 : Int) (l3 : Int) (l4 : Int) (l5 : Int) (l6 : Int) (l7 : Int) (l8 : Int) (s : hh_Sv) : hx_groups_b5 L l1 l2 l3 l4 l5 l6 l7 l8 s =
  if w32 l3 < w32 (l7 + l8) then
    hx_groups_b4 L l1 l2 l3 l4 l5 l6 (l7 + 1) s
  else
    if 0 < w32 l8 then
      hx_groups_b7 L l1 l2 l3 l4 l5 l6 l7 l8 ((l3 - l7) - l8) 1 s
    else
      hx_groups_b7 L l1 l2 l3 l4 l5 l6 l7 l8 ((l3 - l7) - l8) 0 s :=
  (hh_Ev_eq pb_hx_groups).trans rfl
set_option maxRecDepth 20000 in
theorem hx_groups_b7_eq (L : Nat) (l1 : Int) (l2 : Int) (l3 : Int) (l4 : Int) (l5 : Int) (l6 : Int) (l7 : Int) (l8 : Int) (l9 : Int) (k0 : Int) (s : hh_Sv) : hx_groups_b7 L l1 l2 l3 l4 l5 l6 l7 l8 l9 k0 s =
  if 1 < w32 l1 then
    hx_groups_b9 L l1 l2 l3 l4 l5 l6 l7 l8 l9 k0 1 s
  else
    hx_groups_b9 L l1 l2 l3 l4 l5 l6 l7 l8 l9 k0 0 s :=
  ((hh_Ev_eq pb_hx_groups).trans (show _ = (
  if w32 1 < w32 l1 then
    hx_groups_b9 L l1 l2 l3 l4 l5 l6 l7 l8 l9 k0 1 s
  else
    hx_groups_b9 L l1 l2 l3 l4 l5 l6 l7 l8 l9 k0 0 s) from rfl)).trans (by simp only [k32_1])
set_option maxRecDepth 20000 in
theorem hx_groups_b9_eq (L : Nat) (l1 : Int) (l2 : Int) (l3 : Int) (l4 : Int) (l5 : Int) (l6 : Int) (l7 : Int) (l8 : Int) (l9 : Int) (k0 : Int) (k1 : Int) (s : hh_Sv) : hx_groups_b9 L l1 l2 l3 l4 l5 l6 l7 l8 l9 k0 k1 s =
  if w32 k0 = w32 k1 then
    if 0 < w32 l9 then
      hx_groups_b11 L l1 l2 l3 l4 l5 l6 l7 l8 l9 1 s
    else
      hx_groups_b11 L l1 l2 l3 l4 l5 l6 l7 l8 l9 0 s
  else
    hx_groups_b5 L l1 l2 l3 l4 l5 l6 l7 (l8 + 1) s :=
  (hh_Ev_eq pb_hx_groups).trans rfl
set_option maxRecDepth 20000 in
theorem hx_groups_b11_eq (L : Nat) (l1 : Int) (l2 : Int) (l3 : Int) (l4 : Int) (l5 : Int) (l6 : Int) (l7 : Int) (l8 : Int) (l9 : Int) (k0 : Int) (s : hh_Sv) : hx_groups_b11 L l1 l2 l3 l4 l5 l6 l7 l8 l9 k0 s =
  if 2 < w32 l1 then
    hx_groups_b13 L l1 l2 l3 l4 l5 l6 l7 l8 l9 k0 1 s
  else
    hx_groups_b13 L l1 l2 l3 l4 l5 l6 l7 l8 l9 k0 0 s :=
  ((hh_Ev_eq pb_hx_groups).trans (show _ = (
  if w32 2 < w32 l1 then
    hx_groups_b13 L l1 l2 l3 l4 l5 l6 l7 l8 l9 k0 1 s
  else
    hx_groups_b13 L l1 l2 l3 l4 l5 l6 l7 l8 l9 k0 0 s) from rfl)).trans (by simp only [k32_2])
set_option maxRecDepth 20000 in
theorem hx_groups_b13_eq (L : Nat) (l1 : Int) (l2 : Int) (l3 : Int) (l4 : Int) (l5 : Int) (l6 : Int) (l7 : Int) (l8 : Int) (l9 : Int) (k0 : Int) (k1 : Int) (s : hh_Sv) : hx_groups_b13 L l1 l2 l3 l4 l5 l6 l7 l8 l9 k0 k1 s =
  if w32 k0 = w32 k1 then
    (hx_apart L 0 l7 s).bind (fun r1 =>
    (hx_apart L l7 l8 r1.2.2).bind (fun r2 =>
    (hx_apart L (l7 + l8) l9 r2.2.2).bind (fun r3 =>
    if w32 l4 = (-1) then
      hx_groups_b14 L l1 l2 l3 l7 l8 ((r1.1 + r2.1) + r3.1) r3.2.2
    else
      if w32 ((r1.1 + r2.1) + r3.1) < w32 l4 then
        hx_groups_b14 L l1 l2 l3 l7 l8 ((r1.1 + r2.1) + r3.1) r3.2.2
      else
        hx_groups_b5 L l1 l2 l3 l4 l5 l6 l7 (l8 + 1) r3.2.2)))
  else
    hx_groups_b5 L l1 l2 l3 l4 l5 l6 l7 (l8 + 1) s :=
  ((hh_Ev_eq pb_hx_groups).trans (show _ = (
  if w32 k0 = w32 k1 then
    (hx_apart L 0 l7 s).bind (fun r1 =>
    (hx_apart L l7 l8 r1.2.2).bind (fun r2 =>
    (hx_apart L (l7 + l8) l9 r2.2.2).bind (fun r3 =>
    if w32 l4 = w32 (-1) then
      hx_groups_b14 L l1 l2 l3 l7 l8 ((r1.1 + r2.1) + r3.1) r3.2.2
    else
      if w32 ((r1.1 + r2.1) + r3.1) < w32 l4 then
        hx_groups_b14 L l1 l2 l3 l7 l8 ((r1.1 + r2.1) + r3.1) r3.2.2
      else
        hx_groups_b5 L l1 l2 l3 l4 l5 l6 l7 (l8 + 1) r3.2.2)))
  else
    hx_groups_b5 L l1 l2 l3 l4 l5 l6 l7 (l8 + 1) s) from rfl)).trans (by simp only [k32_m1])
set_option maxRecDepth 20000 in
theorem hx_groups_b14_eq (L : Nat) (l1 : Int) (l2 : Int) (l3 : Int) (l7 : Int) (l8 : Int) (l10 : Int) (s : hh_Sv) : hx_groups_b14 L l1 l2 l3 l7 l8 l10 s =
  hx_groups_b5 L l1 l2 l3 l10 l7 l8 l7 (l8 + 1) s :=
  (hh_Ev_eq pb_hx_groups).trans rfl
set_option maxRecDepth 20000 in
theorem hx_allBehindBoth_eq (L : Nat) (a1 : Int) (s : hh_Sv) : hx_allBehindBoth L a1 s =
  (co_countBehind L a1 1 1 0 s).bind (fun r1 =>
  (co_countBehind L a1 0 1 0 r1.2.2).bind (fun r2 =>
  ok L ((w32 r1.1) * (w32 r2.1)) r2.2.2)) :=
  (hh_Ev_eq pb_hx_allBehindBoth).trans rfl
set_option maxRecDepth 20000 in
theorem hx_moreBehindHit_eq (L : Nat) (a1 : Int) (s : hh_Sv) : hx_moreBehindHit L a1 s =
  (co_countBehind L a1 1 1 1 s).bind (fun r1 =>
  (co_countBehind L a1 0 1 0 r1.2.2).bind (fun r2 =>
  (co_countBehind L a1 0 1 1 r2.2.2).bind (fun r3 =>
  (co_countBehind L a1 1 1 0 r3.2.2).bind (fun r4 =>
  ok L (((w32 r1.1) * (w32 r2.1)) - ((w32 r3.1) * (w32 r4.1))) r4.2.2)))) :=
  (hh_Ev_eq pb_hx_moreBehindHit).trans rfl
set_option maxRecDepth 20000 in
theorem hx_above_eq (L : Nat) (a1 : Int) (s : hh_Sv) : hx_above L a1 s =
  (hx_isIn L a1 0 100 s).bind (fun r1 =>
  if w32 r1.1 = 0 then
    ok L (-1) r1.2.2
  else
    hx_above_b2 L a1 0 0 r1.2.2) :=
  (hh_Ev_eq pb_hx_above).trans rfl
set_option maxRecDepth 20000 in
theorem hx_above_b2_eq (L : Nat) (l1 : Int) (l2 : Int) (l3 : Int) (s : hh_Sv) : hx_above_b2 L l1 l2 l3 s =
  if w32 l3 < w32 (s 9 0) then
    (hx_allBehindBoth L l3 s).bind (fun r1 =>
    if 0 < w32 (lCmp r1.1 0) then
      (hx_moreBehindHit L l3 r1.2.2).bind (fun r2 =>
      if w32 (lCmp (r2.1 * 100) ((w32 l1) * r1.1)) < 0 then
        hx_above_b2 L l1 l2 (l3 + 1) r2.2.2
      else
        hx_above_b2 L l1 (bOr l2 (iShl 1 l3)) (l3 + 1) r2.2.2)
    else
      hx_above_b2 L l1 l2 (l3 + 1) r1.2.2)
  else
    ok L l2 s :=
  (hh_Ev_eq pb_hx_above).trans rfl
set_option maxRecDepth 20000 in
theorem hx_throwersLeaning_eq (L : Nat) (a1 : Int) (s : hh_Sv) : hx_throwersLeaning L a1 s =
  hx_throwersLeaning_b1 L a1 0 0 s :=
  (hh_Ev_eq pb_hx_throwersLeaning).trans rfl
set_option maxRecDepth 20000 in
theorem hx_throwersLeaning_b1_eq (L : Nat) (l1 : Int) (l2 : Int) (l3 : Int) (s : hh_Sv) : hx_throwersLeaning_b1 L l1 l2 l3 s =
  if w32 l3 < w32 (s 9 0) then
    (hx_moreBehindHit L l3 s).bind (fun r1 =>
    if 0 < w32 (lCmp (r1.1 * (w32 l1)) 0) then
      hx_throwersLeaning_b1 L l1 (l2 + 1) (l3 + 1) r1.2.2
    else
      hx_throwersLeaning_b1 L l1 l2 (l3 + 1) r1.2.2)
  else
    ok L l2 s :=
  (hh_Ev_eq pb_hx_throwersLeaning).trans rfl
set_option maxRecDepth 20000 in
theorem hx_pooled_eq (L : Nat) (a1 : Int) (s : hh_Sv) : hx_pooled L a1 s =
  if w32 a1 = 0 then
    (co_countBehind L (-1) 1 1 1 s).bind (fun r6 =>
    ok L r6.1 r6.2.2)
  else
    if w32 a1 = 1 then
      (co_countBehind L (-1) 1 1 0 s).bind (fun r5 =>
      ok L r5.1 r5.2.2)
    else
      if w32 a1 = 2 then
        (co_countBehind L (-1) 0 1 1 s).bind (fun r4 =>
        ok L r4.1 r4.2.2)
      else
        if w32 a1 = 3 then
          (co_countBehind L (-1) 0 1 0 s).bind (fun r3 =>
          ok L r3.1 r3.2.2)
        else
          if w32 a1 = 4 then
            (hx_throwersLeaning L 1 s).bind (fun r2 =>
            ok L r2.1 r2.2.2)
          else
            if w32 a1 = 5 then
              (hx_throwersLeaning L (-1) s).bind (fun r1 =>
              ok L r1.1 r1.2.2)
            else
              ok L (-1) s :=
  (hh_Ev_eq pb_hx_pooled).trans rfl
set_option maxRecDepth 20000 in
theorem hx_season_eq (L : Nat) (a1 : Int) (a2 : Int) (a3 : Int) (a4 : Int) (a5 : Int) (s : hh_Sv) : hx_season L a1 a2 a3 a4 a5 s =
  (co_hasRow L a1 s).bind (fun r1 =>
  if w32 r1.1 = 0 then
    ok L (-1) r1.2.2
  else
    (co_hasRow L a2 r1.2.2).bind (fun r2 =>
    if w32 r2.1 = 0 then
      ok L (-1) r2.2.2
    else
      if w32 a2 < w32 a1 then
        ok L (-1) r2.2.2
      else
        (hx_isIn L a4 1 5 r2.2.2).bind (fun r3 =>
        if w32 r3.1 = 0 then
          ok L (-1) r3.2.2
        else
          (hx_isIn L a5 0 1 r3.2.2).bind (fun r4 =>
          if w32 r4.1 = 0 then
            ok L (-1) r4.2.2
          else
            hx_season_b3 L a2 a3 a4 a5 0 a1 r4.2.2)))) :=
  (hh_Ev_eq pb_hx_season).trans rfl
set_option maxRecDepth 20000 in
theorem hx_season_b3_eq (L : Nat) (l2 : Int) (l3 : Int) (l4 : Int) (l5 : Int) (l6 : Int) (l7 : Int) (s : hh_Sv) : hx_season_b3 L l2 l3 l4 l5 l6 l7 s =
  if w32 l2 < w32 l7 then
    ok L l6 s
  else
    if w32 l5 = 0 then
      hx_season_b5 L l2 l3 l4 l5 l7 l6 l7 l3 l4 1 s
    else
      hx_season_b5 L l2 l3 l4 l5 l7 l6 l7 l3 l4 0 s :=
  (hh_Ev_eq pb_hx_season).trans rfl
set_option maxRecDepth 20000 in
theorem hx_season_b5_eq (L : Nat) (l2 : Int) (l3 : Int) (l4 : Int) (l5 : Int) (l7 : Int) (k0 : Int) (k2 : Int) (k3 : Int) (k4 : Int) (k5 : Int) (s : hh_Sv) : hx_season_b5 L l2 l3 l4 l5 l7 k0 k2 k3 k4 k5 s =
  (co_countBehindIn L k2 k3 k4 k5 s).bind (fun r1 =>
  hx_season_b3 L l2 l3 l4 l5 (k0 + r1.1) (l7 + 1) r1.2.2) :=
  (hh_Ev_eq pb_hx_season).trans rfl
set_option maxRecDepth 20000 in
theorem hx_pathWeight_eq (L : Nat) (a1 : Int) (a2 : Int) (a3 : Int) (a4 : Int) (a5 : Int) (s : hh_Sv) : hx_pathWeight L a1 a2 a3 a4 a5 s =
  hx_pathWeight_b1 L a1 a2 a3 a4 a5 1 0 s :=
  (hh_Ev_eq pb_hx_pathWeight).trans rfl
set_option maxRecDepth 20000 in
theorem hx_pathWeight_b1_eq (L : Nat) (l1 : Int) (l2 : Int) (l3 : Int) (l4 : Int) (l5 : Int) (l6 : Int) (l8 : Int) (s : hh_Sv) : hx_pathWeight_b1 L l1 l2 l3 l4 l5 l6 l8 s =
  if 0 ≤ l1 ∧ l1 < 60 then
  if w32 l8 < w32 (s 11 l1.toNat) then
    if 0 < w32 l8 then
      if w32 (bAnd (iShr l2 l8) 1) = w32 (bAnd (iShr l2 (l8 - 1)) 1) then
        hx_pathWeight_b3 L l1 l2 l3 l4 l5 l8 (bAnd (iShr l2 l8) 1) l6 (w32 l3) s
      else
        hx_pathWeight_b3 L l1 l2 l3 l4 l5 l8 (bAnd (iShr l2 l8) 1) l6 (w32 (10 - l3)) s
    else
      hx_pathWeight_b4 L l1 l2 l3 l4 l5 l6 l8 (bAnd (iShr l2 l8) 1) s
  else
    ok L l6 s
  else none :=
  (hh_Ev_eq pb_hx_pathWeight).trans rfl
set_option maxRecDepth 20000 in
theorem hx_pathWeight_b3_eq (L : Nat) (l1 : Int) (l2 : Int) (l3 : Int) (l4 : Int) (l5 : Int) (l8 : Int) (l9 : Int) (k0 : Int) (k1 : Int) (s : hh_Sv) : hx_pathWeight_b3 L l1 l2 l3 l4 l5 l8 l9 k0 k1 s =
  hx_pathWeight_b4 L l1 l2 l3 l4 l5 (k0 * k1) l8 l9 s :=
  (hh_Ev_eq pb_hx_pathWeight).trans rfl
set_option maxRecDepth 20000 in
theorem hx_pathWeight_b4_eq (L : Nat) (l1 : Int) (l2 : Int) (l3 : Int) (l4 : Int) (l5 : Int) (l6 : Int) (l8 : Int) (l9 : Int) (s : hh_Sv) : hx_pathWeight_b4 L l1 l2 l3 l4 l5 l6 l8 l9 s =
  if w32 l9 = 1 then
    hx_pathWeight_b6 L l1 l2 l3 l4 l5 l6 l8 l4 s
  else
    hx_pathWeight_b6 L l1 l2 l3 l4 l5 l6 l8 l5 s :=
  ((hh_Ev_eq pb_hx_pathWeight).trans (show _ = (
  if w32 l9 = w32 1 then
    hx_pathWeight_b6 L l1 l2 l3 l4 l5 l6 l8 l4 s
  else
    hx_pathWeight_b6 L l1 l2 l3 l4 l5 l6 l8 l5 s) from rfl)).trans (by simp only [k32_1])
set_option maxRecDepth 20000 in
theorem hx_pathWeight_b6_eq (L : Nat) (l1 : Int) (l2 : Int) (l3 : Int) (l4 : Int) (l5 : Int) (l6 : Int) (l8 : Int) (k0 : Int) (s : hh_Sv) : hx_pathWeight_b6 L l1 l2 l3 l4 l5 l6 l8 k0 s =
  (co_isHitAt L l1 l8 s).bind (fun r1 =>
  if w32 r1.1 = 0 then
    hx_pathWeight_b8 L l1 l2 l3 l4 l5 l8 l6 (w32 (10 - k0)) r1.2.2
  else
    hx_pathWeight_b8 L l1 l2 l3 l4 l5 l8 l6 (w32 k0) r1.2.2) :=
  (hh_Ev_eq pb_hx_pathWeight).trans rfl
set_option maxRecDepth 20000 in
theorem hx_pathWeight_b8_eq (L : Nat) (l1 : Int) (l2 : Int) (l3 : Int) (l4 : Int) (l5 : Int) (l8 : Int) (k0 : Int) (k1 : Int) (s : hh_Sv) : hx_pathWeight_b8 L l1 l2 l3 l4 l5 l8 k0 k1 s =
  hx_pathWeight_b1 L l1 l2 l3 l4 l5 (k0 * k1) (l8 + 1) s :=
  (hh_Ev_eq pb_hx_pathWeight).trans rfl
set_option maxRecDepth 20000 in
theorem hx_hidden_eq (L : Nat) (a1 : Int) (a2 : Int) (a3 : Int) (a4 : Int) (a5 : Int) (s : hh_Sv) : hx_hidden L a1 a2 a3 a4 a5 s =
  (co_hasRow L a1 s).bind (fun r1 =>
  if w32 r1.1 = 0 then
    ok L (-1) r1.2.2
  else
    (hx_isIn L a2 0 10 r1.2.2).bind (fun r2 =>
    if w32 r2.1 = 0 then
      ok L (-1) r2.2.2
    else
      (hx_isIn L a3 0 10 r2.2.2).bind (fun r3 =>
      if w32 r3.1 = 0 then
        ok L (-1) r3.2.2
      else
        (hx_isIn L a4 0 10 r3.2.2).bind (fun r4 =>
        if w32 r4.1 = 0 then
          ok L (-1) r4.2.2
        else
          (hx_isIn L a5 0 2 r4.2.2).bind (fun r5 =>
          if w32 r5.1 = 0 then
            ok L (-1) r5.2.2
          else
            if 0 ≤ a1 ∧ a1 < 60 then
            (hx_isIn L (r5.2.2 11 a1.toNat) 1 9 r5.2.2).bind (fun r6 =>
            if w32 r6.1 = 0 then
              ok L (-1) r6.2.2
            else
              hx_hidden_b3 L a1 a2 a3 a4 a5 0 (-1) 0 0 r6.2.2)
            else none))))) :=
  (hh_Ev_eq pb_hx_hidden).trans rfl
set_option maxRecDepth 20000 in
theorem hx_hidden_b3_eq (L : Nat) (l1 : Int) (l2 : Int) (l3 : Int) (l4 : Int) (l5 : Int) (l6 : Int) (l8 : Int) (l10 : Int) (l11 : Int) (s : hh_Sv) : hx_hidden_b3 L l1 l2 l3 l4 l5 l6 l8 l10 l11 s =
  if 0 ≤ l1 ∧ l1 < 60 then
  if w32 l11 < w32 (iShl 1 (s 11 l1.toNat)) then
    (hx_pathWeight L l1 l11 l2 l3 l4 s).bind (fun r1 =>
    if 0 < w32 (lCmp r1.1 l8) then
      hx_hidden_b3 L l1 l2 l3 l4 l5 (l6 + r1.1) r1.1 l11 (l11 + 1) r1.2.2
    else
      hx_hidden_b3 L l1 l2 l3 l4 l5 (l6 + r1.1) l8 l10 (l11 + 1) r1.2.2)
  else
    if w32 l5 = 0 then
      ok L (w32 l10) s
    else
      if w32 l5 = 1 then
        ok L l8 s
      else
        ok L l6 s
  else none :=
  (hh_Ev_eq pb_hx_hidden).trans rfl
set_option maxRecDepth 20000 in
theorem hx_countBets_eq (L : Nat) (a1 : Int) (a2 : Int) (a3 : Int) (a4 : Int) (s : hh_Sv) : hx_countBets L a1 a2 a3 a4 s =
  hx_countBets_b1 L a1 a2 a3 a4 0 0 s :=
  (hh_Ev_eq pb_hx_countBets).trans rfl
set_option maxRecDepth 20000 in
theorem hx_countBets_b1_eq (L : Nat) (l1 : Int) (l2 : Int) (l3 : Int) (l4 : Int) (l5 : Int) (l6 : Int) (s : hh_Sv) : hx_countBets_b1 L l1 l2 l3 l4 l5 l6 s =
  if w32 l6 < w32 (s 9 1) then
    (co_isOf L l6 l2 s).bind (fun r1 =>
    if w32 r1.1 = 0 then
      hx_countBets_b1 L l1 l2 l3 l4 l5 (l6 + 1) r1.2.2
    else
      (as_clear L 29 r1.2.2).bind (fun r2 =>
      hx_countBets_b2 L l1 l2 l3 l4 l5 l6 0 r2.2.2))
  else
    ok L l5 s :=
  (hh_Ev_eq pb_hx_countBets).trans rfl
set_option maxRecDepth 20000 in
theorem hx_countBets_b2_eq (L : Nat) (l1 : Int) (l2 : Int) (l3 : Int) (l4 : Int) (l5 : Int) (l6 : Int) (l7 : Int) (s : hh_Sv) : hx_countBets_b2 L l1 l2 l3 l4 l5 l6 l7 s =
  if 0 ≤ l6 ∧ l6 < 60 then
  if w32 l7 < w32 (s 11 l6.toNat) then
    (co_show L l6 l7 s).bind (fun r1 =>
    (co_isHitAt L l6 l7 r1.2.2).bind (fun r2 =>
    if 0 ≤ l1 ∧ l1 < 4 then
    if kd L ((r2.2.2 17 l1.toNat).toNat) = 26 then
    (ru_betOn L ((r2.2.2 17 l1.toNat).toNat) 29 r2.2.2).bind (fun r3 =>
    if w32 l3 = 0 then
      hx_countBets_b4 L l1 l2 l3 l4 l5 l6 l7 r2.1 r3.1 7 r3.2.2
    else
      hx_countBets_b4 L l1 l2 l3 l4 l5 l6 l7 r2.1 r3.1 0 r3.2.2)
    else none
    else none))
  else
    hx_countBets_b1 L l1 l2 l3 l4 l5 (l6 + 1) s
  else none :=
  (hh_Ev_eq pb_hx_countBets).trans rfl
set_option maxRecDepth 20000 in
theorem hx_countBets_b4_eq (L : Nat) (l1 : Int) (l2 : Int) (l3 : Int) (l4 : Int) (l5 : Int) (l6 : Int) (l7 : Int) (l8 : Int) (k0 : Int) (k1 : Int) (s : hh_Sv) : hx_countBets_b4 L l1 l2 l3 l4 l5 l6 l7 l8 k0 k1 s =
  if w32 k0 = w32 k1 then
    if w32 l4 = 0 then
      hx_countBets_b5 L l1 l2 l3 l4 l5 l6 l7 l8 s
    else
      if w32 l8 = w32 l3 then
        hx_countBets_b5 L l1 l2 l3 l4 l5 l6 l7 l8 s
      else
        hx_countBets_b6 L l1 l2 l3 l4 l5 l6 l7 l8 s
  else
    hx_countBets_b6 L l1 l2 l3 l4 l5 l6 l7 l8 s :=
  (hh_Ev_eq pb_hx_countBets).trans rfl
set_option maxRecDepth 20000 in
theorem hx_countBets_b5_eq (L : Nat) (l1 : Int) (l2 : Int) (l3 : Int) (l4 : Int) (l5 : Int) (l6 : Int) (l7 : Int) (l8 : Int) (s : hh_Sv) : hx_countBets_b5 L l1 l2 l3 l4 l5 l6 l7 l8 s =
  hx_countBets_b6 L l1 l2 l3 l4 (l5 + 1) l6 l7 l8 s :=
  (hh_Ev_eq pb_hx_countBets).trans rfl
set_option maxRecDepth 20000 in
theorem hx_countBets_b6_eq (L : Nat) (l1 : Int) (l2 : Int) (l3 : Int) (l4 : Int) (l5 : Int) (l6 : Int) (l7 : Int) (l8 : Int) (s : hh_Sv) : hx_countBets_b6 L l1 l2 l3 l4 l5 l6 l7 l8 s =
  if 0 ≤ l2 ∧ l2 < 12 then
  if kd L ((s 16 l2.toNat).toNat) = 26 then
  (ru_goOn L ((s 16 l2.toNat).toNat) 29 l8 s).bind (fun r1 =>
  hx_countBets_b2 L l1 l2 l3 l4 l5 l6 (l7 + 1) r1.2.2)
  else none
  else none :=
  (hh_Ev_eq pb_hx_countBets).trans rfl
set_option maxRecDepth 20000 in
theorem hx_bets_eq (L : Nat) (a1 : Int) (a2 : Int) (a3 : Int) (s : hh_Sv) : hx_bets L a1 a2 a3 s =
  (hx_isWatcher L a1 s).bind (fun r1 =>
  if w32 r1.1 = 0 then
    ok L (-1) r1.2.2
  else
    (co_hasThrower L a2 r1.2.2).bind (fun r2 =>
    if w32 r2.1 = 0 then
      ok L (-1) r2.2.2
    else
      (hx_isIn L a3 0 3 r2.2.2).bind (fun r3 =>
      if w32 r3.1 = 0 then
        ok L (-1) r3.2.2
      else
        if w32 a3 < 2 then
          hx_bets_b4 L a3 a1 a2 1 r3.2.2
        else
          hx_bets_b4 L a3 a1 a2 0 r3.2.2))) :=
  ((hh_Ev_eq pb_hx_bets).trans (show _ = (
  (hx_isWatcher L a1 s).bind (fun r1 =>
  if w32 r1.1 = 0 then
    ok L (-1) r1.2.2
  else
    (co_hasThrower L a2 r1.2.2).bind (fun r2 =>
    if w32 r2.1 = 0 then
      ok L (-1) r2.2.2
    else
      (hx_isIn L a3 0 3 r2.2.2).bind (fun r3 =>
      if w32 r3.1 = 0 then
        ok L (-1) r3.2.2
      else
        if w32 a3 < w32 2 then
          hx_bets_b4 L a3 a1 a2 1 r3.2.2
        else
          hx_bets_b4 L a3 a1 a2 0 r3.2.2)))) from rfl)).trans (by simp only [k32_2])
set_option maxRecDepth 20000 in
theorem hx_bets_b4_eq (L : Nat) (l3 : Int) (k1 : Int) (k2 : Int) (k3 : Int) (s : hh_Sv) : hx_bets_b4 L l3 k1 k2 k3 s =
  if w32 (tMod (w32 l3) 2) = 1 then
    hx_bets_b6 L k1 k2 k3 1 s
  else
    hx_bets_b6 L k1 k2 k3 0 s :=
  ((hh_Ev_eq pb_hx_bets).trans (show _ = (
  if w32 2 = 0 then none else
  if w32 (tMod (w32 l3) (w32 2)) = w32 1 then
    hx_bets_b6 L k1 k2 k3 1 s
  else
    hx_bets_b6 L k1 k2 k3 0 s) from rfl)).trans (by simp only [k32_1, k32_2, kz_1, kz_2, if_false, if_true])
set_option maxRecDepth 20000 in
theorem hx_bets_b6_eq (L : Nat) (k1 : Int) (k2 : Int) (k3 : Int) (k4 : Int) (s : hh_Sv) : hx_bets_b6 L k1 k2 k3 k4 s =
  (hx_countBets L k1 k2 k3 k4 s).bind (fun r1 =>
  ok L r1.1 r1.2.2) :=
  (hh_Ev_eq pb_hx_bets).trans rfl
set_option maxRecDepth 20000 in
theorem hx_odds_eq (L : Nat) (a1 : Int) (a2 : Int) (a3 : Int) (s : hh_Sv) : hx_odds L a1 a2 a3 s =
  (hx_isWatcher L a1 s).bind (fun r1 =>
  if w32 r1.1 = 0 then
    ok L (-1) r1.2.2
  else
    (co_hasThrower L a2 r1.2.2).bind (fun r2 =>
    if w32 r2.1 = 0 then
      ok L (-1) r2.2.2
    else
      (hx_isIn L a3 0 1 r2.2.2).bind (fun r3 =>
      if w32 r3.1 = 0 then
        ok L (-1) r3.2.2
      else
        (co_countThrows L a2 r3.2.2).bind (fun r4 =>
        if 60 < w32 r4.1 then
          ok L (-1) r4.2.2
        else
          (hx_countBets L a1 a2 1 0 r4.2.2).bind (fun r5 =>
          if w32 a3 = 1 then
            (hx_choose L r4.1 r5.1 r5.2.2).bind (fun r6 =>
            ok L r6.1 r6.2.2)
          else
            (co_countHits L a2 r5.2.2).bind (fun r7 =>
            (hx_countBets L a1 a2 1 1 r7.2.2).bind (fun r8 =>
            hx_odds_b5 L r4.1 r5.1 r7.1 0 r8.1 r8.2.2))))))) :=
  ((hh_Ev_eq pb_hx_odds).trans (show _ = (
  (hx_isWatcher L a1 s).bind (fun r1 =>
  if w32 r1.1 = 0 then
    ok L (-1) r1.2.2
  else
    (co_hasThrower L a2 r1.2.2).bind (fun r2 =>
    if w32 r2.1 = 0 then
      ok L (-1) r2.2.2
    else
      (hx_isIn L a3 0 1 r2.2.2).bind (fun r3 =>
      if w32 r3.1 = 0 then
        ok L (-1) r3.2.2
      else
        (co_countThrows L a2 r3.2.2).bind (fun r4 =>
        if w32 60 < w32 r4.1 then
          ok L (-1) r4.2.2
        else
          (hx_countBets L a1 a2 1 0 r4.2.2).bind (fun r5 =>
          if w32 a3 = w32 1 then
            (hx_choose L r4.1 r5.1 r5.2.2).bind (fun r6 =>
            ok L r6.1 r6.2.2)
          else
            (co_countHits L a2 r5.2.2).bind (fun r7 =>
            (hx_countBets L a1 a2 1 1 r7.2.2).bind (fun r8 =>
            hx_odds_b5 L r4.1 r5.1 r7.1 0 r8.1 r8.2.2)))))))) from rfl)).trans (by simp only [k32_1, k32_60])
set_option maxRecDepth 20000 in
theorem hx_odds_b5_eq (L : Nat) (l4 : Int) (l5 : Int) (l6 : Int) (l7 : Int) (l9 : Int) (s : hh_Sv) : hx_odds_b5 L l4 l5 l6 l7 l9 s =
  if w32 l5 < w32 l9 then
    ok L l7 s
  else
    (hx_choose L l6 l9 s).bind (fun r1 =>
    (hx_choose L (l4 - l6) (l5 - l9) r1.2.2).bind (fun r2 =>
    hx_odds_b5 L l4 l5 l6 (l7 + (r1.1 * r2.1)) (l9 + 1) r2.2.2)) :=
  (hh_Ev_eq pb_hx_odds).trans rfl
set_option maxRecDepth 20000 in
theorem hx_hitsFrom_eq (L : Nat) (d : Nat) (a1 : Int) (s : hh_Sv) : hx_hitsFrom L d a1 s =
  if w32 a1 < w32 (s 38 0) then
    if w32 a1 < 8 then
      (if 6 < d then ga_aimAt L a1 s else none).bind (fun r1 =>
      if 0 < w32 r1.1 then
        (if 6 < d then ga_follow L a1 1 r1.2.2 else none).bind (fun r2 =>
        if 0 ≤ 2 * (((r2.2.2 38 0) - a1) - 1) ∧ 2 * (((r2.2.2 38 0) - a1) - 1) < 17 then
        (if 7 + ((8 : Int) - (a1 + 1)).toNat < d then hx_hitsFrom L (7 + ((8 : Int) - (a1 + 1)).toNat) (a1 + 1) r2.2.2 else none).bind (fun r3 =>
        hx_hitsFrom_b3 L d a1 r1.1 (0 + ((w32 r1.1) * ((r2.2.2 2 ((2 * (((r2.2.2 38 0) - a1) - 1)).toNat)) + r3.1))) r3.2.2)
        else none)
      else
        hx_hitsFrom_b3 L d a1 r1.1 0 r1.2.2)
    else
      ok L 0 s
  else
    ok L 0 s :=
  ((hh_Ev_eq pb_hx_hitsFrom).trans (show _ = (
  if w32 a1 < w32 (s 38 0) then
    if w32 a1 < w32 8 then
      (if 6 < d then ga_aimAt L a1 s else none).bind (fun r1 =>
      if 0 < w32 r1.1 then
        (if 6 < d then ga_follow L a1 1 r1.2.2 else none).bind (fun r2 =>
        if 0 ≤ 2 * (((r2.2.2 38 0) - a1) - 1) ∧ 2 * (((r2.2.2 38 0) - a1) - 1) < 17 then
        (if 7 + ((8 : Int) - (a1 + 1)).toNat < d then hx_hitsFrom L (7 + ((8 : Int) - (a1 + 1)).toNat) (a1 + 1) r2.2.2 else none).bind (fun r3 =>
        hx_hitsFrom_b3 L d a1 r1.1 (0 + ((w32 r1.1) * ((r2.2.2 2 ((2 * (((r2.2.2 38 0) - a1) - 1)).toNat)) + r3.1))) r3.2.2)
        else none)
      else
        hx_hitsFrom_b3 L d a1 r1.1 0 r1.2.2)
    else
      ok L 0 s
  else
    ok L 0 s) from rfl)).trans (by simp only [k32_8])
set_option maxRecDepth 20000 in
theorem hx_hitsFrom_b3_eq (L : Nat) (d : Nat) (l1 : Int) (l2 : Int) (l3 : Int) (s : hh_Sv) : hx_hitsFrom_b3 L d l1 l2 l3 s =
  if w32 l2 < 100 then
    (if 6 < d then ga_follow L l1 0 s else none).bind (fun r1 =>
    (if 7 + ((8 : Int) - (l1 + 1)).toNat < d then hx_hitsFrom L (7 + ((8 : Int) - (l1 + 1)).toNat) (l1 + 1) r1.2.2 else none).bind (fun r2 =>
    ok L (l3 + ((w32 (100 - l2)) * r2.1)) r2.2.2))
  else
    ok L l3 s :=
  ((hh_Ev_eq pb_hx_hitsFrom).trans (show _ = (
  if w32 l2 < w32 100 then
    (if 6 < d then ga_follow L l1 0 s else none).bind (fun r1 =>
    (if 7 + ((8 : Int) - (l1 + 1)).toNat < d then hx_hitsFrom L (7 + ((8 : Int) - (l1 + 1)).toNat) (l1 + 1) r1.2.2 else none).bind (fun r2 =>
    ok L (l3 + ((w32 (100 - l2)) * r2.1)) r2.2.2))
  else
    ok L l3 s) from rfl)).trans (by simp only [k32_100])
set_option maxRecDepth 20000 in
theorem hx_give_eq (L : Nat) (a1 : Int) (a2 : Int) (a3 : Int) (a4 : Int) (a5 : Int) (a6 : Int) (s : hh_Sv) : hx_give L a1 a2 a3 a4 a5 a6 s =
  (co_hasThrower L a1 s).bind (fun r1 =>
  if w32 r1.1 = 0 then
    ok L (-1) r1.2.2
  else
    (co_hasThrower L a2 r1.2.2).bind (fun r2 =>
    if w32 r2.1 = 0 then
      ok L (-1) r2.2.2
    else
      if w32 a1 = w32 a2 then
        ok L (-1) r2.2.2
      else
        (hx_isIn L a3 1 8 r2.2.2).bind (fun r3 =>
        if w32 r3.1 = 0 then
          ok L (-1) r3.2.2
        else
          (hx_isIn L a4 1 5 r3.2.2).bind (fun r4 =>
          if w32 r4.1 = 0 then
            ok L (-1) r4.2.2
          else
            (hx_isIn L a5 0 3 r4.2.2).bind (fun r5 =>
            if w32 r5.1 = 0 then
              ok L (-1) r5.2.2
            else
              (hx_isIn L a6 0 3 r5.2.2).bind (fun r6 =>
              if w32 r6.1 = 0 then
                ok L (-1) r6.2.2
              else
                if 0 ≤ a1 ∧ a1 < 12 then
                if 0 ≤ a2 ∧ a2 < 12 then
                (ga_begin L ((r6.2.2 16 a1.toNat).toNat) ((r6.2.2 16 a2.toNat).toNat) a3 r6.2.2).bind (fun r7 =>
                if w32 a6 < 2 then
                  hx_give_b3 L a3 a6 r7.2.2
                else
                  (ga_giveAt L a4 a5 r7.2.2).bind (fun r8 =>
                  hx_give_b3 L a3 a6 r8.2.2))
                else none
                else none)))))) :=
  ((hh_Ev_eq pb_hx_give).trans (show _ = (
  (co_hasThrower L a1 s).bind (fun r1 =>
  if w32 r1.1 = 0 then
    ok L (-1) r1.2.2
  else
    (co_hasThrower L a2 r1.2.2).bind (fun r2 =>
    if w32 r2.1 = 0 then
      ok L (-1) r2.2.2
    else
      if w32 a1 = w32 a2 then
        ok L (-1) r2.2.2
      else
        (hx_isIn L a3 1 8 r2.2.2).bind (fun r3 =>
        if w32 r3.1 = 0 then
          ok L (-1) r3.2.2
        else
          (hx_isIn L a4 1 5 r3.2.2).bind (fun r4 =>
          if w32 r4.1 = 0 then
            ok L (-1) r4.2.2
          else
            (hx_isIn L a5 0 3 r4.2.2).bind (fun r5 =>
            if w32 r5.1 = 0 then
              ok L (-1) r5.2.2
            else
              (hx_isIn L a6 0 3 r5.2.2).bind (fun r6 =>
              if w32 r6.1 = 0 then
                ok L (-1) r6.2.2
              else
                if 0 ≤ a1 ∧ a1 < 12 then
                if 0 ≤ a2 ∧ a2 < 12 then
                (ga_begin L ((r6.2.2 16 a1.toNat).toNat) ((r6.2.2 16 a2.toNat).toNat) a3 r6.2.2).bind (fun r7 =>
                if w32 a6 < w32 2 then
                  hx_give_b3 L a3 a6 r7.2.2
                else
                  (ga_giveAt L a4 a5 r7.2.2).bind (fun r8 =>
                  hx_give_b3 L a3 a6 r8.2.2))
                else none
                else none))))))) from rfl)).trans (by simp only [k32_2])
set_option maxRecDepth 20000 in
theorem hx_give_b3_eq (L : Nat) (l3 : Int) (l6 : Int) (s : hh_Sv) : hx_give_b3 L l3 l6 s =
  (if 7 + ((8 : Int) - 0).toNat < 16 then hx_hitsFrom L (7 + ((8 : Int) - 0).toNat) 0 s else none).bind (fun r1 =>
  if 0 ≤ 2 * l3 ∧ 2 * l3 < 17 then
  (hx_part L r1.1 (r1.2.2 2 ((2 * l3).toNat)) (tMod (w32 l6) 2) r1.2.2).bind (fun r2 =>
  ok L r2.1 r2.2.2)
  else none) :=
  ((hh_Ev_eq pb_hx_give).trans (show _ = (
  (if 7 + ((8 : Int) - 0).toNat < 16 then hx_hitsFrom L (7 + ((8 : Int) - 0).toNat) 0 s else none).bind (fun r1 =>
  if 0 ≤ 2 * l3 ∧ 2 * l3 < 17 then
  if w32 2 = 0 then none else
  (hx_part L r1.1 (r1.2.2 2 ((2 * l3).toNat)) (tMod (w32 l6) (w32 2)) r1.2.2).bind (fun r2 =>
  ok L r2.1 r2.2.2)
  else none)) from rfl)).trans (by simp only [k32_2, kz_2, if_false, if_true])
set_option maxRecDepth 20000 in
theorem hx_worlds_eq (L : Nat) (a1 : Int) (a2 : Int) (a3 : Int) (a4 : Int) (a5 : Int) (s : hh_Sv) : hx_worlds L a1 a2 a3 a4 a5 s =
  (co_hasThrower L a1 s).bind (fun r1 =>
  if w32 r1.1 = 0 then
    ok L (-1000000000000) r1.2.2
  else
    (hx_isIn L a2 1 24 r1.2.2).bind (fun r2 =>
    if w32 r2.1 = 0 then
      ok L (-1000000000000) r2.2.2
    else
      (hx_isIn L a3 1 60 r2.2.2).bind (fun r3 =>
      if w32 r3.1 = 0 then
        ok L (-1000000000000) r3.2.2
      else
        (hx_isMeasure L a4 r3.2.2).bind (fun r4 =>
        if w32 r4.1 = 0 then
          ok L (-1000000000000) r4.2.2
        else
          (hx_isIn L a5 0 2 r4.2.2).bind (fun r5 =>
          if w32 r5.1 = 0 then
            ok L (-1000000000000) r5.2.2
          else
            hx_worlds_b3 L a1 a2 a3 a4 a5 (r5.2.2 9 2) 0 0 0 r5.2.2))))) :=
  (hh_Ev_eq pb_hx_worlds).trans rfl
set_option maxRecDepth 20000 in
theorem hx_worlds_b3_eq (L : Nat) (l1 : Int) (l2 : Int) (l3 : Int) (l4 : Int) (l5 : Int) (l6 : Int) (l8 : Int) (l10 : Int) (l11 : Int) (s : hh_Sv) : hx_worlds_b3 L l1 l2 l3 l4 l5 l6 l8 l10 l11 s =
  if w32 l11 < w32 l3 then
    (as_clear L 29 s).bind (fun r1 =>
    hx_worlds_b4 L l1 l2 l3 l4 l5 l6 l8 l10 l11 0 0 r1.2.2)
  else
    if w32 l5 = 2 then
      ok L (w32 l10) s
    else
      if w32 l10 = 0 then
        ok L (-1000000000000) s
      else
        (hx_part L l8 (5354228880 * (w32 l10)) l5 s).bind (fun r2 =>
        ok L r2.1 r2.2.2) :=
  ((hh_Ev_eq pb_hx_worlds).trans (show _ = (
  if w32 l11 < w32 l3 then
    (as_clear L 29 s).bind (fun r1 =>
    hx_worlds_b4 L l1 l2 l3 l4 l5 l6 l8 l10 l11 0 0 r1.2.2)
  else
    if w32 l5 = w32 2 then
      ok L (w32 l10) s
    else
      if w32 l10 = 0 then
        ok L (-1000000000000) s
      else
        (hx_part L l8 (5354228880 * (w32 l10)) l5 s).bind (fun r2 =>
        ok L r2.1 r2.2.2)) from rfl)).trans (by simp only [k32_2])
set_option maxRecDepth 20000 in
theorem hx_worlds_b4_eq (L : Nat) (l1 : Int) (l2 : Int) (l3 : Int) (l4 : Int) (l5 : Int) (l6 : Int) (l8 : Int) (l10 : Int) (l11 : Int) (l12 : Int) (l13 : Int) (s : hh_Sv) : hx_worlds_b4 L l1 l2 l3 l4 l5 l6 l8 l10 l11 l12 l13 s =
  if w32 l13 < w32 l2 then
    if 0 ≤ l1 ∧ l1 < 12 then
    if kd L ((s 16 l1.toNat).toNat) = 26 then
    (ru_aim L ((s 16 l1.toNat).toNat) 29 s).bind (fun r1 =>
    (hx_drawn L l6 r1.2.2).bind (fun r2 =>
    if 0 ≤ l1 ∧ l1 < 12 then
    if kd L ((r2.2.2 16 l1.toNat).toNat) = 26 then
    (ru_chanceOf L ((r2.2.2 16 l1.toNat).toNat) 29 r2.2.2).bind (fun r3 =>
    (hx_isHit L r2.1 r3.1 r3.2.2).bind (fun r4 =>
    if w32 r4.1 = 0 then
      hx_worlds_b6 L l1 l2 l3 l4 l5 r2.1 l8 l10 l11 l13 r4.1 l12 0 r4.2.2
    else
      hx_worlds_b6 L l1 l2 l3 l4 l5 r2.1 l8 l10 l11 l13 r4.1 l12 (iShl 1 l13) r4.2.2))
    else none
    else none))
    else none
    else none
  else
    if 0 ≤ l4 ∧ l4 < 12 then
    if kd L (pf L 23 l4.toNat) = 24 then
    (me_reckon L (pf L 23 l4.toNat) l12 l2 5354228880 s).bind (fun r5 =>
    if w32 (lCmp r5.1 (-9000000000000000000)) = 0 then
      hx_worlds_b3 L l1 l2 l3 l4 l5 l6 l8 l10 (l11 + 1) r5.2.2
    else
      hx_worlds_b3 L l1 l2 l3 l4 l5 l6 (l8 + r5.1) (l10 + 1) (l11 + 1) r5.2.2)
    else none
    else none :=
  (hh_Ev_eq pb_hx_worlds).trans rfl
set_option maxRecDepth 20000 in
theorem hx_worlds_b6_eq (L : Nat) (l1 : Int) (l2 : Int) (l3 : Int) (l4 : Int) (l5 : Int) (l6 : Int) (l8 : Int) (l10 : Int) (l11 : Int) (l13 : Int) (l14 : Int) (k0 : Int) (k1 : Int) (s : hh_Sv) : hx_worlds_b6 L l1 l2 l3 l4 l5 l6 l8 l10 l11 l13 l14 k0 k1 s =
  if 0 ≤ l1 ∧ l1 < 12 then
  if kd L ((s 16 l1.toNat).toNat) = 26 then
  (ru_goOn L ((s 16 l1.toNat).toNat) 29 l14 s).bind (fun r1 =>
  hx_worlds_b4 L l1 l2 l3 l4 l5 l6 l8 l10 l11 (bOr k0 k1) (l13 + 1) r1.2.2)
  else none
  else none :=
  (hh_Ev_eq pb_hx_worlds).trans rfl
set_option maxRecDepth 20000 in
theorem hx_foretold_eq (L : Nat) (a1 : Int) (a2 : Int) (a3 : Int) (a4 : Int) (s : hh_Sv) : hx_foretold L a1 a2 a3 a4 s =
  (co_hasThrower L a1 s).bind (fun r1 =>
  if w32 r1.1 = 0 then
    ok L (-1) r1.2.2
  else
    (hx_isIn L a2 0 100 r1.2.2).bind (fun r2 =>
    if w32 r2.1 = 0 then
      ok L (-1) r2.2.2
    else
      (hx_isIn L a3 0 100 r2.2.2).bind (fun r3 =>
      if w32 r3.1 = 0 then
        ok L (-1) r3.2.2
      else
        (hx_isIn L a4 0 2 r3.2.2).bind (fun r4 =>
        if w32 r4.1 = 0 then
          ok L (-1) r4.2.2
        else
          hx_foretold_b3 L a1 a2 a3 a4 0 0 r4.2.2)))) :=
  (hh_Ev_eq pb_hx_foretold).trans rfl
set_option maxRecDepth 20000 in
theorem hx_foretold_b3_eq (L : Nat) (l1 : Int) (l2 : Int) (l3 : Int) (l4 : Int) (l5 : Int) (l6 : Int) (s : hh_Sv) : hx_foretold_b3 L l1 l2 l3 l4 l5 l6 s =
  if w32 l6 < w32 (s 9 1) then
    (co_isOf L l6 l1 s).bind (fun r1 =>
    if w32 r1.1 = 0 then
      hx_foretold_b3 L l1 l2 l3 l4 l5 (l6 + 1) r1.2.2
    else
      (as_clear L 29 r1.2.2).bind (fun r2 =>
      hx_foretold_b4 L l1 l2 l3 l4 l5 l6 0 r2.2.2))
  else
    ok L l5 s :=
  (hh_Ev_eq pb_hx_foretold).trans rfl
set_option maxRecDepth 20000 in
theorem hx_foretold_b4_eq (L : Nat) (l1 : Int) (l2 : Int) (l3 : Int) (l4 : Int) (l5 : Int) (l6 : Int) (l7 : Int) (s : hh_Sv) : hx_foretold_b4 L l1 l2 l3 l4 l5 l6 l7 s =
  if 0 ≤ l6 ∧ l6 < 60 then
  if w32 l7 < w32 (s 11 l6.toNat) then
    (co_show L l6 l7 s).bind (fun r1 =>
    (co_isHitAt L l6 l7 r1.2.2).bind (fun r2 =>
    if 0 ≤ l1 ∧ l1 < 12 then
    if kd L ((r2.2.2 16 l1.toNat).toNat) = 26 then
    (ru_chanceOf L ((r2.2.2 16 l1.toNat).toNat) 29 r2.2.2).bind (fun r3 =>
    (hx_isIn L r3.1 l2 l3 r3.2.2).bind (fun r4 =>
    if w32 r4.1 = 0 then
      hx_foretold_b9 L l1 l2 l3 l4 l5 l6 l7 r2.1 r4.2.2
    else
      if w32 l4 = 0 then
        hx_foretold_b8 L l1 l2 l3 l4 l6 l7 r2.1 l5 r3.1 r4.2.2
      else
        if w32 l4 = 2 then
          hx_foretold_b8 L l1 l2 l3 l4 l6 l7 r2.1 l5 1 r4.2.2
        else
          if w32 r2.1 = 0 then
            hx_foretold_b8 L l1 l2 l3 l4 l6 l7 r2.1 l5 0 r4.2.2
          else
            hx_foretold_b8 L l1 l2 l3 l4 l6 l7 r2.1 l5 1 r4.2.2))
    else none
    else none))
  else
    hx_foretold_b3 L l1 l2 l3 l4 l5 (l6 + 1) s
  else none :=
  ((hh_Ev_eq pb_hx_foretold).trans (show _ = (
  if 0 ≤ l6 ∧ l6 < 60 then
  if w32 l7 < w32 (s 11 l6.toNat) then
    (co_show L l6 l7 s).bind (fun r1 =>
    (co_isHitAt L l6 l7 r1.2.2).bind (fun r2 =>
    if 0 ≤ l1 ∧ l1 < 12 then
    if kd L ((r2.2.2 16 l1.toNat).toNat) = 26 then
    (ru_chanceOf L ((r2.2.2 16 l1.toNat).toNat) 29 r2.2.2).bind (fun r3 =>
    (hx_isIn L r3.1 l2 l3 r3.2.2).bind (fun r4 =>
    if w32 r4.1 = 0 then
      hx_foretold_b9 L l1 l2 l3 l4 l5 l6 l7 r2.1 r4.2.2
    else
      if w32 l4 = 0 then
        hx_foretold_b8 L l1 l2 l3 l4 l6 l7 r2.1 l5 r3.1 r4.2.2
      else
        if w32 l4 = w32 2 then
          hx_foretold_b8 L l1 l2 l3 l4 l6 l7 r2.1 l5 1 r4.2.2
        else
          if w32 r2.1 = 0 then
            hx_foretold_b8 L l1 l2 l3 l4 l6 l7 r2.1 l5 0 r4.2.2
          else
            hx_foretold_b8 L l1 l2 l3 l4 l6 l7 r2.1 l5 1 r4.2.2))
    else none
    else none))
  else
    hx_foretold_b3 L l1 l2 l3 l4 l5 (l6 + 1) s
  else none) from rfl)).trans (by simp only [k32_2])
set_option maxRecDepth 20000 in
theorem hx_foretold_b8_eq (L : Nat) (l1 : Int) (l2 : Int) (l3 : Int) (l4 : Int) (l6 : Int) (l7 : Int) (l8 : Int) (k0 : Int) (k1 : Int) (s : hh_Sv) : hx_foretold_b8 L l1 l2 l3 l4 l6 l7 l8 k0 k1 s =
  hx_foretold_b9 L l1 l2 l3 l4 (k0 + k1) l6 l7 l8 s :=
  (hh_Ev_eq pb_hx_foretold).trans rfl
set_option maxRecDepth 20000 in
theorem hx_foretold_b9_eq (L : Nat) (l1 : Int) (l2 : Int) (l3 : Int) (l4 : Int) (l5 : Int) (l6 : Int) (l7 : Int) (l8 : Int) (s : hh_Sv) : hx_foretold_b9 L l1 l2 l3 l4 l5 l6 l7 l8 s =
  if 0 ≤ l1 ∧ l1 < 12 then
  if kd L ((s 16 l1.toNat).toNat) = 26 then
  (ru_goOn L ((s 16 l1.toNat).toNat) 29 l8 s).bind (fun r1 =>
  hx_foretold_b4 L l1 l2 l3 l4 l5 l6 (l7 + 1) r1.2.2)
  else none
  else none :=
  (hh_Ev_eq pb_hx_foretold).trans rfl
set_option maxRecDepth 20000 in
theorem hx_hotBits_eq (L : Nat) (a1 : Int) (s : hh_Sv) : hx_hotBits L a1 s =
  (hx_lawOf L a1 s).bind (fun r1 =>
  (as_clear L 29 r1.2.2).bind (fun r2 =>
  hx_hotBits_b1 L a1 r1.1.toNat 0 0 r2.2.2)) :=
  (hh_Ev_eq pb_hx_hotBits).trans rfl
set_option maxRecDepth 20000 in
theorem hx_hotBits_b1_eq (L : Nat) (l1 : Int) (l2 : Nat) (l3 : Int) (l4 : Int) (s : hh_Sv) : hx_hotBits_b1 L l1 l2 l3 l4 s =
  if 0 ≤ l1 ∧ l1 < 60 then
  if w32 l4 < w32 (s 11 l1.toNat) then
    (co_show L l1 l4 s).bind (fun r1 =>
    if 0 < w32 (r1.2.2 29 2) then
      hx_hotBits_b3 L l1 l2 l4 l3 (iShl 1 l4) r1.2.2
    else
      hx_hotBits_b3 L l1 l2 l4 l3 0 r1.2.2)
  else
    ok L l3 s
  else none :=
  (hh_Ev_eq pb_hx_hotBits).trans rfl
set_option maxRecDepth 20000 in
theorem hx_hotBits_b3_eq (L : Nat) (l1 : Int) (l2 : Nat) (l4 : Int) (k0 : Int) (k1 : Int) (s : hh_Sv) : hx_hotBits_b3 L l1 l2 l4 k0 k1 s =
  (co_isHitAt L l1 l4 s).bind (fun r1 =>
  if kd L l2 = 26 then
  (ru_goOn L l2 29 r1.1 r1.2.2).bind (fun r2 =>
  hx_hotBits_b1 L l1 l2 (bOr k0 k1) (l4 + 1) r2.2.2)
  else none) :=
  (hh_Ev_eq pb_hx_hotBits).trans rfl
set_option maxRecDepth 20000 in
theorem hx_heat_eq (L : Nat) (a1 : Int) (a2 : Int) (s : hh_Sv) : hx_heat L a1 a2 s =
  (co_hasThrower L a1 s).bind (fun r1 =>
  if w32 r1.1 = 0 then
    ok L (-1) r1.2.2
  else
    (hx_isIn L a2 0 3 r1.2.2).bind (fun r2 =>
    if w32 r2.1 = 0 then
      ok L (-1) r2.2.2
    else
      hx_heat_b3 L a1 a2 0 0 0 0 0 r2.2.2)) :=
  (hh_Ev_eq pb_hx_heat).trans rfl
set_option maxRecDepth 20000 in
theorem hx_heat_b3_eq (L : Nat) (l1 : Int) (l2 : Int) (l3 : Int) (l4 : Int) (l5 : Int) (l6 : Int) (l7 : Int) (s : hh_Sv) : hx_heat_b3 L l1 l2 l3 l4 l5 l6 l7 s =
  if w32 l7 < w32 (s 9 1) then
    (co_isOf L l7 l1 s).bind (fun r1 =>
    if w32 r1.1 = 0 then
      hx_heat_b3 L l1 l2 l3 l4 l5 l6 (l7 + 1) r1.2.2
    else
      (hx_hotBits L l7 r1.2.2).bind (fun r2 =>
      (jin_bitCount L r2.1 r2.2.2).bind (fun r3 =>
      if 0 ≤ l7 ∧ l7 < 60 then
      (jin_bitCount L (bAnd r2.1 (r3.2.2 12 l7.toNat)) r3.2.2).bind (fun r4 =>
      (jin_bitCount L (bAnd r2.1 (bXor (iShl r2.1 1) (-1))) r4.2.2).bind (fun r5 =>
      (hx_longestOf L r2.1 r5.2.2).bind (fun r6 =>
      (jma_max L l6 r6.1 r6.2.2).bind (fun r7 =>
      hx_heat_b3 L l1 l2 (l3 + r3.1) (l4 + r4.1) (l5 + r5.1) r7.1 (l7 + 1) r7.2.2))))
      else none)))
  else
    if w32 l2 = 0 then
      ok L l3 s
    else
      if w32 l2 = 1 then
        ok L l4 s
      else
        if w32 l2 = 2 then
          ok L l5 s
        else
          ok L l6 s :=
  (hh_Ev_eq pb_hx_heat).trans rfl
set_option maxRecDepth 20000 in
theorem hx_say_eq (L : Nat) (a1 : Int) (a2 : Int) (a3 : Int) (s : hh_Sv) : hx_say L a1 a2 a3 s =
  (co_hasThrower L a1 s).bind (fun r1 =>
  if w32 r1.1 = 0 then
    ok L (-1) r1.2.2
  else
    (hx_isIn L a2 1 9 r1.2.2).bind (fun r2 =>
    if w32 r2.1 = 0 then
      ok L (-1) r2.2.2
    else
      (hx_isIn L a3 1 99 r2.2.2).bind (fun r3 =>
      if w32 r3.1 = 0 then
        ok L (-1) r3.2.2
      else
        (co_longestRow L a1 r3.2.2).bind (fun r4 =>
        if w32 r4.1 < 2 then
          ok L (-1) r4.2.2
        else
          (su_reckon L a1 r4.2.2).bind (fun r5 =>
          if w32 r5.1 = 0 then
            ok L (-1) r5.2.2
          else
            (su_atLeast L a1 r5.2.2).bind (fun r6 =>
            if 0 < w32 (lCmp r6.1 (((tDiv (w64 (r5.2.2 32 0)) 100) * (w32 a3)) + (tDiv (w64 ((tMod (w64 (r5.2.2 32 0)) 100) * (w32 a3))) 100))) then
              (hx_hundredthsOf L a1 r6.2.2).bind (fun r7 =>
              (jma_min L 9 (tDiv (w32 r7.1) 10) r7.2.2).bind (fun r8 =>
              (jma_max L 1 r8.1 r8.2.2).bind (fun r9 =>
              (jma_min L r4.1 12 r9.2.2).bind (fun r10 =>
              (tr_isSeen L r10.1 r9.1 a2 a3 50 r10.2.2).bind (fun r11 =>
              if w32 r11.1 = 0 then
                ok L 0 r11.2.2
              else
                ok L 1 r11.2.2)))))
            else
              ok L 2 r6.2.2)))))) :=
  ((hh_Ev_eq pb_hx_say).trans (show _ = (
  (co_hasThrower L a1 s).bind (fun r1 =>
  if w32 r1.1 = 0 then
    ok L (-1) r1.2.2
  else
    (hx_isIn L a2 1 9 r1.2.2).bind (fun r2 =>
    if w32 r2.1 = 0 then
      ok L (-1) r2.2.2
    else
      (hx_isIn L a3 1 99 r2.2.2).bind (fun r3 =>
      if w32 r3.1 = 0 then
        ok L (-1) r3.2.2
      else
        (co_longestRow L a1 r3.2.2).bind (fun r4 =>
        if w32 r4.1 < w32 2 then
          ok L (-1) r4.2.2
        else
          (su_reckon L a1 r4.2.2).bind (fun r5 =>
          if w32 r5.1 = 0 then
            ok L (-1) r5.2.2
          else
            if w64 100 = 0 then none else
            if w64 100 = 0 then none else
            if w64 100 = 0 then none else
            (su_atLeast L a1 r5.2.2).bind (fun r6 =>
            if 0 < w32 (lCmp r6.1 (((tDiv (w64 (r5.2.2 32 0)) (w64 100)) * (w32 a3)) + (tDiv (w64 ((tMod (w64 (r5.2.2 32 0)) (w64 100)) * (w32 a3))) (w64 100)))) then
              (hx_hundredthsOf L a1 r6.2.2).bind (fun r7 =>
              if w32 10 = 0 then none else
              (jma_min L 9 (tDiv (w32 r7.1) (w32 10)) r7.2.2).bind (fun r8 =>
              (jma_max L 1 r8.1 r8.2.2).bind (fun r9 =>
              (jma_min L r4.1 12 r9.2.2).bind (fun r10 =>
              (tr_isSeen L r10.1 r9.1 a2 a3 50 r10.2.2).bind (fun r11 =>
              if w32 r11.1 = 0 then
                ok L 0 r11.2.2
              else
                ok L 1 r11.2.2)))))
            else
              ok L 2 r6.2.2))))))) from rfl)).trans (by simp only [k32_2, k32_10, k64_100, kz_2, kz_10, kz_100, if_false, if_true])
set_option maxRecDepth 20000 in
theorem hx_image_eq (L : Nat) (s : hh_Sv) : hx_image L s =
  if w32 (s 8 2) < 3 then
    if 0 ≤ s 8 2 ∧ s 8 2 < 3 then
    if kd L (pf L 15 ((s 8 2).toNat)) = 21 then
    (co_copy L (pf L 15 ((s 8 2).toNat)) 9 s).bind (fun r1 =>
    ok L (((r1.2.2 8 2) + 1) - 1) (up r1.2.2 8 2 ((r1.2.2 8 2) + 1)))
    else none
    else none
  else
    ok L (-1) s :=
  ((hh_Ev_eq pb_hx_image).trans (show _ = (
  if w32 (s 8 2) < w32 3 then
    if 0 ≤ s 8 2 ∧ s 8 2 < 3 then
    if kd L (pf L 15 ((s 8 2).toNat)) = 21 then
    (co_copy L (pf L 15 ((s 8 2).toNat)) 9 s).bind (fun r1 =>
    ok L (((r1.2.2 8 2) + 1) - 1) (up r1.2.2 8 2 ((r1.2.2 8 2) + 1)))
    else none
    else none
  else
    ok L (-1) s) from rfl)).trans (by simp only [k32_3])
set_option maxRecDepth 20000 in
theorem hx_back_eq (L : Nat) (a1 : Int) (s : hh_Sv) : hx_back L a1 s =
  if w32 a1 < 0 then
    ok L 0 s
  else
    if w32 a1 < w32 (s 8 2) then
      if 0 ≤ a1 ∧ a1 < 3 then
      (co_copy L 9 (pf L 15 a1.toNat) s).bind (fun r1 =>
      ok L 1 r1.2.2)
      else none
    else
      ok L 0 s :=
  (hh_Ev_eq pb_hx_back).trans rfl
set_option maxRecDepth 20000 in
theorem hx_count_eq (L : Nat) (a1 : Int) (s : hh_Sv) : hx_count L a1 s =
  (hx_isIn L a1 10 21 s).bind (fun r1 =>
  if w32 r1.1 = 0 then
    (hx_isIn L a1 30 33 r1.2.2).bind (fun r2 =>
    if w32 r2.1 = 0 then
      if w32 a1 = 0 then
        ok L (r2.2.2 9 0) r2.2.2
      else
        if w32 a1 = 1 then
          ok L (r2.2.2 9 1) r2.2.2
        else
          if w32 a1 = 2 then
            (co_countThrows L (-1) r2.2.2).bind (fun r4 =>
            ok L r4.1 r4.2.2)
          else
            if w32 a1 = 3 then
              (co_countHits L (-1) r2.2.2).bind (fun r3 =>
              ok L r3.1 r3.2.2)
            else
              if w32 a1 = 4 then
                ok L (r2.2.2 8 7) r2.2.2
              else
                if w32 a1 = 5 then
                  ok L (r2.2.2 8 2) r2.2.2
                else
                  if w32 a1 = 6 then
                    ok L (r2.2.2 24 0) r2.2.2
                  else
                    ok L (-1) r2.2.2
    else
      if 0 ≤ a1 - 30 ∧ a1 - 30 < 4 then
      if kd L ((r2.2.2 17 ((a1 - 30).toNat)).toNat) = 26 then
      ok L (r2.2.2 ((r2.2.2 17 ((a1 - 30).toNat)).toNat) 0) r2.2.2
      else none
      else none)
  else
    if 0 ≤ a1 - 10 ∧ a1 - 10 < 12 then
    if kd L ((r1.2.2 16 ((a1 - 10).toNat)).toNat) = 26 then
    ok L (r1.2.2 ((r1.2.2 16 ((a1 - 10).toNat)).toNat) 0) r1.2.2
    else none
    else none) :=
  (hh_Ev_eq pb_hx_count).trans rfl
