/-! the equations of the reference -/
set_option maxRecDepth 20000 in
theorem md_isIn_eq (L : Nat) (a0 : Int) (a1 : Int) (a2 : Int) (s : hh_Sv) : md_isIn L a0 a1 a2 s =
  if w32 a0 < w32 a1 then
    md_isIn_b1 L s
  else
    if w32 a2 < w32 a0 then
      md_isIn_b1 L s
    else
      ok L 1 s :=
  (hh_Ev_eq pb_md_isIn).trans rfl
set_option maxRecDepth 20000 in
theorem md_isIn_b1_eq (L : Nat) (s : hh_Sv) : md_isIn_b1 L s =
  ok L 0 s :=
  (hh_Ev_eq pb_md_isIn).trans rfl
set_option maxRecDepth 20000 in
theorem md_one_eq (L : Nat) (a0 : Int) (s : hh_Sv) : md_one L a0 s =
  if w32 a0 = 0 then
    ok L 0 s
  else
    ok L 1 s :=
  (hh_Ev_eq pb_md_one).trans rfl
set_option maxRecDepth 20000 in
theorem md_has_eq (L : Nat) (a0 : Int) (a1 : Int) (s : hh_Sv) : md_has L a0 a1 s =
  if w32 (bAnd (iShr a0 a1) 1) = 1 then
    ok L 1 s
  else
    ok L 0 s :=
  ((hh_Ev_eq pb_md_has).trans (show _ = (
  if w32 (bAnd (iShr a0 a1) 1) = w32 1 then
    ok L 1 s
  else
    ok L 0 s) from rfl)).trans (by simp only [k32_1])
set_option maxRecDepth 20000 in
theorem md_bits_eq (L : Nat) (a0 : Int) (s : hh_Sv) : md_bits L a0 s =
  md_bits_b1 L 0 a0 s :=
  (hh_Ev_eq pb_md_bits).trans rfl
set_option maxRecDepth 20000 in
theorem md_bits_b1_eq (L : Nat) (l1 : Int) (l2 : Int) (s : hh_Sv) : md_bits_b1 L l1 l2 s =
  if 0 < w32 l2 then
    md_bits_b1 L (l1 + (bAnd l2 1)) (iShr l2 1) s
  else
    ok L l1 s :=
  (hh_Ev_eq pb_md_bits).trans rfl
set_option maxRecDepth 20000 in
theorem md_divisor_eq (L : Nat) (a0 : Int) (a1 : Int) (s : hh_Sv) : md_divisor L a0 a1 s =
  (jma_absL L a0 s).bind (fun r1 =>
  (jma_absL L a1 r1.2.2).bind (fun r2 =>
  md_divisor_b1 L r1.1 r2.1 r2.2.2)) :=
  (hh_Ev_eq pb_md_divisor).trans rfl
set_option maxRecDepth 20000 in
theorem md_divisor_b1_eq (L : Nat) (l4 : Int) (l6 : Int) (s : hh_Sv) : md_divisor_b1 L l4 l6 s =
  if 0 < w32 (lCmp l6 0) then
    if w64 l6 = 0 then none else
    md_divisor_b1 L l6 (tMod (w64 l4) (w64 l6)) s
  else
    ok L l4 s :=
  (hh_Ev_eq pb_md_divisor).trans rfl
set_option maxRecDepth 20000 in
theorem md_is_eq (L : Nat) (a1 : Int) (a2 : Int) (s : hh_Sv) : md_is L a1 a2 s =
  (md_divisor L a1 a2 s).bind (fun r1 =>
  if w64 r1.1 = 0 then none else
  if w64 r1.1 = 0 then none else
  ok L 0 (up (up r1.2.2 242 0 (tDiv (w64 a1) (w64 r1.1))) 242 1 (tDiv (w64 a2) (w64 r1.1)))) :=
  (hh_Ev_eq pb_md_is).trans rfl
set_option maxRecDepth 20000 in
theorem md_tells_eq (L : Nat) (a1 : Int) (s : hh_Sv) : md_tells L a1 s =
  if w32 a1 = 0 then
    ok L (s 242 0) s
  else
    ok L (s 242 1) s :=
  (hh_Ev_eq pb_md_tells).trans rfl
set_option maxRecDepth 20000 in
theorem md_isThrower_eq (L : Nat) (a1 : Int) (s : hh_Sv) : md_isThrower L a1 s =
  (md_isIn L a1 0 ((s 242 2) - 1) s).bind (fun r1 =>
  if r1.1 = 0 ∨ r1.1 = 1 then
  ok L r1.1 r1.2.2
  else none) :=
  (hh_Ev_eq pb_md_isThrower).trans rfl
set_option maxRecDepth 20000 in
theorem md_isRow_eq (L : Nat) (a1 : Int) (s : hh_Sv) : md_isRow L a1 s =
  (md_isIn L a1 0 ((s 242 3) - 1) s).bind (fun r1 =>
  if r1.1 = 0 ∨ r1.1 = 1 then
  ok L r1.1 r1.2.2
  else none) :=
  (hh_Ev_eq pb_md_isRow).trans rfl
set_option maxRecDepth 20000 in
theorem md_thrower_eq (L : Nat) (s : hh_Sv) : md_thrower L s =
  if w32 (s 242 2) = 12 then
    ok L (-1) s
  else
    ok L (((s 242 2) + 1) - 1) (up s 242 2 ((s 242 2) + 1)) :=
  ((hh_Ev_eq pb_md_thrower).trans (show _ = (
  if w32 (s 242 2) = w32 12 then
    ok L (-1) s
  else
    ok L (((s 242 2) + 1) - 1) (up s 242 2 ((s 242 2) + 1))) from rfl)).trans (by simp only [k32_12])
set_option maxRecDepth 20000 in
theorem md_row_eq (L : Nat) (a1 : Int) (s : hh_Sv) : md_row L a1 s =
  (md_isThrower L a1 s).bind (fun r1 =>
  if w32 r1.1 = 0 then
    ok L (-1) r1.2.2
  else
    if w32 (r1.2.2 242 3) = 60 then
      ok L (-1) r1.2.2
    else
      if 0 ≤ r1.2.2 242 3 ∧ r1.2.2 242 3 < 60 then
      if 0 ≤ r1.2.2 242 3 ∧ r1.2.2 242 3 < 60 then
      if 0 ≤ r1.2.2 242 3 ∧ r1.2.2 242 3 < 60 then
      ok L (((r1.2.2 242 3) + 1) - 1) (up (up (up (up r1.2.2 243 ((r1.2.2 242 3).toNat) a1) 244 ((r1.2.2 242 3).toNat) 0) 245 ((r1.2.2 242 3).toNat) 0) 242 3 ((r1.2.2 242 3) + 1))
      else none
      else none
      else none) :=
  ((hh_Ev_eq pb_md_row).trans (show _ = (
  (md_isThrower L a1 s).bind (fun r1 =>
  if w32 r1.1 = 0 then
    ok L (-1) r1.2.2
  else
    if w32 (r1.2.2 242 3) = w32 60 then
      ok L (-1) r1.2.2
    else
      if 0 ≤ r1.2.2 242 3 ∧ r1.2.2 242 3 < 60 then
      if 0 ≤ r1.2.2 242 3 ∧ r1.2.2 242 3 < 60 then
      if 0 ≤ r1.2.2 242 3 ∧ r1.2.2 242 3 < 60 then
      ok L (((r1.2.2 242 3) + 1) - 1) (up (up (up (up r1.2.2 243 ((r1.2.2 242 3).toNat) a1) 244 ((r1.2.2 242 3).toNat) 0) 245 ((r1.2.2 242 3).toNat) 0) 242 3 ((r1.2.2 242 3) + 1))
      else none
      else none
      else none)) from rfl)).trans (by simp only [k32_60])
set_option maxRecDepth 20000 in
theorem md_adds_eq (L : Nat) (a1 : Int) (a2 : Int) (a3 : Int) (a4 : Int) (s : hh_Sv) : md_adds L a1 a2 a3 a4 s =
  if 0 ≤ a1 ∧ a1 < 60 then
  if 0 ≤ (24 * a1) + (s 244 a1.toNat) ∧ (24 * a1) + (s 244 a1.toNat) < 1440 then
  if 0 ≤ (24 * a1) + (s 244 a1.toNat) ∧ (24 * a1) + (s 244 a1.toNat) < 1440 then
  if w32 a2 = 0 then
    md_adds_b1 L a1 (up (up s 246 (((24 * a1) + (s 244 a1.toNat)).toNat) a3) 247 (((24 * a1) + (s 244 a1.toNat)).toNat) a4)
  else
    if 0 ≤ a1 ∧ a1 < 60 then
    if 0 ≤ a1 ∧ a1 < 60 then
    if 0 ≤ a1 ∧ a1 < 60 then
    md_adds_b1 L a1 (up (up (up s 246 (((24 * a1) + (s 244 a1.toNat)).toNat) a3) 247 (((24 * a1) + (s 244 a1.toNat)).toNat) a4) 245 a1.toNat (bOr (s 245 a1.toNat) (iShl 1 (s 244 a1.toNat))))
    else none
    else none
    else none
  else none
  else none
  else none :=
  (hh_Ev_eq pb_md_adds).trans rfl
set_option maxRecDepth 20000 in
theorem md_adds_b1_eq (L : Nat) (l1 : Int) (s : hh_Sv) : md_adds_b1 L l1 s =
  if 0 ≤ l1 ∧ l1 < 60 then
  if 0 ≤ l1 ∧ l1 < 60 then
  ok L 0 (up s 244 l1.toNat ((s 244 l1.toNat) + 1))
  else none
  else none :=
  (hh_Ev_eq pb_md_adds).trans rfl
set_option maxRecDepth 20000 in
theorem md_thrown_eq (L : Nat) (a1 : Int) (a2 : Int) (a3 : Int) (a4 : Int) (s : hh_Sv) : md_thrown L a1 a2 a3 a4 s =
  (md_isRow L a1 s).bind (fun r1 =>
  if w32 r1.1 = 0 then
    ok L (-1) r1.2.2
  else
    (md_isIn L a3 0 3 r1.2.2).bind (fun r2 =>
    if w32 r2.1 = 0 then
      ok L (-1) r2.2.2
    else
      (md_isIn L a4 0 3 r2.2.2).bind (fun r3 =>
      if w32 r3.1 = 0 then
        ok L (-1) r3.2.2
      else
        if 0 ≤ a1 ∧ a1 < 60 then
        if w32 (r3.2.2 244 a1.toNat) = 24 then
          ok L (-1) r3.2.2
        else
          (md_adds L a1 a2 a3 a4 r3.2.2).bind (fun r4 =>
          if 0 ≤ a1 ∧ a1 < 60 then
          ok L (r4.2.2 244 a1.toNat) r4.2.2
          else none)
        else none))) :=
  ((hh_Ev_eq pb_md_thrown).trans (show _ = (
  (md_isRow L a1 s).bind (fun r1 =>
  if w32 r1.1 = 0 then
    ok L (-1) r1.2.2
  else
    (md_isIn L a3 0 3 r1.2.2).bind (fun r2 =>
    if w32 r2.1 = 0 then
      ok L (-1) r2.2.2
    else
      (md_isIn L a4 0 3 r2.2.2).bind (fun r3 =>
      if w32 r3.1 = 0 then
        ok L (-1) r3.2.2
      else
        if 0 ≤ a1 ∧ a1 < 60 then
        if w32 (r3.2.2 244 a1.toNat) = w32 24 then
          ok L (-1) r3.2.2
        else
          (md_adds L a1 a2 a3 a4 r3.2.2).bind (fun r4 =>
          if 0 ≤ a1 ∧ a1 < 60 then
          ok L (r4.2.2 244 a1.toNat) r4.2.2
          else none)
        else none)))) from rfl)).trans (by simp only [k32_24])
set_option maxRecDepth 20000 in
theorem md_seed_eq (L : Nat) (a1 : Int) (s : hh_Sv) : md_seed L a1 s =
  (md_isIn L a1 0 999999999 s).bind (fun r1 =>
  if w32 r1.1 = 0 then
    ok L 0 r1.2.2
  else
    ok L 1 (up r1.2.2 242 4 (w32 a1))) :=
  (hh_Ev_eq pb_md_seed).trans rfl
set_option maxRecDepth 20000 in
theorem md_four_eq (L : Nat) (a1 : Int) (s : hh_Sv) : md_four L a1 s =
  md_four_b1 L a1 24 s :=
  (hh_Ev_eq pb_md_four).trans rfl
set_option maxRecDepth 20000 in
theorem md_four_b1_eq (L : Nat) (l1 : Int) (l2 : Int) (s : hh_Sv) : md_four_b1 L l1 l2 s =
  if w32 l2 < 0 then
    ok L 0 s
  else
    if 0 ≤ s 242 10 ∧ s 242 10 < 600 then
    md_four_b1 L l1 (l2 + (-8)) (up (up s 260 ((s 242 10).toNat) (b8 (b8 (iShr l1 l2)))) 242 10 ((s 242 10) + 1))
    else none :=
  (hh_Ev_eq pb_md_four).trans rfl
set_option maxRecDepth 20000 in
theorem md_feed_eq (L : Nat) (a1 : Int) (a2 : Int) (a3 : Int) (a4 : Int) (a5 : Int) (s : hh_Sv) : md_feed L a1 a2 a3 a4 a5 s =
  if 600 < w32 ((s 242 10) + 20) then
    ok L (-1) s
  else
    (md_four L a1 s).bind (fun r1 =>
    (md_four L a2 r1.2.2).bind (fun r2 =>
    (md_four L a3 r2.2.2).bind (fun r3 =>
    (md_four L a4 r3.2.2).bind (fun r4 =>
    (md_four L a5 r4.2.2).bind (fun r5 =>
    ok L (r5.2.2 242 10) r5.2.2))))) :=
  ((hh_Ev_eq pb_md_feed).trans (show _ = (
  if w32 600 < w32 ((s 242 10) + 20) then
    ok L (-1) s
  else
    (md_four L a1 s).bind (fun r1 =>
    (md_four L a2 r1.2.2).bind (fun r2 =>
    (md_four L a3 r2.2.2).bind (fun r3 =>
    (md_four L a4 r3.2.2).bind (fun r4 =>
    (md_four L a5 r4.2.2).bind (fun r5 =>
    ok L (r5.2.2 242 10) r5.2.2)))))) from rfl)).trans (by simp only [k32_600])
set_option maxRecDepth 20000 in
theorem md_blanks_eq (L : Nat) (s : hh_Sv) : md_blanks L s =
  if w32 (s 242 12) < w32 (s 242 11) then
    if 0 ≤ s 242 12 ∧ s 242 12 < 600 then
    if w32 (s 261 ((s 242 12).toNat)) = 32 then
      md_blanks_b1 L s
    else
      if 0 ≤ s 242 12 ∧ s 242 12 < 600 then
      if w32 (s 261 ((s 242 12).toNat)) = 10 then
        md_blanks_b1 L s
      else
        ok L 0 s
      else none
    else none
  else
    ok L 0 s :=
  ((hh_Ev_eq pb_md_blanks).trans (show _ = (
  if w32 (s 242 12) < w32 (s 242 11) then
    if 0 ≤ s 242 12 ∧ s 242 12 < 600 then
    if w32 (s 261 ((s 242 12).toNat)) = w32 32 then
      md_blanks_b1 L s
    else
      if 0 ≤ s 242 12 ∧ s 242 12 < 600 then
      if w32 (s 261 ((s 242 12).toNat)) = w32 10 then
        md_blanks_b1 L s
      else
        ok L 0 s
      else none
    else none
  else
    ok L 0 s) from rfl)).trans (by simp only [k32_10, k32_32])
set_option maxRecDepth 20000 in
theorem md_blanks_b0_eq (L : Nat) (s : hh_Sv) : md_blanks_b0 L s =
  if w32 (s 242 12) < w32 (s 242 11) then
    if 0 ≤ s 242 12 ∧ s 242 12 < 600 then
    if w32 (s 261 ((s 242 12).toNat)) = 32 then
      md_blanks_b1 L s
    else
      if 0 ≤ s 242 12 ∧ s 242 12 < 600 then
      if w32 (s 261 ((s 242 12).toNat)) = 10 then
        md_blanks_b1 L s
      else
        ok L 0 s
      else none
    else none
  else
    ok L 0 s :=
  ((hh_Ev_eq pb_md_blanks).trans (show _ = (
  if w32 (s 242 12) < w32 (s 242 11) then
    if 0 ≤ s 242 12 ∧ s 242 12 < 600 then
    if w32 (s 261 ((s 242 12).toNat)) = w32 32 then
      md_blanks_b1 L s
    else
      if 0 ≤ s 242 12 ∧ s 242 12 < 600 then
      if w32 (s 261 ((s 242 12).toNat)) = w32 10 then
        md_blanks_b1 L s
      else
        ok L 0 s
      else none
    else none
  else
    ok L 0 s) from rfl)).trans (by simp only [k32_10, k32_32])
set_option maxRecDepth 20000 in
theorem md_blanks_b1_eq (L : Nat) (s : hh_Sv) : md_blanks_b1 L s =
  md_blanks_b0 L (up s 242 12 ((s 242 12) + 1)) :=
  (hh_Ev_eq pb_md_blanks).trans rfl
set_option maxRecDepth 20000 in
theorem md_word_eq (L : Nat) (s : hh_Sv) : md_word L s =
  (md_blanks L s).bind (fun r1 =>
  md_word_b1 L 0 (up r1.2.2 242 32 (r1.2.2 242 12))) :=
  (hh_Ev_eq pb_md_word).trans rfl
set_option maxRecDepth 20000 in
theorem md_word_b1_eq (L : Nat) (l1 : Int) (s : hh_Sv) : md_word_b1 L l1 s =
  if w32 (s 242 32) < w32 (s 242 11) then
    if 0 ≤ s 242 32 ∧ s 242 32 < 600 then
    if w32 (s 261 ((s 242 32).toNat)) < 97 then
      md_word_b4 L l1 s
    else
      if 0 ≤ s 242 32 ∧ s 242 32 < 600 then
      if 122 < w32 (s 261 ((s 242 32).toNat)) then
        md_word_b4 L l1 s
      else
        if w32 ((s 242 32) - (s 242 12)) < 7 then
          if 0 ≤ s 242 32 ∧ s 242 32 < 600 then
          md_word_b3 L (bOr (lShl l1 8) (w32 (s 261 ((s 242 32).toNat)))) s
          else none
        else
          md_word_b3 L 0 s
      else none
    else none
  else
    md_word_b4 L l1 s :=
  ((hh_Ev_eq pb_md_word).trans (show _ = (
  if w32 (s 242 32) < w32 (s 242 11) then
    if 0 ≤ s 242 32 ∧ s 242 32 < 600 then
    if w32 (s 261 ((s 242 32).toNat)) < w32 97 then
      md_word_b4 L l1 s
    else
      if 0 ≤ s 242 32 ∧ s 242 32 < 600 then
      if w32 122 < w32 (s 261 ((s 242 32).toNat)) then
        md_word_b4 L l1 s
      else
        if w32 ((s 242 32) - (s 242 12)) < w32 7 then
          if 0 ≤ s 242 32 ∧ s 242 32 < 600 then
          md_word_b3 L (bOr (lShl l1 8) (w32 (s 261 ((s 242 32).toNat)))) s
          else none
        else
          md_word_b3 L 0 s
      else none
    else none
  else
    md_word_b4 L l1 s) from rfl)).trans (by simp only [k32_7, k32_97, k32_122])
set_option maxRecDepth 20000 in
theorem md_word_b3_eq (L : Nat) (k0 : Int) (s : hh_Sv) : md_word_b3 L k0 s =
  md_word_b1 L k0 (up s 242 32 ((s 242 32) + 1)) :=
  (hh_Ev_eq pb_md_word).trans rfl
set_option maxRecDepth 20000 in
theorem md_word_b4_eq (L : Nat) (l1 : Int) (s : hh_Sv) : md_word_b4 L l1 s =
  if 7 < w32 ((s 242 32) - (s 242 12)) then
    ok L 0 s
  else
    ok L l1 s :=
  ((hh_Ev_eq pb_md_word).trans (show _ = (
  if w32 7 < w32 ((s 242 32) - (s 242 12)) then
    ok L 0 s
  else
    ok L l1 s) from rfl)).trans (by simp only [k32_7])
set_option maxRecDepth 20000 in
theorem md_takes_eq (L : Nat) (a1 : Int) (s : hh_Sv) : md_takes L a1 s =
  (md_word L s).bind (fun r1 =>
  if w32 (lCmp r1.1 a1) = 0 then
    ok L 1 (up r1.2.2 242 12 (r1.2.2 242 32))
  else
    ok L 0 r1.2.2) :=
  (hh_Ev_eq pb_md_takes).trans rfl
set_option maxRecDepth 20000 in
theorem md_takesSign_eq (L : Nat) (a1 : Int) (s : hh_Sv) : md_takesSign L a1 s =
  (md_blanks L s).bind (fun r1 =>
  if w32 (r1.2.2 242 12) = w32 (r1.2.2 242 11) then
    ok L 0 r1.2.2
  else
    if 0 ≤ r1.2.2 242 12 ∧ r1.2.2 242 12 < 600 then
    if w32 (r1.2.2 261 ((r1.2.2 242 12).toNat)) = w32 a1 then
      ok L 1 (up r1.2.2 242 12 ((r1.2.2 242 12) + 1))
    else
      ok L 0 r1.2.2
    else none) :=
  (hh_Ev_eq pb_md_takesSign).trans rfl
set_option maxRecDepth 20000 in
theorem md_takesNumber_eq (L : Nat) (a1 : Int) (a2 : Int) (s : hh_Sv) : md_takesNumber L a1 a2 s =
  (md_blanks L s).bind (fun r1 =>
  md_takesNumber_b1 L a1 a2 (r1.2.2 242 12) (up r1.2.2 242 33 0)) :=
  (hh_Ev_eq pb_md_takesNumber).trans rfl
set_option maxRecDepth 20000 in
theorem md_takesNumber_b1_eq (L : Nat) (l1 : Int) (l2 : Int) (l3 : Int) (s : hh_Sv) : md_takesNumber_b1 L l1 l2 l3 s =
  if w32 l3 < w32 (s 242 11) then
    if 0 ≤ l3 ∧ l3 < 600 then
    if w32 (s 261 l3.toNat) < 48 then
      md_takesNumber_b3 L l1 l2 l3 s
    else
      if 0 ≤ l3 ∧ l3 < 600 then
      if 57 < w32 (s 261 l3.toNat) then
        md_takesNumber_b3 L l1 l2 l3 s
      else
        if w32 (l3 - (s 242 12)) < 3 then
          if 0 ≤ l3 ∧ l3 < 600 then
          md_takesNumber_b1 L l1 l2 (l3 + 1) (up s 242 33 (((10 * (s 242 33)) + (s 261 l3.toNat)) - 48))
          else none
        else
          md_takesNumber_b1 L l1 l2 (l3 + 1) s
      else none
    else none
  else
    md_takesNumber_b3 L l1 l2 l3 s :=
  ((hh_Ev_eq pb_md_takesNumber).trans (show _ = (
  if w32 l3 < w32 (s 242 11) then
    if 0 ≤ l3 ∧ l3 < 600 then
    if w32 (s 261 l3.toNat) < w32 48 then
      md_takesNumber_b3 L l1 l2 l3 s
    else
      if 0 ≤ l3 ∧ l3 < 600 then
      if w32 57 < w32 (s 261 l3.toNat) then
        md_takesNumber_b3 L l1 l2 l3 s
      else
        if w32 (l3 - (s 242 12)) < w32 3 then
          if 0 ≤ l3 ∧ l3 < 600 then
          md_takesNumber_b1 L l1 l2 (l3 + 1) (up s 242 33 (((10 * (s 242 33)) + (s 261 l3.toNat)) - 48))
          else none
        else
          md_takesNumber_b1 L l1 l2 (l3 + 1) s
      else none
    else none
  else
    md_takesNumber_b3 L l1 l2 l3 s) from rfl)).trans (by simp only [k32_3, k32_48, k32_57])
set_option maxRecDepth 20000 in
theorem md_takesNumber_b3_eq (L : Nat) (l1 : Int) (l2 : Int) (l3 : Int) (s : hh_Sv) : md_takesNumber_b3 L l1 l2 l3 s =
  if w32 l3 = w32 (s 242 12) then
    ok L 0 s
  else
    if 3 < w32 (l3 - (s 242 12)) then
      ok L 0 s
    else
      (md_isIn L (s 242 33) l1 l2 s).bind (fun r1 =>
      if w32 r1.1 = 0 then
        ok L 0 r1.2.2
      else
        ok L 1 (up r1.2.2 242 12 l3)) :=
  ((hh_Ev_eq pb_md_takesNumber).trans (show _ = (
  if w32 l3 = w32 (s 242 12) then
    ok L 0 s
  else
    if w32 3 < w32 (l3 - (s 242 12)) then
      ok L 0 s
    else
      (md_isIn L (s 242 33) l1 l2 s).bind (fun r1 =>
      if w32 r1.1 = 0 then
        ok L 0 r1.2.2
      else
        ok L 1 (up r1.2.2 242 12 l3))) from rfl)).trans (by simp only [k32_3])
set_option maxRecDepth 20000 in
theorem md_lays_eq (L : Nat) (a1 : Int) (s : hh_Sv) : md_lays L a1 s =
  md_lays_b1 L a1 0 s :=
  (hh_Ev_eq pb_md_lays).trans rfl
set_option maxRecDepth 20000 in
theorem md_lays_b1_eq (L : Nat) (l1 : Int) (l2 : Int) (s : hh_Sv) : md_lays_b1 L l1 l2 s =
  if w32 l2 < w32 l1 then
    if 0 ≤ l2 ∧ l2 < 600 then
    if 0 ≤ l2 ∧ l2 < 600 then
    md_lays_b1 L l1 (l2 + 1) (up s 261 l2.toNat (b8 (s 260 l2.toNat)))
    else none
    else none
  else
    (md_blanks L (up (up (up s 242 11 l1) 242 10 0) 242 12 0)).bind (fun r1 =>
    ok L 0 r1.2.2) :=
  (hh_Ev_eq pb_md_lays).trans rfl
set_option maxRecDepth 20000 in
theorem md_askedBy_eq (L : Nat) (a0 : Int) (s : hh_Sv) : md_askedBy L a0 s =
  if w32 (lCmp a0 7501166) = 0 then
    ok L 0 s
  else
    if w32 (lCmp a0 1835627379) = 0 then
      ok L 1 s
    else
      if w32 (lCmp a0 495873782885) = 0 then
        ok L 2 s
      else
        if w32 (lCmp a0 482854658917) = 0 then
          ok L 3 s
        else
          if w32 (lCmp a0 1751216740) = 0 then
            ok L 4 s
          else
            if w32 (lCmp a0 444350952036) = 0 then
              ok L 5 s
            else
              if w32 (lCmp a0 1751741555) = 0 then
                ok L 6 s
              else
                ok L (-1) s :=
  (hh_Ev_eq pb_md_askedBy).trans rfl
set_option maxRecDepth 20000 in
theorem md_puts_eq (L : Nat) (a1 : Int) (a2 : Int) (a3 : Int) (s : hh_Sv) : md_puts L a1 a2 a3 s =
  if 0 ≤ s 242 14 ∧ s 242 14 < 5100 then
  if 0 ≤ s 242 14 ∧ s 242 14 < 5100 then
  if 0 ≤ s 242 14 ∧ s 242 14 < 5100 then
  ok L 0 (up (up (up (up s 256 ((s 242 14).toNat) a1) 257 ((s 242 14).toNat) a2) 258 ((s 242 14).toNat) a3) 242 14 ((s 242 14) + 1))
  else none
  else none
  else none :=
  (hh_Ev_eq pb_md_puts).trans rfl
set_option maxRecDepth 20000 in
theorem md_opens_eq (L : Nat) (s : hh_Sv) : md_opens L s =
  if w32 (s 242 13) = 8 then
    ok L 0 s
  else
    ok L 1 (up s 242 13 ((s 242 13) + 1)) :=
  ((hh_Ev_eq pb_md_opens).trans (show _ = (
  if w32 (s 242 13) = w32 8 then
    ok L 0 s
  else
    ok L 1 (up s 242 13 ((s 242 13) + 1))) from rfl)).trans (by simp only [k32_8])
set_option maxRecDepth 20000 in
theorem md_single_eq (L : Nat) (d : Nat) (s : hh_Sv) : md_single L d s =
  (if 2 < d then md_word L s else none).bind (fun r1 =>
  if w32 (lCmp r1.1 7237492) = 0 then
    (if 1 < d then md_opens L r1.2.2 else none).bind (fun r2 =>
    if w32 r2.1 = 0 then
      ok L 0 r2.2.2
    else
      (if 4 + 3 * (9 - (r2.2.2 242 13)).toNat < d then md_single L (4 + 3 * (9 - (r2.2.2 242 13)).toNat) (up r2.2.2 242 12 (r2.2.2 242 32)) else none).bind (fun r3 =>
      if w32 r3.1 = 0 then
        ok L 0 r3.2.2
      else
        (if 1 < d then md_puts L 5 0 0 (up r3.2.2 242 13 ((r3.2.2 242 13) - 1)) else none).bind (fun r4 =>
        ok L 1 r4.2.2)))
  else
    if w32 (r1.2.2 242 12) < w32 (r1.2.2 242 11) then
      if 0 ≤ r1.2.2 242 12 ∧ r1.2.2 242 12 < 600 then
      if w32 (r1.2.2 261 ((r1.2.2 242 12).toNat)) = 40 then
        (if 1 < d then md_opens L r1.2.2 else none).bind (fun r5 =>
        if w32 r5.1 = 0 then
          ok L 0 r5.2.2
        else
          (if 6 + 3 * (9 - (r5.2.2 242 13)).toNat < d then md_any L (6 + 3 * (9 - (r5.2.2 242 13)).toNat) (up r5.2.2 242 12 ((r5.2.2 242 12) + 1)) else none).bind (fun r6 =>
          if w32 r6.1 = 0 then
            ok L 0 r6.2.2
          else
            (if 2 < d then md_takesSign L 41 r6.2.2 else none).bind (fun r7 =>
            if w32 r7.1 = 0 then
              ok L 0 r7.2.2
            else
              ok L 1 (up r7.2.2 242 13 ((r7.2.2 242 13) - 1)))))
      else
        md_single_b7 L d r1.2.2
      else none
    else
      md_single_b7 L d r1.2.2) :=
  ((hh_Ev_eq pb_md_single).trans (show _ = (
  (if 2 < d then md_word L s else none).bind (fun r1 =>
  if w32 (lCmp r1.1 7237492) = 0 then
    (if 1 < d then md_opens L r1.2.2 else none).bind (fun r2 =>
    if w32 r2.1 = 0 then
      ok L 0 r2.2.2
    else
      (if 4 + 3 * (9 - (r2.2.2 242 13)).toNat < d then md_single L (4 + 3 * (9 - (r2.2.2 242 13)).toNat) (up r2.2.2 242 12 (r2.2.2 242 32)) else none).bind (fun r3 =>
      if w32 r3.1 = 0 then
        ok L 0 r3.2.2
      else
        (if 1 < d then md_puts L 5 0 0 (up r3.2.2 242 13 ((r3.2.2 242 13) - 1)) else none).bind (fun r4 =>
        ok L 1 r4.2.2)))
  else
    if w32 (r1.2.2 242 12) < w32 (r1.2.2 242 11) then
      if 0 ≤ r1.2.2 242 12 ∧ r1.2.2 242 12 < 600 then
      if w32 (r1.2.2 261 ((r1.2.2 242 12).toNat)) = w32 40 then
        (if 1 < d then md_opens L r1.2.2 else none).bind (fun r5 =>
        if w32 r5.1 = 0 then
          ok L 0 r5.2.2
        else
          (if 6 + 3 * (9 - (r5.2.2 242 13)).toNat < d then md_any L (6 + 3 * (9 - (r5.2.2 242 13)).toNat) (up r5.2.2 242 12 ((r5.2.2 242 12) + 1)) else none).bind (fun r6 =>
          if w32 r6.1 = 0 then
            ok L 0 r6.2.2
          else
            (if 2 < d then md_takesSign L 41 r6.2.2 else none).bind (fun r7 =>
            if w32 r7.1 = 0 then
              ok L 0 r7.2.2
            else
              ok L 1 (up r7.2.2 242 13 ((r7.2.2 242 13) - 1)))))
      else
        md_single_b7 L d r1.2.2
      else none
    else
      md_single_b7 L d r1.2.2)) from rfl)).trans (by simp only [k32_40])
set_option maxRecDepth 20000 in
theorem md_single_b7_eq (L : Nat) (d : Nat) (s : hh_Sv) : md_single_b7 L d s =
  (if 2 < d then md_word L s else none).bind (fun r1 =>
  (if 1 < d then md_askedBy L r1.1 r1.2.2 else none).bind (fun r2 =>
  if w32 r2.1 = (-1) then
    ok L 0 r2.2.2
  else
    (if 2 < d then md_takesSign L 60 (up r2.2.2 242 12 (r2.2.2 242 32)) else none).bind (fun r3 =>
    if w32 r3.1 = 0 then
      (if 2 < d then md_takesSign L 62 r3.2.2 else none).bind (fun r4 =>
      if w32 r4.1 = 0 then
        (if 2 < d then md_takesSign L 61 r4.2.2 else none).bind (fun r5 =>
        if w32 r5.1 = 0 then
          md_single_b12 L d r2.1 (-1) r5.2.2
        else
          md_single_b12 L d r2.1 2 r5.2.2)
      else
        md_single_b12 L d r2.1 1 r4.2.2)
    else
      md_single_b12 L d r2.1 0 r3.2.2))) :=
  ((hh_Ev_eq pb_md_single).trans (show _ = (
  (if 2 < d then md_word L s else none).bind (fun r1 =>
  (if 1 < d then md_askedBy L r1.1 r1.2.2 else none).bind (fun r2 =>
  if w32 r2.1 = w32 (-1) then
    ok L 0 r2.2.2
  else
    (if 2 < d then md_takesSign L 60 (up r2.2.2 242 12 (r2.2.2 242 32)) else none).bind (fun r3 =>
    if w32 r3.1 = 0 then
      (if 2 < d then md_takesSign L 62 r3.2.2 else none).bind (fun r4 =>
      if w32 r4.1 = 0 then
        (if 2 < d then md_takesSign L 61 r4.2.2 else none).bind (fun r5 =>
        if w32 r5.1 = 0 then
          md_single_b12 L d r2.1 (-1) r5.2.2
        else
          md_single_b12 L d r2.1 2 r5.2.2)
      else
        md_single_b12 L d r2.1 1 r4.2.2)
    else
      md_single_b12 L d r2.1 0 r3.2.2)))) from rfl)).trans (by simp only [k32_m1])
set_option maxRecDepth 20000 in
theorem md_single_b12_eq (L : Nat) (d : Nat) (l1 : Int) (k0 : Int) (s : hh_Sv) : md_single_b12 L d l1 k0 s =
  if w32 k0 = (-1) then
    ok L 0 s
  else
    (if 2 < d then md_takesNumber L 0 99 s else none).bind (fun r1 =>
    if w32 r1.1 = 0 then
      ok L 0 r1.2.2
    else
      (if 1 < d then md_puts L k0 l1 (r1.2.2 242 33) r1.2.2 else none).bind (fun r2 =>
      ok L 1 r2.2.2)) :=
  ((hh_Ev_eq pb_md_single).trans (show _ = (
  if w32 k0 = w32 (-1) then
    ok L 0 s
  else
    (if 2 < d then md_takesNumber L 0 99 s else none).bind (fun r1 =>
    if w32 r1.1 = 0 then
      ok L 0 r1.2.2
    else
      (if 1 < d then md_puts L k0 l1 (r1.2.2 242 33) r1.2.2 else none).bind (fun r2 =>
      ok L 1 r2.2.2))) from rfl)).trans (by simp only [k32_m1])
set_option maxRecDepth 20000 in
theorem md_all_eq (L : Nat) (d : Nat) (s : hh_Sv) : md_all L d s =
  (if 4 + 3 * (9 - (s 242 13)).toNat < d then md_single L (4 + 3 * (9 - (s 242 13)).toNat) s else none).bind (fun r1 =>
  if w32 r1.1 = 0 then
    ok L 0 r1.2.2
  else
    md_all_b1 L d r1.2.2) :=
  (hh_Ev_eq pb_md_all).trans rfl
set_option maxRecDepth 20000 in
theorem md_all_b1_eq (L : Nat) (d : Nat) (s : hh_Sv) : md_all_b1 L d s =
  (if 3 < d then md_takes L 6385252 s else none).bind (fun r1 =>
  if w32 r1.1 = 0 then
    ok L 1 r1.2.2
  else
    (if 4 + 3 * (9 - (r1.2.2 242 13)).toNat < d then md_single L (4 + 3 * (9 - (r1.2.2 242 13)).toNat) r1.2.2 else none).bind (fun r2 =>
    if w32 r2.1 = 0 then
      ok L 0 r2.2.2
    else
      (if 1 < d then md_puts L 4 0 0 r2.2.2 else none).bind (fun r3 =>
      md_all_b1 L d r3.2.2))) :=
  (hh_Ev_eq pb_md_all).trans rfl
set_option maxRecDepth 20000 in
theorem md_any_eq (L : Nat) (d : Nat) (s : hh_Sv) : md_any L d s =
  (if 5 + 3 * (9 - (s 242 13)).toNat < d then md_all L (5 + 3 * (9 - (s 242 13)).toNat) s else none).bind (fun r1 =>
  if w32 r1.1 = 0 then
    ok L 0 r1.2.2
  else
    md_any_b1 L d r1.2.2) :=
  (hh_Ev_eq pb_md_any).trans rfl
set_option maxRecDepth 20000 in
theorem md_any_b1_eq (L : Nat) (d : Nat) (s : hh_Sv) : md_any_b1 L d s =
  (if 3 < d then md_takes L 28530 s else none).bind (fun r1 =>
  if w32 r1.1 = 0 then
    ok L 1 r1.2.2
  else
    (if 5 + 3 * (9 - (r1.2.2 242 13)).toNat < d then md_all L (5 + 3 * (9 - (r1.2.2 242 13)).toNat) r1.2.2 else none).bind (fun r2 =>
    if w32 r2.1 = 0 then
      ok L 0 r2.2.2
    else
      (if 1 < d then md_puts L 3 0 0 r2.2.2 else none).bind (fun r3 =>
      md_any_b1 L d r3.2.2))) :=
  (hh_Ev_eq pb_md_any).trans rfl
set_option maxRecDepth 20000 in
theorem md_ruleTold_eq (L : Nat) (a1 : Int) (a2 : Int) (s : hh_Sv) : md_ruleTold L a1 a2 s =
  if 0 ≤ 16 ∧ 16 < 17 then
  if 0 ≤ 384 + (s 248 16) ∧ 384 + (s 248 16) < 408 then
  if 0 ≤ 384 + (s 248 16) ∧ 384 + (s 248 16) < 408 then
  if w32 a2 = (-1) then
    md_ruleTold_b2 L (384 + (s 248 16)) (up (up s 252 ((384 + (s 248 16)).toNat) a1) 253 ((384 + (s 248 16)).toNat) 0)
  else
    (md_takesNumber L 0 a2 (up (up s 252 ((384 + (s 248 16)).toNat) a1) 253 ((384 + (s 248 16)).toNat) 0)).bind (fun r1 =>
    if w32 r1.1 = 0 then
      ok L 0 r1.2.2
    else
      if 0 ≤ 384 + (s 248 16) ∧ 384 + (s 248 16) < 408 then
      md_ruleTold_b2 L (384 + (s 248 16)) (up r1.2.2 253 ((384 + (s 248 16)).toNat) (r1.2.2 242 33))
      else none)
  else none
  else none
  else none :=
  ((hh_Ev_eq pb_md_ruleTold).trans (show _ = (
  if 0 ≤ 16 ∧ 16 < 17 then
  if 0 ≤ 384 + (s 248 16) ∧ 384 + (s 248 16) < 408 then
  if 0 ≤ 384 + (s 248 16) ∧ 384 + (s 248 16) < 408 then
  if w32 a2 = w32 (-1) then
    md_ruleTold_b2 L (384 + (s 248 16)) (up (up s 252 ((384 + (s 248 16)).toNat) a1) 253 ((384 + (s 248 16)).toNat) 0)
  else
    (md_takesNumber L 0 a2 (up (up s 252 ((384 + (s 248 16)).toNat) a1) 253 ((384 + (s 248 16)).toNat) 0)).bind (fun r1 =>
    if w32 r1.1 = 0 then
      ok L 0 r1.2.2
    else
      if 0 ≤ 384 + (s 248 16) ∧ 384 + (s 248 16) < 408 then
      md_ruleTold_b2 L (384 + (s 248 16)) (up r1.2.2 253 ((384 + (s 248 16)).toNat) (r1.2.2 242 33))
      else none)
  else none
  else none
  else none) from rfl)).trans (by simp only [k32_m1])
set_option maxRecDepth 20000 in
theorem md_ruleTold_b2_eq (L : Nat) (l3 : Int) (s : hh_Sv) : md_ruleTold_b2 L l3 s =
  if 0 ≤ l3 ∧ l3 < 408 then
  (md_takes L 26982 (up s 254 l3.toNat (s 242 14))).bind (fun r1 =>
  if w32 r1.1 = 0 then
    md_ruleTold_b3 L l3 r1.2.2
  else
    (if 6 + 3 * (9 - (r1.2.2 242 13)).toNat < 34 then md_any L (6 + 3 * (9 - (r1.2.2 242 13)).toNat) r1.2.2 else none).bind (fun r2 =>
    if w32 r2.1 = 0 then
      ok L 0 r2.2.2
    else
      md_ruleTold_b3 L l3 r2.2.2))
  else none :=
  (hh_Ev_eq pb_md_ruleTold).trans rfl
set_option maxRecDepth 20000 in
theorem md_ruleTold_b3_eq (L : Nat) (l3 : Int) (s : hh_Sv) : md_ruleTold_b3 L l3 s =
  if 0 ≤ l3 ∧ l3 < 408 then
  if 0 ≤ 16 ∧ 16 < 17 then
  if 0 ≤ 16 ∧ 16 < 17 then
  ok L 1 (up (up s 255 l3.toNat (s 242 14)) 248 16 ((s 248 16) + 1))
  else none
  else none
  else none :=
  (hh_Ev_eq pb_md_ruleTold).trans rfl
set_option maxRecDepth 20000 in
theorem md_lawRule_eq (L : Nat) (s : hh_Sv) : md_lawRule L s =
  (md_takes L 6842740 s).bind (fun r1 =>
  if w32 r1.1 = 0 then
    (md_takes L 1751216740 r1.2.2).bind (fun r2 =>
    if w32 r2.1 = 0 then
      (md_takes L 444350952036 r2.2.2).bind (fun r3 =>
      if w32 r3.1 = 0 then
        (md_takes L 495873782885 r3.2.2).bind (fun r4 =>
        if w32 r4.1 = 0 then
          (md_word L r4.2.2).bind (fun r5 =>
          if w32 (lCmp r5.1 114767740298610) = 0 then
            md_lawRule_b6 L 1 r5.2.2
          else
            md_lawRule_b6 L 0 r5.2.2)
        else
          (md_ruleTold L 3 9 r4.2.2).bind (fun r6 =>
          if r6.1 = 0 ∨ r6.1 = 1 then
          ok L r6.1 r6.2.2
          else none))
      else
        (md_ruleTold L 2 3 r3.2.2).bind (fun r7 =>
        if r7.1 = 0 ∨ r7.1 = 1 then
        ok L r7.1 r7.2.2
        else none))
    else
      (md_ruleTold L 1 3 r2.2.2).bind (fun r8 =>
      if r8.1 = 0 ∨ r8.1 = 1 then
      ok L r8.1 r8.2.2
      else none))
  else
    (md_ruleTold L 0 100 r1.2.2).bind (fun r9 =>
    if r9.1 = 0 ∨ r9.1 = 1 then
    ok L r9.1 r9.2.2
    else none)) :=
  (hh_Ev_eq pb_md_lawRule).trans rfl
set_option maxRecDepth 20000 in
theorem md_lawRule_b6_eq (L : Nat) (k0 : Int) (s : hh_Sv) : md_lawRule_b6 L k0 s =
  if w32 k0 = 0 then
    (md_word L s).bind (fun r1 =>
    if w32 (lCmp r1.1 29120983992657252) = 0 then
      md_lawRule_b7 L k0 r1.2.2
    else
      ok L 0 r1.2.2)
  else
    md_lawRule_b7 L k0 s :=
  (hh_Ev_eq pb_md_lawRule).trans rfl
set_option maxRecDepth 20000 in
theorem md_lawRule_b7_eq (L : Nat) (l1 : Int) (s : hh_Sv) : md_lawRule_b7 L l1 s =
  (md_takesNumber L 0 99 (up s 242 12 (s 242 32))).bind (fun r1 =>
  if w32 r1.1 = 0 then
    ok L 0 r1.2.2
  else
    if w32 l1 = 0 then
      if 0 ≤ 16 ∧ 16 < 17 then
      ok L 1 (up r1.2.2 251 16 (r1.2.2 242 33))
      else none
    else
      if 0 ≤ 16 ∧ 16 < 17 then
      ok L 1 (up r1.2.2 250 16 (r1.2.2 242 33))
      else none) :=
  (hh_Ev_eq pb_md_lawRule).trans rfl
set_option maxRecDepth 20000 in
theorem md_beliefRule_eq (L : Nat) (s : hh_Sv) : md_beliefRule L s =
  (md_takes L 6842740 s).bind (fun r1 =>
  if w32 r1.1 = 0 then
    (md_takes L 1835627379 r1.2.2).bind (fun r2 =>
    if w32 r2.1 = 0 then
      (md_takes L 1885434739 r2.2.2).bind (fun r3 =>
      if w32 r3.1 = 0 then
        md_beliefRule_b3 L r3.2.2
      else
        (md_ruleTold L 5 (-1) r3.2.2).bind (fun r4 =>
        if w32 r4.1 = 0 then
          md_beliefRule_b3 L r4.2.2
        else
          ok L 1 r4.2.2))
    else
      (md_ruleTold L 4 (-1) r2.2.2).bind (fun r5 =>
      if r5.1 = 0 ∨ r5.1 = 1 then
      ok L r5.1 r5.2.2
      else none))
  else
    (md_ruleTold L 0 (-1) r1.2.2).bind (fun r6 =>
    if r6.1 = 0 ∨ r6.1 = 1 then
    ok L r6.1 r6.2.2
    else none)) :=
  (hh_Ev_eq pb_md_beliefRule).trans rfl
set_option maxRecDepth 20000 in
theorem md_beliefRule_b3_eq (L : Nat) (s : hh_Sv) : md_beliefRule_b3 L s =
  ok L 0 s :=
  (hh_Ev_eq pb_md_beliefRule).trans rfl
set_option maxRecDepth 20000 in
theorem md_reads_eq (L : Nat) (a1 : Int) (a2 : Int) (s : hh_Sv) : md_reads L a1 a2 s =
  (md_lays L a1 s).bind (fun r1 =>
  if 0 ≤ 16 ∧ 16 < 17 then
  if 0 ≤ 16 ∧ 16 < 17 then
  if 0 ≤ 16 ∧ 16 < 17 then
  md_reads_b1 L a2 1 (up (up (up (up (up r1.2.2 242 14 4800) 248 16 0) 250 16 0) 251 16 0) 242 15 0)
  else none
  else none
  else none) :=
  (hh_Ev_eq pb_md_reads).trans rfl
set_option maxRecDepth 20000 in
theorem md_reads_b1_eq (L : Nat) (l2 : Int) (l3 : Int) (s : hh_Sv) : md_reads_b1 L l2 l3 s =
  if w32 l3 = 0 then
    md_reads_b7 L l3 s
  else
    if w32 (s 242 12) < w32 (s 242 11) then
      if w32 (s 242 15) < 24 then
        if w32 l2 = 0 then
          (md_beliefRule L (up s 242 13 0)).bind (fun r1 =>
          if w32 r1.1 = 0 then
            md_reads_b4 L l2 r1.2.2
          else
            md_reads_b3 L l2 r1.2.2)
        else
          (md_lawRule L (up s 242 13 0)).bind (fun r2 =>
          if w32 r2.1 = 0 then
            md_reads_b4 L l2 r2.2.2
          else
            md_reads_b3 L l2 r2.2.2)
      else
        md_reads_b4 L l2 (up s 242 13 0)
    else
      md_reads_b7 L l3 s :=
  ((hh_Ev_eq pb_md_reads).trans (show _ = (
  if w32 l3 = 0 then
    md_reads_b7 L l3 s
  else
    if w32 (s 242 12) < w32 (s 242 11) then
      if w32 (s 242 15) < w32 24 then
        if w32 l2 = 0 then
          (md_beliefRule L (up s 242 13 0)).bind (fun r1 =>
          if w32 r1.1 = 0 then
            md_reads_b4 L l2 r1.2.2
          else
            md_reads_b3 L l2 r1.2.2)
        else
          (md_lawRule L (up s 242 13 0)).bind (fun r2 =>
          if w32 r2.1 = 0 then
            md_reads_b4 L l2 r2.2.2
          else
            md_reads_b3 L l2 r2.2.2)
      else
        md_reads_b4 L l2 (up s 242 13 0)
    else
      md_reads_b7 L l3 s) from rfl)).trans (by simp only [k32_24])
set_option maxRecDepth 20000 in
theorem md_reads_b3_eq (L : Nat) (l2 : Int) (s : hh_Sv) : md_reads_b3 L l2 s =
  (md_takesSign L 59 s).bind (fun r1 =>
  if w32 r1.1 = 0 then
    md_reads_b4 L l2 r1.2.2
  else
    md_reads_b5 L l2 1 r1.2.2) :=
  (hh_Ev_eq pb_md_reads).trans rfl
set_option maxRecDepth 20000 in
theorem md_reads_b4_eq (L : Nat) (l2 : Int) (s : hh_Sv) : md_reads_b4 L l2 s =
  md_reads_b5 L l2 0 s :=
  (hh_Ev_eq pb_md_reads).trans rfl
set_option maxRecDepth 20000 in
theorem md_reads_b5_eq (L : Nat) (l2 : Int) (k0 : Int) (s : hh_Sv) : md_reads_b5 L l2 k0 s =
  if w32 k0 = 0 then
    md_reads_b1 L l2 k0 s
  else
    (md_blanks L (up s 242 15 ((s 242 15) + 1))).bind (fun r1 =>
    md_reads_b1 L l2 k0 r1.2.2) :=
  (hh_Ev_eq pb_md_reads).trans rfl
set_option maxRecDepth 20000 in
theorem md_reads_b7_eq (L : Nat) (l3 : Int) (s : hh_Sv) : md_reads_b7 L l3 s =
  if w32 l3 = 0 then
    (md_blanks L s).bind (fun r1 =>
    md_reads_b8 L l3 r1.2.2)
  else
    md_reads_b8 L l3 s :=
  (hh_Ev_eq pb_md_reads).trans rfl
set_option maxRecDepth 20000 in
theorem md_reads_b8_eq (L : Nat) (l3 : Int) (s : hh_Sv) : md_reads_b8 L l3 s =
  if w32 l3 = 0 then
    if l3 = 0 ∨ l3 = 1 then
    ok L l3 (up s 242 17 (s 242 12))
    else none
  else
    if l3 = 0 ∨ l3 = 1 then
    ok L l3 (up s 242 17 (-1))
    else none :=
  (hh_Ev_eq pb_md_reads).trans rfl
set_option maxRecDepth 20000 in
theorem md_keeps_eq (L : Nat) (a1 : Int) (s : hh_Sv) : md_keeps L a1 s =
  if 0 ≤ 16 ∧ 16 < 17 then
  if 0 ≤ a1 ∧ a1 < 17 then
  if 0 ≤ a1 ∧ a1 < 17 then
  if 0 ≤ 16 ∧ 16 < 17 then
  if 0 ≤ a1 ∧ a1 < 17 then
  if 0 ≤ 16 ∧ 16 < 17 then
  if 0 ≤ a1 ∧ a1 < 17 then
  md_keeps_b1 L a1 (300 * (a1 - 16)) 0 (up (up (up (up s 248 a1.toNat (s 248 16)) 249 a1.toNat (s 242 15)) 250 a1.toNat (s 250 16)) 251 a1.toNat (s 251 16))
  else none
  else none
  else none
  else none
  else none
  else none
  else none :=
  (hh_Ev_eq pb_md_keeps).trans rfl
set_option maxRecDepth 20000 in
theorem md_keeps_b1_eq (L : Nat) (l1 : Int) (l2 : Int) (l3 : Int) (s : hh_Sv) : md_keeps_b1 L l1 l2 l3 s =
  if 0 ≤ 16 ∧ 16 < 17 then
  if w32 l3 < w32 (s 248 16) then
    if 0 ≤ 384 + l3 ∧ 384 + l3 < 408 then
    if 0 ≤ (24 * l1) + l3 ∧ (24 * l1) + l3 < 408 then
    if 0 ≤ 384 + l3 ∧ 384 + l3 < 408 then
    if 0 ≤ (24 * l1) + l3 ∧ (24 * l1) + l3 < 408 then
    if 0 ≤ 384 + l3 ∧ 384 + l3 < 408 then
    if 0 ≤ (24 * l1) + l3 ∧ (24 * l1) + l3 < 408 then
    if 0 ≤ 384 + l3 ∧ 384 + l3 < 408 then
    if 0 ≤ (24 * l1) + l3 ∧ (24 * l1) + l3 < 408 then
    md_keeps_b1 L l1 l2 (l3 + 1) (up (up (up (up s 252 (((24 * l1) + l3).toNat) (s 252 ((384 + l3).toNat))) 253 (((24 * l1) + l3).toNat) (s 253 ((384 + l3).toNat))) 254 (((24 * l1) + l3).toNat) ((s 254 ((384 + l3).toNat)) + l2)) 255 (((24 * l1) + l3).toNat) ((s 255 ((384 + l3).toNat)) + l2))
    else none
    else none
    else none
    else none
    else none
    else none
    else none
    else none
  else
    md_keeps_b3 L l2 4800 s
  else none :=
  (hh_Ev_eq pb_md_keeps).trans rfl
set_option maxRecDepth 20000 in
theorem md_keeps_b3_eq (L : Nat) (l2 : Int) (l3 : Int) (s : hh_Sv) : md_keeps_b3 L l2 l3 s =
  if w32 l3 < w32 (s 242 14) then
    if 0 ≤ l3 ∧ l3 < 5100 then
    if 0 ≤ l3 + l2 ∧ l3 + l2 < 5100 then
    if 0 ≤ l3 ∧ l3 < 5100 then
    if 0 ≤ l3 + l2 ∧ l3 + l2 < 5100 then
    if 0 ≤ l3 ∧ l3 < 5100 then
    if 0 ≤ l3 + l2 ∧ l3 + l2 < 5100 then
    md_keeps_b3 L l2 (l3 + 1) (up (up (up s 256 ((l3 + l2).toNat) (s 256 l3.toNat)) 257 ((l3 + l2).toNat) (s 257 l3.toNat)) 258 ((l3 + l2).toNat) (s 258 l3.toNat))
    else none
    else none
    else none
    else none
    else none
    else none
  else
    ok L 0 s :=
  (hh_Ev_eq pb_md_keeps).trans rfl
set_option maxRecDepth 20000 in
theorem md_law_eq (L : Nat) (a1 : Int) (a2 : Int) (s : hh_Sv) : md_law L a1 a2 s =
  (md_isThrower L a1 s).bind (fun r1 =>
  if w32 r1.1 = 0 then
    ok L (-2) r1.2.2
  else
    (md_isIn L a2 0 (r1.2.2 242 10) r1.2.2).bind (fun r2 =>
    if w32 r2.1 = 0 then
      ok L (-2) r2.2.2
    else
      (md_reads L a2 1 r2.2.2).bind (fun r3 =>
      if w32 r3.1 = 0 then
        ok L (-1) r3.2.2
      else
        (md_keeps L a1 r3.2.2).bind (fun r4 =>
        ok L (r4.2.2 242 15) r4.2.2)))) :=
  (hh_Ev_eq pb_md_law).trans rfl
set_option maxRecDepth 20000 in
theorem md_isWatcher_eq (L : Nat) (a0 : Int) (s : hh_Sv) : md_isWatcher L a0 s =
  (md_isIn L a0 0 3 s).bind (fun r1 =>
  if r1.1 = 0 ∨ r1.1 = 1 then
  ok L r1.1 r1.2.2
  else none) :=
  (hh_Ev_eq pb_md_isWatcher).trans rfl
set_option maxRecDepth 20000 in
theorem md_belief_eq (L : Nat) (a1 : Int) (a2 : Int) (s : hh_Sv) : md_belief L a1 a2 s =
  (md_isWatcher L a1 s).bind (fun r1 =>
  if w32 r1.1 = 0 then
    ok L (-2) r1.2.2
  else
    (md_isIn L a2 0 (r1.2.2 242 10) r1.2.2).bind (fun r2 =>
    if w32 r2.1 = 0 then
      ok L (-2) r2.2.2
    else
      (md_reads L a2 0 r2.2.2).bind (fun r3 =>
      if w32 r3.1 = 0 then
        ok L (-1) r3.2.2
      else
        (md_keeps L (12 + a1) r3.2.2).bind (fun r4 =>
        ok L (r4.2.2 242 15) r4.2.2)))) :=
  (hh_Ev_eq pb_md_belief).trans rfl
set_option maxRecDepth 20000 in
theorem md_fault_eq (L : Nat) (s : hh_Sv) : md_fault L s =
  ok L (s 242 17) s :=
  (hh_Ev_eq pb_md_fault).trans rfl
set_option maxRecDepth 20000 in
theorem md_isTrue_eq (L : Nat) (a1 : Int) (s : hh_Sv) : md_isTrue L a1 s =
  if 0 ≤ a1 ∧ a1 < 408 then
  md_isTrue_b1 L a1 0 (s 254 a1.toNat) s
  else none :=
  (hh_Ev_eq pb_md_isTrue).trans rfl
set_option maxRecDepth 20000 in
theorem md_isTrue_b1_eq (L : Nat) (l1 : Int) (l2 : Int) (l3 : Int) (s : hh_Sv) : md_isTrue_b1 L l1 l2 l3 s =
  if 0 ≤ l1 ∧ l1 < 408 then
  if w32 l3 < w32 (s 255 l1.toNat) then
    if 0 ≤ l3 ∧ l3 < 5100 then
    if 2 < w32 (s 256 l3.toNat) then
      if 0 ≤ l3 ∧ l3 < 5100 then
      if w32 (s 256 l3.toNat) = 5 then
        if 0 ≤ l2 - 1 ∧ l2 - 1 < 64 then
        if w32 (s 259 ((l2 - 1).toNat)) = 0 then
          if 0 ≤ l2 - 1 ∧ l2 - 1 < 64 then
          md_isTrue_b1 L l1 l2 (l3 + 1) (up s 259 ((l2 - 1).toNat) 1)
          else none
        else
          if 0 ≤ l2 - 1 ∧ l2 - 1 < 64 then
          md_isTrue_b1 L l1 l2 (l3 + 1) (up s 259 ((l2 - 1).toNat) 0)
          else none
        else none
      else
        if 0 ≤ l3 ∧ l3 < 5100 then
        if w32 (s 256 l3.toNat) = 3 then
          if 0 ≤ (l2 + (-1)) - 1 ∧ (l2 + (-1)) - 1 < 64 then
          if w32 (s 259 (((l2 + (-1)) - 1).toNat)) = 0 then
            if 0 ≤ l2 + (-1) ∧ l2 + (-1) < 64 then
            if w32 (s 259 ((l2 + (-1)).toNat)) = 0 then
              md_isTrue_b16 L l1 (l2 + (-1)) l3 ((l2 + (-1)) - 1) 0 s
            else
              md_isTrue_b16 L l1 (l2 + (-1)) l3 ((l2 + (-1)) - 1) 1 s
            else none
          else
            md_isTrue_b16 L l1 (l2 + (-1)) l3 ((l2 + (-1)) - 1) 1 s
          else none
        else
          if 0 ≤ (l2 + (-1)) - 1 ∧ (l2 + (-1)) - 1 < 64 then
          if w32 (s 259 (((l2 + (-1)) - 1).toNat)) = 0 then
            md_isTrue_b15 L l1 (l2 + (-1)) l3 ((l2 + (-1)) - 1) s
          else
            if 0 ≤ l2 + (-1) ∧ l2 + (-1) < 64 then
            if w32 (s 259 ((l2 + (-1)).toNat)) = 0 then
              md_isTrue_b15 L l1 (l2 + (-1)) l3 ((l2 + (-1)) - 1) s
            else
              md_isTrue_b16 L l1 (l2 + (-1)) l3 ((l2 + (-1)) - 1) 1 s
            else none
          else none
        else none
      else none
    else
      if 0 ≤ l3 ∧ l3 < 5100 then
      if 0 ≤ s 257 l3.toNat ∧ s 257 l3.toNat < 7 then
      if 0 ≤ l3 ∧ l3 < 5100 then
      if w32 (s 256 l3.toNat) = 0 then
        if 0 ≤ l3 ∧ l3 < 5100 then
        if w32 (s 262 ((s 257 l3.toNat).toNat)) < w32 (s 258 l3.toNat) then
          md_isTrue_b7 L l1 l2 l3 l2 1 s
        else
          md_isTrue_b7 L l1 l2 l3 l2 0 s
        else none
      else
        if 0 ≤ l3 ∧ l3 < 5100 then
        if w32 (s 256 l3.toNat) = 1 then
          if 0 ≤ l3 ∧ l3 < 5100 then
          if w32 (s 258 l3.toNat) < w32 (s 262 ((s 257 l3.toNat).toNat)) then
            md_isTrue_b7 L l1 l2 l3 l2 1 s
          else
            md_isTrue_b7 L l1 l2 l3 l2 0 s
          else none
        else
          if 0 ≤ l3 ∧ l3 < 5100 then
          if w32 (s 262 ((s 257 l3.toNat).toNat)) = w32 (s 258 l3.toNat) then
            md_isTrue_b7 L l1 l2 l3 l2 1 s
          else
            md_isTrue_b7 L l1 l2 l3 l2 0 s
          else none
        else none
      else none
      else none
      else none
    else none
  else
    if 0 ≤ l1 ∧ l1 < 408 then
    if 0 ≤ l1 ∧ l1 < 408 then
    if w32 (s 254 l1.toNat) = w32 (s 255 l1.toNat) then
      ok L 1 s
    else
      if 0 ≤ 0 ∧ 0 < 64 then
      if w32 (s 259 0) = 0 then
        ok L 0 s
      else
        ok L 1 s
      else none
    else none
    else none
  else none :=
  ((hh_Ev_eq pb_md_isTrue).trans (show _ = (
  if 0 ≤ l1 ∧ l1 < 408 then
  if w32 l3 < w32 (s 255 l1.toNat) then
    if 0 ≤ l3 ∧ l3 < 5100 then
    if w32 2 < w32 (s 256 l3.toNat) then
      if 0 ≤ l3 ∧ l3 < 5100 then
      if w32 (s 256 l3.toNat) = w32 5 then
        if 0 ≤ l2 - 1 ∧ l2 - 1 < 64 then
        if w32 (s 259 ((l2 - 1).toNat)) = 0 then
          if 0 ≤ l2 - 1 ∧ l2 - 1 < 64 then
          md_isTrue_b1 L l1 l2 (l3 + 1) (up s 259 ((l2 - 1).toNat) 1)
          else none
        else
          if 0 ≤ l2 - 1 ∧ l2 - 1 < 64 then
          md_isTrue_b1 L l1 l2 (l3 + 1) (up s 259 ((l2 - 1).toNat) 0)
          else none
        else none
      else
        if 0 ≤ l3 ∧ l3 < 5100 then
        if w32 (s 256 l3.toNat) = w32 3 then
          if 0 ≤ (l2 + (-1)) - 1 ∧ (l2 + (-1)) - 1 < 64 then
          if w32 (s 259 (((l2 + (-1)) - 1).toNat)) = 0 then
            if 0 ≤ l2 + (-1) ∧ l2 + (-1) < 64 then
            if w32 (s 259 ((l2 + (-1)).toNat)) = 0 then
              md_isTrue_b16 L l1 (l2 + (-1)) l3 ((l2 + (-1)) - 1) 0 s
            else
              md_isTrue_b16 L l1 (l2 + (-1)) l3 ((l2 + (-1)) - 1) 1 s
            else none
          else
            md_isTrue_b16 L l1 (l2 + (-1)) l3 ((l2 + (-1)) - 1) 1 s
          else none
        else
          if 0 ≤ (l2 + (-1)) - 1 ∧ (l2 + (-1)) - 1 < 64 then
          if w32 (s 259 (((l2 + (-1)) - 1).toNat)) = 0 then
            md_isTrue_b15 L l1 (l2 + (-1)) l3 ((l2 + (-1)) - 1) s
          else
            if 0 ≤ l2 + (-1) ∧ l2 + (-1) < 64 then
            if w32 (s 259 ((l2 + (-1)).toNat)) = 0 then
              md_isTrue_b15 L l1 (l2 + (-1)) l3 ((l2 + (-1)) - 1) s
            else
              md_isTrue_b16 L l1 (l2 + (-1)) l3 ((l2 + (-1)) - 1) 1 s
            else none
          else none
        else none
      else none
    else
      if 0 ≤ l3 ∧ l3 < 5100 then
      if 0 ≤ s 257 l3.toNat ∧ s 257 l3.toNat < 7 then
      if 0 ≤ l3 ∧ l3 < 5100 then
      if w32 (s 256 l3.toNat) = 0 then
        if 0 ≤ l3 ∧ l3 < 5100 then
        if w32 (s 262 ((s 257 l3.toNat).toNat)) < w32 (s 258 l3.toNat) then
          md_isTrue_b7 L l1 l2 l3 l2 1 s
        else
          md_isTrue_b7 L l1 l2 l3 l2 0 s
        else none
      else
        if 0 ≤ l3 ∧ l3 < 5100 then
        if w32 (s 256 l3.toNat) = w32 1 then
          if 0 ≤ l3 ∧ l3 < 5100 then
          if w32 (s 258 l3.toNat) < w32 (s 262 ((s 257 l3.toNat).toNat)) then
            md_isTrue_b7 L l1 l2 l3 l2 1 s
          else
            md_isTrue_b7 L l1 l2 l3 l2 0 s
          else none
        else
          if 0 ≤ l3 ∧ l3 < 5100 then
          if w32 (s 262 ((s 257 l3.toNat).toNat)) = w32 (s 258 l3.toNat) then
            md_isTrue_b7 L l1 l2 l3 l2 1 s
          else
            md_isTrue_b7 L l1 l2 l3 l2 0 s
          else none
        else none
      else none
      else none
      else none
    else none
  else
    if 0 ≤ l1 ∧ l1 < 408 then
    if 0 ≤ l1 ∧ l1 < 408 then
    if w32 (s 254 l1.toNat) = w32 (s 255 l1.toNat) then
      ok L 1 s
    else
      if 0 ≤ 0 ∧ 0 < 64 then
      if w32 (s 259 0) = 0 then
        ok L 0 s
      else
        ok L 1 s
      else none
    else none
    else none
  else none) from rfl)).trans (by simp only [k32_1, k32_2, k32_3, k32_5])
set_option maxRecDepth 20000 in
theorem md_isTrue_b7_eq (L : Nat) (l1 : Int) (l2 : Int) (l3 : Int) (k1 : Int) (k2 : Int) (s : hh_Sv) : md_isTrue_b7 L l1 l2 l3 k1 k2 s =
  if 0 ≤ k1 ∧ k1 < 64 then
  if k2 = 0 ∨ k2 = 1 then
  md_isTrue_b1 L l1 (l2 + 1) (l3 + 1) (up s 259 k1.toNat k2)
  else none
  else none :=
  (hh_Ev_eq pb_md_isTrue).trans rfl
set_option maxRecDepth 20000 in
theorem md_isTrue_b15_eq (L : Nat) (l1 : Int) (l2 : Int) (l3 : Int) (k1 : Int) (s : hh_Sv) : md_isTrue_b15 L l1 l2 l3 k1 s =
  md_isTrue_b16 L l1 l2 l3 k1 0 s :=
  (hh_Ev_eq pb_md_isTrue).trans rfl
set_option maxRecDepth 20000 in
theorem md_isTrue_b16_eq (L : Nat) (l1 : Int) (l2 : Int) (l3 : Int) (k1 : Int) (k2 : Int) (s : hh_Sv) : md_isTrue_b16 L l1 l2 l3 k1 k2 s =
  if 0 ≤ k1 ∧ k1 < 64 then
  if k2 = 0 ∨ k2 = 1 then
  md_isTrue_b1 L l1 l2 (l3 + 1) (up s 259 k1.toNat k2)
  else none
  else none :=
  (hh_Ev_eq pb_md_isTrue).trans rfl
set_option maxRecDepth 20000 in
theorem md_first_eq (L : Nat) (a1 : Int) (a2 : Int) (a3 : Int) (s : hh_Sv) : md_first L a1 a2 a3 s =
  md_first_b1 L a1 a2 a3 (24 * a1) s :=
  (hh_Ev_eq pb_md_first).trans rfl
set_option maxRecDepth 20000 in
theorem md_first_b1_eq (L : Nat) (l1 : Int) (l2 : Int) (l3 : Int) (l4 : Int) (s : hh_Sv) : md_first_b1 L l1 l2 l3 l4 s =
  if 0 ≤ l1 ∧ l1 < 17 then
  if w32 l4 < w32 ((24 * l1) + (s 248 l1.toNat)) then
    if 0 ≤ l4 ∧ l4 < 408 then
    if w32 (s 252 l4.toNat) = w32 l2 then
      (md_isTrue L l4 s).bind (fun r1 =>
      if w32 r1.1 = 0 then
        md_first_b1 L l1 l2 l3 (l4 + 1) r1.2.2
      else
        if 0 ≤ l4 ∧ l4 < 408 then
        ok L (r1.2.2 253 l4.toNat) r1.2.2
        else none)
    else
      md_first_b1 L l1 l2 l3 (l4 + 1) s
    else none
  else
    ok L l3 s
  else none :=
  (hh_Ev_eq pb_md_first).trans rfl
set_option maxRecDepth 20000 in
theorem md_asks_eq (L : Nat) (a1 : Int) (a2 : Int) (s : hh_Sv) : md_asks L a1 a2 s =
  if 0 ≤ 4 ∧ 4 < 7 then
  if 0 ≤ 5 ∧ 5 < 7 then
  ok L 0 (up (up s 262 4 a1) 262 5 a2)
  else none
  else none :=
  (hh_Ev_eq pb_md_asks).trans rfl
set_option maxRecDepth 20000 in
theorem md_hardNow_eq (L : Nat) (a1 : Int) (s : hh_Sv) : md_hardNow L a1 s =
  (md_asks L 0 0 s).bind (fun r1 =>
  (md_first L a1 1 0 r1.2.2).bind (fun r2 =>
  ok L r2.1 r2.2.2)) :=
  (hh_Ev_eq pb_md_hardNow).trans rfl
set_option maxRecDepth 20000 in
theorem md_guardNow_eq (L : Nat) (a1 : Int) (a2 : Int) (s : hh_Sv) : md_guardNow L a1 a2 s =
  (md_asks L a2 0 s).bind (fun r1 =>
  (md_first L a1 2 0 r1.2.2).bind (fun r2 =>
  ok L r2.1 r2.2.2)) :=
  (hh_Ev_eq pb_md_guardNow).trans rfl
set_option maxRecDepth 20000 in
theorem md_chanceNow_eq (L : Nat) (a1 : Int) (a2 : Int) (a3 : Int) (s : hh_Sv) : md_chanceNow L a1 a2 a3 s =
  (md_asks L a2 a3 s).bind (fun r1 =>
  (md_first L a1 0 50 r1.2.2).bind (fun r2 =>
  if 0 ≤ a1 ∧ a1 < 17 then
  if 0 ≤ a1 ∧ a1 < 17 then
  (jma_min L 100 ((r2.1 - ((r2.2.2 250 a1.toNat) * a2)) - ((r2.2.2 251 a1.toNat) * a3)) r2.2.2).bind (fun r3 =>
  (jma_max L 0 r3.1 r3.2.2).bind (fun r4 =>
  ok L r4.1 r4.2.2))
  else none
  else none)) :=
  (hh_Ev_eq pb_md_chanceNow).trans rfl
set_option maxRecDepth 20000 in
theorem md_begins_eq (L : Nat) (s : hh_Sv) : md_begins L s =
  md_begins_b1 L 0 s :=
  (hh_Ev_eq pb_md_begins).trans rfl
set_option maxRecDepth 20000 in
theorem md_begins_b1_eq (L : Nat) (l1 : Int) (s : hh_Sv) : md_begins_b1 L l1 s =
  if w32 l1 < 7 then
    if 0 ≤ l1 ∧ l1 < 7 then
    md_begins_b1 L (l1 + 1) (up s 262 l1.toNat 0)
    else none
  else
    ok L 0 s :=
  ((hh_Ev_eq pb_md_begins).trans (show _ = (
  if w32 l1 < w32 7 then
    if 0 ≤ l1 ∧ l1 < 7 then
    md_begins_b1 L (l1 + 1) (up s 262 l1.toNat 0)
    else none
  else
    ok L 0 s) from rfl)).trans (by simp only [k32_7])
set_option maxRecDepth 20000 in
theorem md_goesOn_eq (L : Nat) (a1 : Int) (a2 : Int) (a3 : Int) (a4 : Int) (s : hh_Sv) : md_goesOn L a1 a2 a3 a4 s =
  if w32 a2 = 0 then
    md_goesOn_b2 L a1 a2 a3 a4 0 0 s
  else
    if 0 ≤ 0 ∧ 0 < 7 then
    md_goesOn_b2 L a1 a2 a3 a4 0 ((s 262 0) + 1) s
    else none :=
  (hh_Ev_eq pb_md_goesOn).trans rfl
set_option maxRecDepth 20000 in
theorem md_goesOn_b2_eq (L : Nat) (l1 : Int) (l2 : Int) (l3 : Int) (l4 : Int) (k1 : Int) (k2 : Int) (s : hh_Sv) : md_goesOn_b2 L l1 l2 l3 l4 k1 k2 s =
  if 0 ≤ k1 ∧ k1 < 7 then
  if w32 l2 = 0 then
    if 0 ≤ 1 ∧ 1 < 7 then
    md_goesOn_b4 L l1 l2 l3 l4 1 (((up s 262 k1.toNat k2) 262 1) + 1) (up s 262 k1.toNat k2)
    else none
  else
    md_goesOn_b4 L l1 l2 l3 l4 1 0 (up s 262 k1.toNat k2)
  else none :=
  (hh_Ev_eq pb_md_goesOn).trans rfl
set_option maxRecDepth 20000 in
theorem md_goesOn_b4_eq (L : Nat) (l1 : Int) (l2 : Int) (l3 : Int) (l4 : Int) (k1 : Int) (k2 : Int) (s : hh_Sv) : md_goesOn_b4 L l1 l2 l3 l4 k1 k2 s =
  if 0 ≤ k1 ∧ k1 < 7 then
  if 0 ≤ 3 ∧ 3 < 7 then
  if 0 ≤ 3 ∧ 3 < 7 then
  if 0 ≤ 6 ∧ 6 < 7 then
  (md_one L l2 (up (up s 262 k1.toNat k2) 262 3 (((up s 262 k1.toNat k2) 262 3) + 1))).bind (fun r1 =>
  if 0 ≤ 6 ∧ 6 < 7 then
  (md_asks L l3 l4 (up r1.2.2 262 6 (((up s 262 k1.toNat k2) 262 6) + r1.1))).bind (fun r2 =>
  if 0 ≤ 2 ∧ 2 < 7 then
  (md_first L l1 3 (r2.2.2 262 2) r2.2.2).bind (fun r3 =>
  if 0 ≤ 2 ∧ 2 < 7 then
  ok L 0 (up r3.2.2 262 2 r3.1)
  else none)
  else none)
  else none)
  else none
  else none
  else none
  else none :=
  (hh_Ev_eq pb_md_goesOn).trans rfl
set_option maxRecDepth 20000 in
theorem md_isHit_eq (L : Nat) (a1 : Int) (a2 : Int) (s : hh_Sv) : md_isHit L a1 a2 s =
  if 0 ≤ a1 ∧ a1 < 60 then
  (md_has L (s 245 a1.toNat) a2 s).bind (fun r1 =>
  if r1.1 = 0 ∨ r1.1 = 1 then
  ok L r1.1 r1.2.2
  else none)
  else none :=
  (hh_Ev_eq pb_md_isHit).trans rfl
set_option maxRecDepth 20000 in
theorem md_hardAt_eq (L : Nat) (a1 : Int) (a2 : Int) (s : hh_Sv) : md_hardAt L a1 a2 s =
  if 0 ≤ (24 * a1) + a2 ∧ (24 * a1) + a2 < 1440 then
  ok L (s 246 (((24 * a1) + a2).toNat)) s
  else none :=
  (hh_Ev_eq pb_md_hardAt).trans rfl
set_option maxRecDepth 20000 in
theorem md_guardAt_eq (L : Nat) (a1 : Int) (a2 : Int) (s : hh_Sv) : md_guardAt L a1 a2 s =
  if 0 ≤ (24 * a1) + a2 ∧ (24 * a1) + a2 < 1440 then
  ok L (s 247 (((24 * a1) + a2).toNat)) s
  else none :=
  (hh_Ev_eq pb_md_guardAt).trans rfl
set_option maxRecDepth 20000 in
theorem md_ahead_eq (L : Nat) (a1 : Int) (a2 : Int) (s : hh_Sv) : md_ahead L a1 a2 s =
  (md_begins L s).bind (fun r1 =>
  md_ahead_b1 L a1 a2 0 r1.2.2) :=
  (hh_Ev_eq pb_md_ahead).trans rfl
set_option maxRecDepth 20000 in
theorem md_ahead_b1_eq (L : Nat) (l1 : Int) (l2 : Int) (l3 : Int) (s : hh_Sv) : md_ahead_b1 L l1 l2 l3 s =
  if w32 l3 < w32 l2 then
    if 0 ≤ l1 ∧ l1 < 60 then
    (md_isHit L l1 l3 s).bind (fun r1 =>
    (md_hardAt L l1 l3 r1.2.2).bind (fun r2 =>
    (md_guardAt L l1 l3 r2.2.2).bind (fun r3 =>
    (md_goesOn L (s 243 l1.toNat) r1.1 r2.1 r3.1 r3.2.2).bind (fun r4 =>
    md_ahead_b1 L l1 l2 (l3 + 1) r4.2.2))))
    else none
  else
    ok L 0 s :=
  (hh_Ev_eq pb_md_ahead).trans rfl
set_option maxRecDepth 20000 in
theorem md_draws_eq (L : Nat) (s : hh_Sv) : md_draws L s =
  ok L (tMod (w64 (lUshr (((s 242 4) * 6364136223846793005) + 1442695040888963407) 33)) 100) (up s 242 4 (((s 242 4) * 6364136223846793005) + 1442695040888963407)) :=
  ((hh_Ev_eq pb_md_draws).trans (show _ = (
  if w64 100 = 0 then none else
  ok L (tMod (w64 (lUshr (((s 242 4) * 6364136223846793005) + 1442695040888963407) 33)) (w64 100)) (up s 242 4 (((s 242 4) * 6364136223846793005) + 1442695040888963407))) from rfl)).trans (by simp only [k64_100, kz_100, if_false, if_true])
set_option maxRecDepth 20000 in
theorem md_deal_eq (L : Nat) (a1 : Int) (a2 : Int) (s : hh_Sv) : md_deal L a1 a2 s =
  (md_isRow L a1 s).bind (fun r1 =>
  if w32 r1.1 = 0 then
    ok L (-1) r1.2.2
  else
    if 0 ≤ a1 ∧ a1 < 60 then
    (md_isIn L a2 1 (24 - (r1.2.2 244 a1.toNat)) r1.2.2).bind (fun r2 =>
    if w32 r2.1 = 0 then
      ok L (-1) r2.2.2
    else
      if 0 ≤ a1 ∧ a1 < 60 then
      if 0 ≤ a1 ∧ a1 < 60 then
      (md_ahead L a1 (r2.2.2 244 a1.toNat) r2.2.2).bind (fun r3 =>
      md_deal_b3 L a1 a2 (r2.2.2 243 a1.toNat) 0 0 r3.2.2)
      else none
      else none)
    else none) :=
  (hh_Ev_eq pb_md_deal).trans rfl
set_option maxRecDepth 20000 in
theorem md_deal_b3_eq (L : Nat) (l1 : Int) (l2 : Int) (l3 : Int) (l4 : Int) (l5 : Int) (s : hh_Sv) : md_deal_b3 L l1 l2 l3 l4 l5 s =
  if w32 l5 < w32 l2 then
    (md_hardNow L l3 s).bind (fun r1 =>
    (md_guardNow L l3 r1.1 r1.2.2).bind (fun r2 =>
    (md_draws L r2.2.2).bind (fun r3 =>
    (md_chanceNow L l3 r1.1 r2.1 r3.2.2).bind (fun r4 =>
    if w32 r3.1 < w32 r4.1 then
      md_deal_b5 L l1 l2 l3 l4 l5 r1.1 r2.1 1 r4.2.2
    else
      md_deal_b5 L l1 l2 l3 l4 l5 r1.1 r2.1 0 r4.2.2))))
  else
    ok L l4 s :=
  (hh_Ev_eq pb_md_deal).trans rfl
set_option maxRecDepth 20000 in
theorem md_deal_b5_eq (L : Nat) (l1 : Int) (l2 : Int) (l3 : Int) (l4 : Int) (l5 : Int) (l6 : Int) (l7 : Int) (k0 : Int) (s : hh_Sv) : md_deal_b5 L l1 l2 l3 l4 l5 l6 l7 k0 s =
  (md_adds L l1 k0 l6 l7 s).bind (fun r1 =>
  (md_goesOn L l3 k0 l6 l7 r1.2.2).bind (fun r2 =>
  (md_one L k0 r2.2.2).bind (fun r3 =>
  md_deal_b3 L l1 l2 l3 (l4 + r3.1) (l5 + 1) r3.2.2))) :=
  (hh_Ev_eq pb_md_deal).trans rfl
set_option maxRecDepth 20000 in
theorem md_told_eq (L : Nat) (a1 : Int) (a2 : Int) (a3 : Int) (s : hh_Sv) : md_told L a1 a2 a3 s =
  (md_isRow L a1 s).bind (fun r1 =>
  if w32 r1.1 = 0 then
    ok L (-1) r1.2.2
  else
    if 0 ≤ a1 ∧ a1 < 60 then
    (md_isIn L a2 (-1) ((r1.2.2 244 a1.toNat) - 1) r1.2.2).bind (fun r2 =>
    if w32 r2.1 = 0 then
      ok L (-1) r2.2.2
    else
      if w32 a2 = (-1) then
        if w32 a3 = 0 then
          if 0 ≤ a1 ∧ a1 < 60 then
          ok L (r2.2.2 243 a1.toNat) r2.2.2
          else none
        else
          if w32 a3 = 1 then
            if 0 ≤ a1 ∧ a1 < 60 then
            ok L (r2.2.2 244 a1.toNat) r2.2.2
            else none
          else
            if w32 a3 = 2 then
              if 0 ≤ a1 ∧ a1 < 60 then
              (md_bits L (r2.2.2 245 a1.toNat) r2.2.2).bind (fun r3 =>
              ok L r3.1 r3.2.2)
              else none
            else
              ok L (-1) r2.2.2
      else
        (md_ahead L a1 a2 r2.2.2).bind (fun r4 =>
        if w32 a3 = 0 then
          (md_isHit L a1 a2 r4.2.2).bind (fun r10 =>
          (md_one L r10.1 r10.2.2).bind (fun r11 =>
          ok L r11.1 r11.2.2))
        else
          if w32 a3 = 1 then
            (md_hardAt L a1 a2 r4.2.2).bind (fun r9 =>
            ok L r9.1 r9.2.2)
          else
            if w32 a3 = 2 then
              (md_guardAt L a1 a2 r4.2.2).bind (fun r8 =>
              ok L r8.1 r8.2.2)
            else
              if w32 a3 = 3 then
                if 0 ≤ 2 ∧ 2 < 7 then
                ok L (r4.2.2 262 2) r4.2.2
                else none
              else
                if w32 a3 = 4 then
                  if 0 ≤ a1 ∧ a1 < 60 then
                  (md_hardAt L a1 a2 r4.2.2).bind (fun r5 =>
                  (md_guardAt L a1 a2 r5.2.2).bind (fun r6 =>
                  (md_chanceNow L (r4.2.2 243 a1.toNat) r5.1 r6.1 r6.2.2).bind (fun r7 =>
                  ok L r7.1 r7.2.2)))
                  else none
                else
                  if w32 a3 = 5 then
                    if 0 ≤ 0 ∧ 0 < 7 then
                    ok L (r4.2.2 262 0) r4.2.2
                    else none
                  else
                    if w32 a3 = 6 then
                      if 0 ≤ 1 ∧ 1 < 7 then
                      ok L (r4.2.2 262 1) r4.2.2
                      else none
                    else
                      if w32 a3 = 7 then
                        if 0 ≤ 6 ∧ 6 < 7 then
                        ok L (r4.2.2 262 6) r4.2.2
                        else none
                      else
                        ok L (-1) r4.2.2))
    else none) :=
  ((hh_Ev_eq pb_md_told).trans (show _ = (
  (md_isRow L a1 s).bind (fun r1 =>
  if w32 r1.1 = 0 then
    ok L (-1) r1.2.2
  else
    if 0 ≤ a1 ∧ a1 < 60 then
    (md_isIn L a2 (-1) ((r1.2.2 244 a1.toNat) - 1) r1.2.2).bind (fun r2 =>
    if w32 r2.1 = 0 then
      ok L (-1) r2.2.2
    else
      if w32 a2 = w32 (-1) then
        if w32 a3 = 0 then
          if 0 ≤ a1 ∧ a1 < 60 then
          ok L (r2.2.2 243 a1.toNat) r2.2.2
          else none
        else
          if w32 a3 = w32 1 then
            if 0 ≤ a1 ∧ a1 < 60 then
            ok L (r2.2.2 244 a1.toNat) r2.2.2
            else none
          else
            if w32 a3 = w32 2 then
              if 0 ≤ a1 ∧ a1 < 60 then
              (md_bits L (r2.2.2 245 a1.toNat) r2.2.2).bind (fun r3 =>
              ok L r3.1 r3.2.2)
              else none
            else
              ok L (-1) r2.2.2
      else
        (md_ahead L a1 a2 r2.2.2).bind (fun r4 =>
        if w32 a3 = 0 then
          (md_isHit L a1 a2 r4.2.2).bind (fun r10 =>
          (md_one L r10.1 r10.2.2).bind (fun r11 =>
          ok L r11.1 r11.2.2))
        else
          if w32 a3 = 1 then
            (md_hardAt L a1 a2 r4.2.2).bind (fun r9 =>
            ok L r9.1 r9.2.2)
          else
            if w32 a3 = 2 then
              (md_guardAt L a1 a2 r4.2.2).bind (fun r8 =>
              ok L r8.1 r8.2.2)
            else
              if w32 a3 = 3 then
                if 0 ≤ 2 ∧ 2 < 7 then
                ok L (r4.2.2 262 2) r4.2.2
                else none
              else
                if w32 a3 = 4 then
                  if 0 ≤ a1 ∧ a1 < 60 then
                  (md_hardAt L a1 a2 r4.2.2).bind (fun r5 =>
                  (md_guardAt L a1 a2 r5.2.2).bind (fun r6 =>
                  (md_chanceNow L (r4.2.2 243 a1.toNat) r5.1 r6.1 r6.2.2).bind (fun r7 =>
                  ok L r7.1 r7.2.2)))
                  else none
                else
                  if w32 a3 = 5 then
                    if 0 ≤ 0 ∧ 0 < 7 then
                    ok L (r4.2.2 262 0) r4.2.2
                    else none
                  else
                    if w32 a3 = 6 then
                      if 0 ≤ 1 ∧ 1 < 7 then
                      ok L (r4.2.2 262 1) r4.2.2
                      else none
                    else
                      if w32 a3 = 7 then
                        if 0 ≤ 6 ∧ 6 < 7 then
                        ok L (r4.2.2 262 6) r4.2.2
                        else none
                      else
                        ok L (-1) r4.2.2))
    else none)) from rfl)).trans (by simp only [k32_m1, k32_1, k32_2])
set_option maxRecDepth 20000 in
theorem md_next_eq (L : Nat) (a1 : Int) (a2 : Int) (s : hh_Sv) : md_next L a1 a2 s =
  (md_isRow L a1 s).bind (fun r1 =>
  if w32 r1.1 = 0 then
    ok L (-1) r1.2.2
  else
    (md_isIn L a2 0 3 r1.2.2).bind (fun r2 =>
    if w32 r2.1 = 0 then
      ok L (-1) r2.2.2
    else
      if 0 ≤ a1 ∧ a1 < 60 then
      (md_ahead L a1 (r2.2.2 244 a1.toNat) r2.2.2).bind (fun r3 =>
      if 0 ≤ a1 ∧ a1 < 60 then
      (md_hardNow L (r3.2.2 243 a1.toNat) r3.2.2).bind (fun r4 =>
      if 0 ≤ a1 ∧ a1 < 60 then
      (md_guardNow L (r4.2.2 243 a1.toNat) r4.1 r4.2.2).bind (fun r5 =>
      if w32 a2 = 0 then
        ok L r4.1 r5.2.2
      else
        if w32 a2 = 1 then
          ok L r5.1 r5.2.2
        else
          if w32 a2 = 2 then
            if 0 ≤ a1 ∧ a1 < 60 then
            (md_chanceNow L (r5.2.2 243 a1.toNat) r4.1 r5.1 r5.2.2).bind (fun r6 =>
            ok L r6.1 r6.2.2)
            else none
          else
            if 0 ≤ 2 ∧ 2 < 7 then
            ok L (r5.2.2 262 2) r5.2.2
            else none)
      else none)
      else none)
      else none)) :=
  ((hh_Ev_eq pb_md_next).trans (show _ = (
  (md_isRow L a1 s).bind (fun r1 =>
  if w32 r1.1 = 0 then
    ok L (-1) r1.2.2
  else
    (md_isIn L a2 0 3 r1.2.2).bind (fun r2 =>
    if w32 r2.1 = 0 then
      ok L (-1) r2.2.2
    else
      if 0 ≤ a1 ∧ a1 < 60 then
      (md_ahead L a1 (r2.2.2 244 a1.toNat) r2.2.2).bind (fun r3 =>
      if 0 ≤ a1 ∧ a1 < 60 then
      (md_hardNow L (r3.2.2 243 a1.toNat) r3.2.2).bind (fun r4 =>
      if 0 ≤ a1 ∧ a1 < 60 then
      (md_guardNow L (r4.2.2 243 a1.toNat) r4.1 r4.2.2).bind (fun r5 =>
      if w32 a2 = 0 then
        ok L r4.1 r5.2.2
      else
        if w32 a2 = w32 1 then
          ok L r5.1 r5.2.2
        else
          if w32 a2 = w32 2 then
            if 0 ≤ a1 ∧ a1 < 60 then
            (md_chanceNow L (r5.2.2 243 a1.toNat) r4.1 r5.1 r5.2.2).bind (fun r6 =>
            ok L r6.1 r6.2.2)
            else none
          else
            if 0 ≤ 2 ∧ 2 < 7 then
            ok L (r5.2.2 262 2) r5.2.2
            else none)
      else none)
      else none)
      else none))) from rfl)).trans (by simp only [k32_1, k32_2])
set_option maxRecDepth 20000 in
theorem md_ofTold_eq (L : Nat) (s : hh_Sv) : md_ofTold L s =
  (md_takes L 6842740 s).bind (fun r1 =>
  if w32 r1.1 = 0 then
    (md_takes L 1835627379 r1.2.2).bind (fun r2 =>
    if w32 r2.1 = 0 then
      ok L (-1) r2.2.2
    else
      ok L 0 r2.2.2)
  else
    ok L 1 r1.2.2) :=
  (hh_Ev_eq pb_md_ofTold).trans rfl
set_option maxRecDepth 20000 in
theorem md_termTold_eq (L : Nat) (a1 : Int) (a2 : Int) (s : hh_Sv) : md_termTold L a1 a2 s =
  if 0 ≤ a1 ∧ a1 < 52 then
  (md_takesNumber L 1 3 (up s 264 a1.toNat a2)).bind (fun r1 =>
  if w32 r1.1 = 0 then
    md_termTold_b1 L a1 r1.2.2
  else
    if 0 ≤ a1 ∧ a1 < 52 then
    md_termTold_b1 L a1 (up r1.2.2 264 a1.toNat (a2 * (r1.2.2 242 33)))
    else none)
  else none :=
  (hh_Ev_eq pb_md_termTold).trans rfl
set_option maxRecDepth 20000 in
theorem md_termTold_b1_eq (L : Nat) (l1 : Int) (s : hh_Sv) : md_termTold_b1 L l1 s =
  (md_takes L 495672455781 s).bind (fun r1 =>
  if w32 r1.1 = 0 then
    (md_takes L 418330731890 r1.2.2).bind (fun r2 =>
    if w32 r2.1 = 0 then
      (md_takes L 1920298611 r2.2.2).bind (fun r3 =>
      if w32 r3.1 = 0 then
        (md_takes L 30521817456538484 r3.2.2).bind (fun r4 =>
        if w32 r4.1 = 0 then
          (md_takes L 1751741555 r4.2.2).bind (fun r5 =>
          if w32 r5.1 = 0 then
            (md_takes L 482670637683 r5.2.2).bind (fun r6 =>
            if w32 r6.1 = 0 then
              (md_takes L 439855772532 r6.2.2).bind (fun r7 =>
              if w32 r7.1 = 0 then
                md_termTold_b9 L l1 l1 (-1) r7.2.2
              else
                md_termTold_b9 L l1 l1 6 r7.2.2)
            else
              md_termTold_b9 L l1 l1 5 r6.2.2)
          else
            md_termTold_b9 L l1 l1 4 r5.2.2)
        else
          md_termTold_b9 L l1 l1 3 r4.2.2)
      else
        md_termTold_b9 L l1 l1 2 r3.2.2)
    else
      md_termTold_b9 L l1 l1 1 r2.2.2)
  else
    md_termTold_b9 L l1 l1 0 r1.2.2) :=
  (hh_Ev_eq pb_md_termTold).trans rfl
set_option maxRecDepth 20000 in
theorem md_termTold_b9_eq (L : Nat) (l1 : Int) (k1 : Int) (k2 : Int) (s : hh_Sv) : md_termTold_b9 L l1 k1 k2 s =
  if 0 ≤ k1 ∧ k1 < 52 then
  if 0 ≤ l1 ∧ l1 < 52 then
  if w32 ((up s 265 k1.toNat k2) 265 l1.toNat) = (-1) then
    ok L 0 (up s 265 k1.toNat k2)
  else
    if 0 ≤ l1 ∧ l1 < 52 then
    if w32 ((up s 265 k1.toNat k2) 265 l1.toNat) = 0 then
      md_termTold_b13 L l1 1 (up s 265 k1.toNat k2)
    else
      if 0 ≤ l1 ∧ l1 < 52 then
      if w32 ((up s 265 k1.toNat k2) 265 l1.toNat) = 2 then
        md_termTold_b13 L l1 1 (up s 265 k1.toNat k2)
      else
        if 0 ≤ l1 ∧ l1 < 52 then
        if w32 ((up s 265 k1.toNat k2) 265 l1.toNat) = 4 then
          md_termTold_b13 L l1 1 (up s 265 k1.toNat k2)
        else
          md_termTold_b13 L l1 0 (up s 265 k1.toNat k2)
        else none
      else none
    else none
  else none
  else none :=
  ((hh_Ev_eq pb_md_termTold).trans (show _ = (
  if 0 ≤ k1 ∧ k1 < 52 then
  if 0 ≤ l1 ∧ l1 < 52 then
  if w32 ((up s 265 k1.toNat k2) 265 l1.toNat) = w32 (-1) then
    ok L 0 (up s 265 k1.toNat k2)
  else
    if 0 ≤ l1 ∧ l1 < 52 then
    if w32 ((up s 265 k1.toNat k2) 265 l1.toNat) = 0 then
      md_termTold_b13 L l1 1 (up s 265 k1.toNat k2)
    else
      if 0 ≤ l1 ∧ l1 < 52 then
      if w32 ((up s 265 k1.toNat k2) 265 l1.toNat) = w32 2 then
        md_termTold_b13 L l1 1 (up s 265 k1.toNat k2)
      else
        if 0 ≤ l1 ∧ l1 < 52 then
        if w32 ((up s 265 k1.toNat k2) 265 l1.toNat) = w32 4 then
          md_termTold_b13 L l1 1 (up s 265 k1.toNat k2)
        else
          md_termTold_b13 L l1 0 (up s 265 k1.toNat k2)
        else none
      else none
    else none
  else none
  else none) from rfl)).trans (by simp only [k32_m1, k32_2, k32_4])
set_option maxRecDepth 20000 in
theorem md_termTold_b13_eq (L : Nat) (l1 : Int) (k0 : Int) (s : hh_Sv) : md_termTold_b13 L l1 k0 s =
  if w32 k0 = 0 then
    (md_ofTold L s).bind (fun r1 =>
    md_termTold_b15 L l1 l1 r1.1 r1.2.2)
  else
    md_termTold_b15 L l1 l1 0 s :=
  (hh_Ev_eq pb_md_termTold).trans rfl
set_option maxRecDepth 20000 in
theorem md_termTold_b15_eq (L : Nat) (l1 : Int) (k1 : Int) (k2 : Int) (s : hh_Sv) : md_termTold_b15 L l1 k1 k2 s =
  if 0 ≤ k1 ∧ k1 < 52 then
  if 0 ≤ l1 ∧ l1 < 52 then
  if w32 ((up s 266 k1.toNat k2) 266 l1.toNat) = (-1) then
    ok L 0 (up s 266 k1.toNat k2)
  else
    if 0 ≤ l1 ∧ l1 < 52 then
    if 0 ≤ l1 ∧ l1 < 52 then
    if w32 (s 265 l1.toNat) = 5 then
      (md_ofTold L (up (up s 266 k1.toNat k2) 267 l1.toNat 0)).bind (fun r1 =>
      if 0 ≤ l1 ∧ l1 < 52 then
      if 0 ≤ l1 ∧ l1 < 52 then
      if w32 ((up r1.2.2 267 l1.toNat r1.1) 267 l1.toNat) = (-1) then
        ok L 0 (up r1.2.2 267 l1.toNat r1.1)
      else
        md_termTold_b17 L l1 (up r1.2.2 267 l1.toNat r1.1)
      else none
      else none)
    else
      md_termTold_b17 L l1 (up (up s 266 k1.toNat k2) 267 l1.toNat 0)
    else none
    else none
  else none
  else none :=
  ((hh_Ev_eq pb_md_termTold).trans (show _ = (
  if 0 ≤ k1 ∧ k1 < 52 then
  if 0 ≤ l1 ∧ l1 < 52 then
  if w32 ((up s 266 k1.toNat k2) 266 l1.toNat) = w32 (-1) then
    ok L 0 (up s 266 k1.toNat k2)
  else
    if 0 ≤ l1 ∧ l1 < 52 then
    if 0 ≤ l1 ∧ l1 < 52 then
    if w32 (s 265 l1.toNat) = w32 5 then
      (md_ofTold L (up (up s 266 k1.toNat k2) 267 l1.toNat 0)).bind (fun r1 =>
      if 0 ≤ l1 ∧ l1 < 52 then
      if 0 ≤ l1 ∧ l1 < 52 then
      if w32 ((up r1.2.2 267 l1.toNat r1.1) 267 l1.toNat) = w32 (-1) then
        ok L 0 (up r1.2.2 267 l1.toNat r1.1)
      else
        md_termTold_b17 L l1 (up r1.2.2 267 l1.toNat r1.1)
      else none
      else none)
    else
      md_termTold_b17 L l1 (up (up s 266 k1.toNat k2) 267 l1.toNat 0)
    else none
    else none
  else none
  else none) from rfl)).trans (by simp only [k32_m1, k32_5])
set_option maxRecDepth 20000 in
theorem md_termTold_b17_eq (L : Nat) (l1 : Int) (s : hh_Sv) : md_termTold_b17 L l1 s =
  if 0 ≤ l1 ∧ l1 < 52 then
  if w32 (s 265 l1.toNat) = 1 then
    (md_takesNumber L 1 5 s).bind (fun r1 =>
    if w32 r1.1 = 0 then
      ok L 0 r1.2.2
    else
      if 0 ≤ l1 ∧ l1 < 52 then
      ok L 1 (up r1.2.2 267 l1.toNat (r1.2.2 242 33))
      else none)
  else
    ok L 1 s
  else none :=
  ((hh_Ev_eq pb_md_termTold).trans (show _ = (
  if 0 ≤ l1 ∧ l1 < 52 then
  if w32 (s 265 l1.toNat) = w32 1 then
    (md_takesNumber L 1 5 s).bind (fun r1 =>
    if w32 r1.1 = 0 then
      ok L 0 r1.2.2
    else
      if 0 ≤ l1 ∧ l1 < 52 then
      ok L 1 (up r1.2.2 267 l1.toNat (r1.2.2 242 33))
      else none)
  else
    ok L 1 s
  else none) from rfl)).trans (by simp only [k32_1])
set_option maxRecDepth 20000 in
theorem md_measureTold_eq (L : Nat) (s : hh_Sv) : md_measureTold L s =
  if 0 ≤ 12 ∧ 12 < 13 then
  md_measureTold_b1 L 48 1 0 (up s 263 12 0)
  else none :=
  (hh_Ev_eq pb_md_measureTold).trans rfl
set_option maxRecDepth 20000 in
theorem md_measureTold_b1_eq (L : Nat) (l1 : Int) (l2 : Int) (l3 : Int) (s : hh_Sv) : md_measureTold_b1 L l1 l2 l3 s =
  if w32 l3 < 4 then
    if w32 l2 = 0 then
      ok L 0 s
    else
      (md_termTold L (l1 + l3) l2 s).bind (fun r1 =>
      if w32 r1.1 = 0 then
        ok L 0 r1.2.2
      else
        if 0 ≤ 12 ∧ 12 < 13 then
        if 0 ≤ 12 ∧ 12 < 13 then
        (md_blanks L (up r1.2.2 263 12 ((r1.2.2 263 12) + 1))).bind (fun r2 =>
        if w32 (r2.2.2 242 12) = w32 (r2.2.2 242 11) then
          ok L 1 r2.2.2
        else
          if w32 l3 < 3 then
            (md_takesSign L 43 r2.2.2).bind (fun r3 =>
            if w32 r3.1 = 0 then
              (md_takesSign L 45 r3.2.2).bind (fun r4 =>
              if w32 r4.1 = 0 then
                md_measureTold_b6 L l1 l3 0 r4.2.2
              else
                md_measureTold_b6 L l1 l3 (-1) r4.2.2)
            else
              md_measureTold_b6 L l1 l3 1 r3.2.2)
          else
            md_measureTold_b1 L l1 l2 (l3 + 1) r2.2.2)
        else none
        else none)
  else
    ok L 0 s :=
  ((hh_Ev_eq pb_md_measureTold).trans (show _ = (
  if w32 l3 < w32 4 then
    if w32 l2 = 0 then
      ok L 0 s
    else
      (md_termTold L (l1 + l3) l2 s).bind (fun r1 =>
      if w32 r1.1 = 0 then
        ok L 0 r1.2.2
      else
        if 0 ≤ 12 ∧ 12 < 13 then
        if 0 ≤ 12 ∧ 12 < 13 then
        (md_blanks L (up r1.2.2 263 12 ((r1.2.2 263 12) + 1))).bind (fun r2 =>
        if w32 (r2.2.2 242 12) = w32 (r2.2.2 242 11) then
          ok L 1 r2.2.2
        else
          if w32 l3 < w32 3 then
            (md_takesSign L 43 r2.2.2).bind (fun r3 =>
            if w32 r3.1 = 0 then
              (md_takesSign L 45 r3.2.2).bind (fun r4 =>
              if w32 r4.1 = 0 then
                md_measureTold_b6 L l1 l3 0 r4.2.2
              else
                md_measureTold_b6 L l1 l3 (-1) r4.2.2)
            else
              md_measureTold_b6 L l1 l3 1 r3.2.2)
          else
            md_measureTold_b1 L l1 l2 (l3 + 1) r2.2.2)
        else none
        else none)
  else
    ok L 0 s) from rfl)).trans (by simp only [k32_3, k32_4])
set_option maxRecDepth 20000 in
theorem md_measureTold_b6_eq (L : Nat) (l1 : Int) (l3 : Int) (k0 : Int) (s : hh_Sv) : md_measureTold_b6 L l1 l3 k0 s =
  md_measureTold_b1 L l1 k0 (l3 + 1) s :=
  (hh_Ev_eq pb_md_measureTold).trans rfl
set_option maxRecDepth 20000 in
theorem md_measure_eq (L : Nat) (a1 : Int) (s : hh_Sv) : md_measure L a1 s =
  (md_isIn L a1 0 (s 242 10) s).bind (fun r1 =>
  if w32 r1.1 = 0 then
    ok L (-2) r1.2.2
  else
    if w32 (r1.2.2 242 16) = 12 then
      ok L (-3) r1.2.2
    else
      (md_lays L a1 r1.2.2).bind (fun r2 =>
      (md_measureTold L r2.2.2).bind (fun r3 =>
      if w32 r3.1 = 0 then
        (md_blanks L r3.2.2).bind (fun r4 =>
        md_measure_b3 L r3.1 r4.2.2)
      else
        md_measure_b3 L r3.1 r3.2.2))) :=
  ((hh_Ev_eq pb_md_measure).trans (show _ = (
  (md_isIn L a1 0 (s 242 10) s).bind (fun r1 =>
  if w32 r1.1 = 0 then
    ok L (-2) r1.2.2
  else
    if w32 (r1.2.2 242 16) = w32 12 then
      ok L (-3) r1.2.2
    else
      (md_lays L a1 r1.2.2).bind (fun r2 =>
      (md_measureTold L r2.2.2).bind (fun r3 =>
      if w32 r3.1 = 0 then
        (md_blanks L r3.2.2).bind (fun r4 =>
        md_measure_b3 L r3.1 r4.2.2)
      else
        md_measure_b3 L r3.1 r3.2.2)))) from rfl)).trans (by simp only [k32_12])
set_option maxRecDepth 20000 in
theorem md_measure_b3_eq (L : Nat) (l2 : Int) (s : hh_Sv) : md_measure_b3 L l2 s =
  if w32 l2 = 0 then
    md_measure_b5 L l2 (s 242 12) s
  else
    md_measure_b5 L l2 (-1) s :=
  (hh_Ev_eq pb_md_measure).trans rfl
set_option maxRecDepth 20000 in
theorem md_measure_b5_eq (L : Nat) (l2 : Int) (k1 : Int) (s : hh_Sv) : md_measure_b5 L l2 k1 s =
  if w32 l2 = 0 then
    ok L (-1) (up s 242 17 k1)
  else
    if 0 ≤ 12 ∧ 12 < 13 then
    if 0 ≤ s 242 16 ∧ s 242 16 < 13 then
    md_measure_b7 L 0 (up (up s 242 17 k1) 263 ((s 242 16).toNat) (s 263 12))
    else none
    else none :=
  (hh_Ev_eq pb_md_measure).trans rfl
set_option maxRecDepth 20000 in
theorem md_measure_b7_eq (L : Nat) (l3 : Int) (s : hh_Sv) : md_measure_b7 L l3 s =
  if 0 ≤ 12 ∧ 12 < 13 then
  if w32 l3 < w32 (s 263 12) then
    if 0 ≤ 48 + l3 ∧ 48 + l3 < 52 then
    if 0 ≤ (4 * (s 242 16)) + l3 ∧ (4 * (s 242 16)) + l3 < 52 then
    if 0 ≤ 48 + l3 ∧ 48 + l3 < 52 then
    if 0 ≤ (4 * (s 242 16)) + l3 ∧ (4 * (s 242 16)) + l3 < 52 then
    if 0 ≤ 48 + l3 ∧ 48 + l3 < 52 then
    if 0 ≤ (4 * (s 242 16)) + l3 ∧ (4 * (s 242 16)) + l3 < 52 then
    if 0 ≤ 48 + l3 ∧ 48 + l3 < 52 then
    if 0 ≤ (4 * (s 242 16)) + l3 ∧ (4 * (s 242 16)) + l3 < 52 then
    md_measure_b7 L (l3 + 1) (up (up (up (up s 264 (((4 * (s 242 16)) + l3).toNat) (s 264 ((48 + l3).toNat))) 265 (((4 * (s 242 16)) + l3).toNat) (s 265 ((48 + l3).toNat))) 266 (((4 * (s 242 16)) + l3).toNat) (s 266 ((48 + l3).toNat))) 267 (((4 * (s 242 16)) + l3).toNat) (s 267 ((48 + l3).toNat)))
    else none
    else none
    else none
    else none
    else none
    else none
    else none
    else none
  else
    ok L (((s 242 16) + 1) - 1) (up s 242 16 ((s 242 16) + 1))
  else none :=
  (hh_Ev_eq pb_md_measure).trans rfl
set_option maxRecDepth 20000 in
theorem md_isMeasure_eq (L : Nat) (a1 : Int) (s : hh_Sv) : md_isMeasure L a1 s =
  (md_isIn L a1 0 ((s 242 16) - 1) s).bind (fun r1 =>
  if r1.1 = 0 ∨ r1.1 = 1 then
  ok L r1.1 r1.2.2
  else none) :=
  (hh_Ev_eq pb_md_isMeasure).trans rfl
set_option maxRecDepth 20000 in
theorem md_isOf_eq (L : Nat) (a1 : Int) (a2 : Int) (s : hh_Sv) : md_isOf L a1 a2 s =
  ok L (bAnd (iShr a1 a2) 1) s :=
  (hh_Ev_eq pb_md_isOf).trans rfl
set_option maxRecDepth 20000 in
theorem md_behind_eq (L : Nat) (a1 : Int) (a2 : Int) (a3 : Int) (a4 : Int) (s : hh_Sv) : md_behind L a1 a2 a3 a4 s =
  md_behind_b1 L a1 a2 a3 a4 0 0 (up (up s 242 40 0) 242 41 0) :=
  (hh_Ev_eq pb_md_behind).trans rfl
set_option maxRecDepth 20000 in
theorem md_behind_b1_eq (L : Nat) (l1 : Int) (l2 : Int) (l3 : Int) (l4 : Int) (l5 : Int) (l6 : Int) (s : hh_Sv) : md_behind_b1 L l1 l2 l3 l4 l5 l6 s =
  if w32 l6 < w32 l2 then
    if w32 l5 < w32 l4 then
      md_behind_b2 L l1 l2 l3 l4 l5 l6 s
    else
      (md_isOf L l1 l6 (up s 242 40 ((s 242 40) + 1))).bind (fun r1 =>
      md_behind_b2 L l1 l2 l3 l4 l5 l6 (up r1.2.2 242 41 ((s 242 41) + r1.1)))
  else
    ok L 0 s :=
  (hh_Ev_eq pb_md_behind).trans rfl
set_option maxRecDepth 20000 in
theorem md_behind_b2_eq (L : Nat) (l1 : Int) (l2 : Int) (l3 : Int) (l4 : Int) (l5 : Int) (l6 : Int) (s : hh_Sv) : md_behind_b2 L l1 l2 l3 l4 l5 l6 s =
  (md_isOf L l1 l6 s).bind (fun r1 =>
  if w32 r1.1 = w32 l3 then
    md_behind_b4 L l1 l2 l3 l4 l6 (l5 + 1) r1.2.2
  else
    md_behind_b4 L l1 l2 l3 l4 l6 0 r1.2.2) :=
  (hh_Ev_eq pb_md_behind).trans rfl
set_option maxRecDepth 20000 in
theorem md_behind_b4_eq (L : Nat) (l1 : Int) (l2 : Int) (l3 : Int) (l4 : Int) (l6 : Int) (k0 : Int) (s : hh_Sv) : md_behind_b4 L l1 l2 l3 l4 l6 k0 s =
  md_behind_b1 L l1 l2 l3 l4 k0 (l6 + 1) s :=
  (hh_Ev_eq pb_md_behind).trans rfl
set_option maxRecDepth 20000 in
theorem md_runsIn_eq (L : Nat) (a1 : Int) (a2 : Int) (s : hh_Sv) : md_runsIn L a1 a2 s =
  md_runsIn_b1 L a1 a2 1 1 s :=
  (hh_Ev_eq pb_md_runsIn).trans rfl
set_option maxRecDepth 20000 in
theorem md_runsIn_b1_eq (L : Nat) (l1 : Int) (l2 : Int) (l3 : Int) (l4 : Int) (s : hh_Sv) : md_runsIn_b1 L l1 l2 l3 l4 s =
  if w32 l4 < w32 l2 then
    (md_isOf L l1 l4 s).bind (fun r1 =>
    (md_isOf L l1 (l4 - 1) r1.2.2).bind (fun r2 =>
    if w32 r1.1 = w32 r2.1 then
      md_runsIn_b3 L l1 l2 l4 l3 0 r2.2.2
    else
      md_runsIn_b3 L l1 l2 l4 l3 1 r2.2.2))
  else
    ok L l3 s :=
  (hh_Ev_eq pb_md_runsIn).trans rfl
set_option maxRecDepth 20000 in
theorem md_runsIn_b3_eq (L : Nat) (l1 : Int) (l2 : Int) (l4 : Int) (k0 : Int) (k1 : Int) (s : hh_Sv) : md_runsIn_b3 L l1 l2 l4 k0 k1 s =
  (md_one L k1 s).bind (fun r1 =>
  md_runsIn_b1 L l1 l2 (k0 + r1.1) (l4 + 1) r1.2.2) :=
  (hh_Ev_eq pb_md_runsIn).trans rfl
set_option maxRecDepth 20000 in
theorem md_longestIn_eq (L : Nat) (a1 : Int) (a2 : Int) (a3 : Int) (s : hh_Sv) : md_longestIn L a1 a2 a3 s =
  md_longestIn_b1 L a1 a2 a3 0 0 0 s :=
  (hh_Ev_eq pb_md_longestIn).trans rfl
set_option maxRecDepth 20000 in
theorem md_longestIn_b1_eq (L : Nat) (l1 : Int) (l2 : Int) (l3 : Int) (l4 : Int) (l5 : Int) (l6 : Int) (s : hh_Sv) : md_longestIn_b1 L l1 l2 l3 l4 l5 l6 s =
  if w32 l6 < w32 l2 then
    (md_isOf L l1 l6 s).bind (fun r1 =>
    if w32 r1.1 = w32 l3 then
      md_longestIn_b3 L l1 l2 l3 l4 l6 (l5 + 1) r1.2.2
    else
      md_longestIn_b3 L l1 l2 l3 l4 l6 0 r1.2.2)
  else
    ok L l4 s :=
  (hh_Ev_eq pb_md_longestIn).trans rfl
set_option maxRecDepth 20000 in
theorem md_longestIn_b3_eq (L : Nat) (l1 : Int) (l2 : Int) (l3 : Int) (l4 : Int) (l6 : Int) (k0 : Int) (s : hh_Sv) : md_longestIn_b3 L l1 l2 l3 l4 l6 k0 s =
  (jma_max L l4 k0 s).bind (fun r1 =>
  md_longestIn_b1 L l1 l2 l3 r1.1 k0 (l6 + 1) r1.2.2) :=
  (hh_Ev_eq pb_md_longestIn).trans rfl
set_option maxRecDepth 20000 in
theorem md_pairsIn_eq (L : Nat) (a1 : Int) (a2 : Int) (a3 : Int) (a4 : Int) (s : hh_Sv) : md_pairsIn L a1 a2 a3 a4 s =
  md_pairsIn_b1 L a1 a2 a3 a4 0 1 s :=
  (hh_Ev_eq pb_md_pairsIn).trans rfl
set_option maxRecDepth 20000 in
theorem md_pairsIn_b1_eq (L : Nat) (l1 : Int) (l2 : Int) (l3 : Int) (l4 : Int) (l5 : Int) (l6 : Int) (s : hh_Sv) : md_pairsIn_b1 L l1 l2 l3 l4 l5 l6 s =
  if w32 l6 < w32 l2 then
    (md_isOf L l1 (l6 - 1) s).bind (fun r1 =>
    if w32 r1.1 = w32 l3 then
      (md_isOf L l1 l6 r1.2.2).bind (fun r2 =>
      if w32 r2.1 = w32 l4 then
        md_pairsIn_b3 L l1 l2 l3 l4 l6 l5 1 r2.2.2
      else
        md_pairsIn_b2 L l1 l2 l3 l4 l6 l5 r2.2.2)
    else
      md_pairsIn_b2 L l1 l2 l3 l4 l6 l5 r1.2.2)
  else
    ok L l5 s :=
  (hh_Ev_eq pb_md_pairsIn).trans rfl
set_option maxRecDepth 20000 in
theorem md_pairsIn_b2_eq (L : Nat) (l1 : Int) (l2 : Int) (l3 : Int) (l4 : Int) (l6 : Int) (k0 : Int) (s : hh_Sv) : md_pairsIn_b2 L l1 l2 l3 l4 l6 k0 s =
  md_pairsIn_b3 L l1 l2 l3 l4 l6 k0 0 s :=
  (hh_Ev_eq pb_md_pairsIn).trans rfl
set_option maxRecDepth 20000 in
theorem md_pairsIn_b3_eq (L : Nat) (l1 : Int) (l2 : Int) (l3 : Int) (l4 : Int) (l6 : Int) (k0 : Int) (k1 : Int) (s : hh_Sv) : md_pairsIn_b3 L l1 l2 l3 l4 l6 k0 k1 s =
  (md_one L k1 s).bind (fun r1 =>
  md_pairsIn_b1 L l1 l2 l3 l4 (k0 + r1.1) (l6 + 1) r1.2.2) :=
  (hh_Ev_eq pb_md_pairsIn).trans rfl
set_option maxRecDepth 20000 in
theorem md_firstIn_eq (L : Nat) (a1 : Int) (a2 : Int) (a3 : Int) (s : hh_Sv) : md_firstIn L a1 a2 a3 s =
  md_firstIn_b1 L a1 a2 a3 0 s :=
  (hh_Ev_eq pb_md_firstIn).trans rfl
set_option maxRecDepth 20000 in
theorem md_firstIn_b1_eq (L : Nat) (l1 : Int) (l2 : Int) (l3 : Int) (l4 : Int) (s : hh_Sv) : md_firstIn_b1 L l1 l2 l3 l4 s =
  if w32 l4 < w32 l2 then
    (md_isOf L l1 l4 s).bind (fun r1 =>
    if w32 r1.1 = w32 l3 then
      md_firstIn_b2 L l2 l4 r1.2.2
    else
      md_firstIn_b1 L l1 l2 l3 (l4 + 1) r1.2.2)
  else
    md_firstIn_b2 L l2 l4 s :=
  (hh_Ev_eq pb_md_firstIn).trans rfl
set_option maxRecDepth 20000 in
theorem md_firstIn_b2_eq (L : Nat) (l2 : Int) (l4 : Int) (s : hh_Sv) : md_firstIn_b2 L l2 l4 s =
  if w32 l4 = w32 l2 then
    ok L 0 s
  else
    ok L (l4 + 1) s :=
  (hh_Ev_eq pb_md_firstIn).trans rfl
set_option maxRecDepth 20000 in
theorem md_termValue_eq (L : Nat) (a1 : Int) (a2 : Int) (a3 : Int) (s : hh_Sv) : md_termValue L a1 a2 a3 s =
  if 0 ≤ a1 ∧ a1 < 52 then
  if w32 (s 265 a1.toNat) = 0 then
    if w64 (w32 a3) = 0 then none else
    (md_bits L a2 s).bind (fun r7 =>
    ok L ((tDiv 5354228880 (w64 (w32 a3))) * (w32 r7.1)) r7.2.2)
  else
    if w32 (s 265 a1.toNat) = 1 then
      if 0 ≤ a1 ∧ a1 < 52 then
      if 0 ≤ a1 ∧ a1 < 52 then
      (md_behind L a2 a3 (s 266 a1.toNat) (s 267 a1.toNat) s).bind (fun r6 =>
      if w32 (r6.2.2 242 42) = 0 then
        md_termValue_b3 L r6.2.2
      else
        if 0 < w32 (r6.2.2 242 40) then
          md_termValue_b4 L 1 r6.2.2
        else
          md_termValue_b3 L r6.2.2)
      else none
      else none
    else
      if w32 (s 265 a1.toNat) = 2 then
        (md_runsIn L a2 a3 s).bind (fun r5 =>
        ok L (5354228880 * (w32 r5.1)) r5.2.2)
      else
        if w32 (s 265 a1.toNat) = 3 then
          if 0 ≤ a1 ∧ a1 < 52 then
          (md_longestIn L a2 a3 (s 266 a1.toNat) s).bind (fun r4 =>
          ok L (5354228880 * (w32 r4.1)) r4.2.2)
          else none
        else
          if w32 (s 265 a1.toNat) = 4 then
            (md_bits L a2 s).bind (fun r3 =>
            ok L (5354228880 * (w32 r3.1)) r3.2.2)
          else
            if w32 (s 265 a1.toNat) = 5 then
              if 0 ≤ a1 ∧ a1 < 52 then
              if 0 ≤ a1 ∧ a1 < 52 then
              (md_pairsIn L a2 a3 (s 266 a1.toNat) (s 267 a1.toNat) s).bind (fun r2 =>
              ok L (5354228880 * (w32 r2.1)) r2.2.2)
              else none
              else none
            else
              if 0 ≤ a1 ∧ a1 < 52 then
              (md_firstIn L a2 a3 (s 266 a1.toNat) s).bind (fun r1 =>
              ok L (5354228880 * (w32 r1.1)) r1.2.2)
              else none
  else none :=
  ((hh_Ev_eq pb_md_termValue).trans (show _ = (
  if 0 ≤ a1 ∧ a1 < 52 then
  if w32 (s 265 a1.toNat) = 0 then
    if w64 (w32 a3) = 0 then none else
    (md_bits L a2 s).bind (fun r7 =>
    ok L ((tDiv (w64 5354228880) (w64 (w32 a3))) * (w32 r7.1)) r7.2.2)
  else
    if w32 (s 265 a1.toNat) = 1 then
      if 0 ≤ a1 ∧ a1 < 52 then
      if 0 ≤ a1 ∧ a1 < 52 then
      (md_behind L a2 a3 (s 266 a1.toNat) (s 267 a1.toNat) s).bind (fun r6 =>
      if w32 (r6.2.2 242 42) = 0 then
        md_termValue_b3 L r6.2.2
      else
        if 0 < w32 (r6.2.2 242 40) then
          md_termValue_b4 L 1 r6.2.2
        else
          md_termValue_b3 L r6.2.2)
      else none
      else none
    else
      if w32 (s 265 a1.toNat) = 2 then
        (md_runsIn L a2 a3 s).bind (fun r5 =>
        ok L (5354228880 * (w32 r5.1)) r5.2.2)
      else
        if w32 (s 265 a1.toNat) = 3 then
          if 0 ≤ a1 ∧ a1 < 52 then
          (md_longestIn L a2 a3 (s 266 a1.toNat) s).bind (fun r4 =>
          ok L (5354228880 * (w32 r4.1)) r4.2.2)
          else none
        else
          if w32 (s 265 a1.toNat) = 4 then
            (md_bits L a2 s).bind (fun r3 =>
            ok L (5354228880 * (w32 r3.1)) r3.2.2)
          else
            if w32 (s 265 a1.toNat) = 5 then
              if 0 ≤ a1 ∧ a1 < 52 then
              if 0 ≤ a1 ∧ a1 < 52 then
              (md_pairsIn L a2 a3 (s 266 a1.toNat) (s 267 a1.toNat) s).bind (fun r2 =>
              ok L (5354228880 * (w32 r2.1)) r2.2.2)
              else none
              else none
            else
              if 0 ≤ a1 ∧ a1 < 52 then
              (md_firstIn L a2 a3 (s 266 a1.toNat) s).bind (fun r1 =>
              ok L (5354228880 * (w32 r1.1)) r1.2.2)
              else none
  else none) from rfl)).trans (by simp only [k64_5354228880])
set_option maxRecDepth 20000 in
theorem md_termValue_b3_eq (L : Nat) (s : hh_Sv) : md_termValue_b3 L s =
  md_termValue_b4 L 0 s :=
  (hh_Ev_eq pb_md_termValue).trans rfl
set_option maxRecDepth 20000 in
theorem md_termValue_b4_eq (L : Nat) (k1 : Int) (s : hh_Sv) : md_termValue_b4 L k1 s =
  if k1 = 0 ∨ k1 = 1 then
  if w32 (s 242 40) = 0 then
    ok L 0 (up s 242 42 k1)
  else
    if w64 (w32 (s 242 40)) = 0 then none else
    ok L ((tDiv 5354228880 (w64 (w32 (s 242 40)))) * (w32 (s 242 41))) (up s 242 42 k1)
  else none :=
  ((hh_Ev_eq pb_md_termValue).trans (show _ = (
  if k1 = 0 ∨ k1 = 1 then
  if w32 (s 242 40) = 0 then
    ok L 0 (up s 242 42 k1)
  else
    if w64 (w32 (s 242 40)) = 0 then none else
    ok L ((tDiv (w64 5354228880) (w64 (w32 (s 242 40)))) * (w32 (s 242 41))) (up s 242 42 k1)
  else none) from rfl)).trans (by simp only [k64_5354228880])
set_option maxRecDepth 20000 in
theorem md_valueOf_eq (L : Nat) (a1 : Int) (a2 : Int) (a3 : Int) (s : hh_Sv) : md_valueOf L a1 a2 a3 s =
  if 0 < w32 a3 then
    md_valueOf_b2 L a1 a2 a3 1 s
  else
    md_valueOf_b2 L a1 a2 a3 0 s :=
  (hh_Ev_eq pb_md_valueOf).trans rfl
set_option maxRecDepth 20000 in
theorem md_valueOf_b2_eq (L : Nat) (l1 : Int) (l2 : Int) (l3 : Int) (k1 : Int) (s : hh_Sv) : md_valueOf_b2 L l1 l2 l3 k1 s =
  if k1 = 0 ∨ k1 = 1 then
  md_valueOf_b3 L l1 l2 l3 0 (4 * l1) (up s 242 42 k1)
  else none :=
  (hh_Ev_eq pb_md_valueOf).trans rfl
set_option maxRecDepth 20000 in
theorem md_valueOf_b3_eq (L : Nat) (l1 : Int) (l2 : Int) (l3 : Int) (l4 : Int) (l6 : Int) (s : hh_Sv) : md_valueOf_b3 L l1 l2 l3 l4 l6 s =
  if 0 ≤ l1 ∧ l1 < 13 then
  if w32 l6 < w32 ((4 * l1) + (s 263 l1.toNat)) then
    if w32 (s 242 42) = 0 then
      ok L l4 s
    else
      if 0 ≤ l6 ∧ l6 < 52 then
      (md_termValue L l6 l2 l3 s).bind (fun r1 =>
      md_valueOf_b3 L l1 l2 l3 (l4 + ((w32 (s 264 l6.toNat)) * r1.1)) (l6 + 1) r1.2.2)
      else none
  else
    ok L l4 s
  else none :=
  (hh_Ev_eq pb_md_valueOf).trans rfl
set_option maxRecDepth 20000 in
theorem md_value_eq (L : Nat) (a1 : Int) (a2 : Int) (a3 : Int) (s : hh_Sv) : md_value L a1 a2 a3 s =
  (md_isRow L a1 s).bind (fun r1 =>
  if w32 r1.1 = 0 then
    ok L (-1000000000000) r1.2.2
  else
    (md_isMeasure L a2 r1.2.2).bind (fun r2 =>
    if w32 r2.1 = 0 then
      ok L (-1000000000000) r2.2.2
    else
      (md_isIn L a3 0 1 r2.2.2).bind (fun r3 =>
      if w32 r3.1 = 0 then
        ok L (-1000000000000) r3.2.2
      else
        if 0 ≤ a1 ∧ a1 < 60 then
        if 0 ≤ a1 ∧ a1 < 60 then
        (md_valueOf L a2 (r3.2.2 245 a1.toNat) (r3.2.2 244 a1.toNat) r3.2.2).bind (fun r4 =>
        if w32 (r4.2.2 242 42) = 0 then
          ok L (-1000000000000) r4.2.2
        else
          (md_is L r4.1 5354228880 r4.2.2).bind (fun r5 =>
          (md_tells L a3 r5.2.2).bind (fun r6 =>
          ok L r6.1 r6.2.2)))
        else none
        else none))) :=
  (hh_Ev_eq pb_md_value).trans rfl
set_option maxRecDepth 20000 in
theorem md_mean_eq (L : Nat) (a1 : Int) (a2 : Int) (a3 : Int) (s : hh_Sv) : md_mean L a1 a2 a3 s =
  if w32 a1 = (-1) then
    md_mean_b1 L a1 a2 a3 s
  else
    (md_isThrower L a1 s).bind (fun r1 =>
    if w32 r1.1 = 0 then
      ok L (-1000000000000) r1.2.2
    else
      md_mean_b1 L a1 a2 a3 r1.2.2) :=
  ((hh_Ev_eq pb_md_mean).trans (show _ = (
  if w32 a1 = w32 (-1) then
    md_mean_b1 L a1 a2 a3 s
  else
    (md_isThrower L a1 s).bind (fun r1 =>
    if w32 r1.1 = 0 then
      ok L (-1000000000000) r1.2.2
    else
      md_mean_b1 L a1 a2 a3 r1.2.2)) from rfl)).trans (by simp only [k32_m1])
set_option maxRecDepth 20000 in
theorem md_mean_b1_eq (L : Nat) (l1 : Int) (l2 : Int) (l3 : Int) (s : hh_Sv) : md_mean_b1 L l1 l2 l3 s =
  (md_isMeasure L l2 s).bind (fun r1 =>
  if w32 r1.1 = 0 then
    ok L (-1000000000000) r1.2.2
  else
    (md_isIn L l3 0 1 r1.2.2).bind (fun r2 =>
    if w32 r2.1 = 0 then
      ok L (-1000000000000) r2.2.2
    else
      md_mean_b4 L l1 l2 l3 0 0 0 r2.2.2)) :=
  (hh_Ev_eq pb_md_mean).trans rfl
set_option maxRecDepth 20000 in
theorem md_mean_b4_eq (L : Nat) (l1 : Int) (l2 : Int) (l3 : Int) (l4 : Int) (l6 : Int) (l8 : Int) (s : hh_Sv) : md_mean_b4 L l1 l2 l3 l4 l6 l8 s =
  if w32 l8 < w32 (s 242 3) then
    if w32 l1 = (-1) then
      md_mean_b5 L l1 l2 l3 l4 l6 l8 s
    else
      if 0 ≤ l8 ∧ l8 < 60 then
      if w32 (s 243 l8.toNat) = w32 l1 then
        md_mean_b5 L l1 l2 l3 l4 l6 l8 s
      else
        md_mean_b4 L l1 l2 l3 l4 l6 (l8 + 1) s
      else none
  else
    if w32 (lCmp l6 0) = 0 then
      ok L (-1000000000000) s
    else
      (md_is L l4 (l6 * 5354228880) s).bind (fun r1 =>
      (md_tells L l3 r1.2.2).bind (fun r2 =>
      ok L r2.1 r2.2.2)) :=
  ((hh_Ev_eq pb_md_mean).trans (show _ = (
  if w32 l8 < w32 (s 242 3) then
    if w32 l1 = w32 (-1) then
      md_mean_b5 L l1 l2 l3 l4 l6 l8 s
    else
      if 0 ≤ l8 ∧ l8 < 60 then
      if w32 (s 243 l8.toNat) = w32 l1 then
        md_mean_b5 L l1 l2 l3 l4 l6 l8 s
      else
        md_mean_b4 L l1 l2 l3 l4 l6 (l8 + 1) s
      else none
  else
    if w32 (lCmp l6 0) = 0 then
      ok L (-1000000000000) s
    else
      (md_is L l4 (l6 * 5354228880) s).bind (fun r1 =>
      (md_tells L l3 r1.2.2).bind (fun r2 =>
      ok L r2.1 r2.2.2))) from rfl)).trans (by simp only [k32_m1])
set_option maxRecDepth 20000 in
theorem md_mean_b5_eq (L : Nat) (l1 : Int) (l2 : Int) (l3 : Int) (l4 : Int) (l6 : Int) (l8 : Int) (s : hh_Sv) : md_mean_b5 L l1 l2 l3 l4 l6 l8 s =
  if 0 ≤ l8 ∧ l8 < 60 then
  if 0 ≤ l8 ∧ l8 < 60 then
  (md_valueOf L l2 (s 245 l8.toNat) (s 244 l8.toNat) s).bind (fun r1 =>
  if w32 (r1.2.2 242 42) = 0 then
    md_mean_b4 L l1 l2 l3 l4 l6 (l8 + 1) r1.2.2
  else
    md_mean_b4 L l1 l2 l3 (l4 + r1.1) (l6 + 1) (l8 + 1) r1.2.2)
  else none
  else none :=
  (hh_Ev_eq pb_md_mean).trans rfl
set_option maxRecDepth 20000 in
theorem md_joins_eq (L : Nat) (a1 : Int) (a2 : Int) (a3 : Int) (a4 : Int) (a5 : Int) (s : hh_Sv) : md_joins L a1 a2 a3 a4 a5 s =
  md_joins_b1 L a1 a3 a4 a5 a2 (up (up s 242 43 0) 242 44 0) :=
  (hh_Ev_eq pb_md_joins).trans rfl
set_option maxRecDepth 20000 in
theorem md_joins_b1_eq (L : Nat) (l1 : Int) (l3 : Int) (l4 : Int) (l5 : Int) (l6 : Int) (s : hh_Sv) : md_joins_b1 L l1 l3 l4 l5 l6 s =
  if w32 l3 < w32 l6 then
    ok L 0 s
  else
    if w32 l1 = (-1) then
      md_joins_b2 L l1 l3 l4 l5 l6 s
    else
      if 0 ≤ l6 ∧ l6 < 60 then
      if w32 (s 243 l6.toNat) = w32 l1 then
        md_joins_b2 L l1 l3 l4 l5 l6 s
      else
        md_joins_b1 L l1 l3 l4 l5 (l6 + 1) s
      else none :=
  ((hh_Ev_eq pb_md_joins).trans (show _ = (
  if w32 l3 < w32 l6 then
    ok L 0 s
  else
    if w32 l1 = w32 (-1) then
      md_joins_b2 L l1 l3 l4 l5 l6 s
    else
      if 0 ≤ l6 ∧ l6 < 60 then
      if w32 (s 243 l6.toNat) = w32 l1 then
        md_joins_b2 L l1 l3 l4 l5 l6 s
      else
        md_joins_b1 L l1 l3 l4 l5 (l6 + 1) s
      else none) from rfl)).trans (by simp only [k32_m1])
set_option maxRecDepth 20000 in
theorem md_joins_b2_eq (L : Nat) (l1 : Int) (l3 : Int) (l4 : Int) (l5 : Int) (l6 : Int) (s : hh_Sv) : md_joins_b2 L l1 l3 l4 l5 l6 s =
  if 0 ≤ l6 ∧ l6 < 60 then
  if 0 ≤ l6 ∧ l6 < 60 then
  (md_behind L (s 245 l6.toNat) (s 244 l6.toNat) l4 l5 s).bind (fun r1 =>
  md_joins_b1 L l1 l3 l4 l5 (l6 + 1) (up (up r1.2.2 242 43 ((r1.2.2 242 43) + (r1.2.2 242 41))) 242 44 ((r1.2.2 242 44) + (r1.2.2 242 40))))
  else none
  else none :=
  (hh_Ev_eq pb_md_joins).trans rfl
set_option maxRecDepth 20000 in
theorem md_joined_eq (L : Nat) (a1 : Int) (a2 : Int) (a3 : Int) (a4 : Int) (s : hh_Sv) : md_joined L a1 a2 a3 a4 s =
  (md_isThrower L a1 s).bind (fun r1 =>
  if w32 r1.1 = 0 then
    ok L (-1) r1.2.2
  else
    (md_isIn L a3 1 5 r1.2.2).bind (fun r2 =>
    if w32 r2.1 = 0 then
      ok L (-1) r2.2.2
    else
      (md_isIn L a4 0 1 r2.2.2).bind (fun r3 =>
      if w32 r3.1 = 0 then
        ok L (-1) r3.2.2
      else
        (md_one L a2 r3.2.2).bind (fun r4 =>
        (md_joins L a1 0 ((r3.2.2 242 3) - 1) r4.1 a3 r4.2.2).bind (fun r5 =>
        if w32 a4 = 0 then
          ok L (r5.2.2 242 43) r5.2.2
        else
          ok L (r5.2.2 242 44) r5.2.2))))) :=
  (hh_Ev_eq pb_md_joined).trans rfl
set_option maxRecDepth 20000 in
theorem md_season_eq (L : Nat) (a1 : Int) (a2 : Int) (a3 : Int) (a4 : Int) (a5 : Int) (s : hh_Sv) : md_season L a1 a2 a3 a4 a5 s =
  (md_isRow L a1 s).bind (fun r1 =>
  if w32 r1.1 = 0 then
    ok L (-1) r1.2.2
  else
    (md_isRow L a2 r1.2.2).bind (fun r2 =>
    if w32 r2.1 = 0 then
      ok L (-1) r2.2.2
    else
      if w32 a2 < w32 a1 then
        ok L (-1) r2.2.2
      else
        (md_isIn L a4 1 5 r2.2.2).bind (fun r3 =>
        if w32 r3.1 = 0 then
          ok L (-1) r3.2.2
        else
          (md_isIn L a5 0 1 r3.2.2).bind (fun r4 =>
          if w32 r4.1 = 0 then
            ok L (-1) r4.2.2
          else
            (md_one L a3 r4.2.2).bind (fun r5 =>
            (md_joins L (-1) a1 a2 r5.1 a4 r5.2.2).bind (fun r6 =>
            if w32 a5 = 0 then
              ok L (r6.2.2 242 43) r6.2.2
            else
              ok L (r6.2.2 242 44) r6.2.2)))))) :=
  (hh_Ev_eq pb_md_season).trans rfl
set_option maxRecDepth 20000 in
theorem md_power_eq (L : Nat) (a0 : Int) (a1 : Int) (s : hh_Sv) : md_power L a0 a1 s =
  md_power_b1 L a0 a1 1 0 s :=
  (hh_Ev_eq pb_md_power).trans rfl
set_option maxRecDepth 20000 in
theorem md_power_b1_eq (L : Nat) (l0 : Int) (l1 : Int) (l2 : Int) (l4 : Int) (s : hh_Sv) : md_power_b1 L l0 l1 l2 l4 s =
  if w32 l4 < w32 l1 then
    md_power_b1 L l0 l1 (l2 * (w32 l0)) (l4 + 1) s
  else
    ok L l2 s :=
  (hh_Ev_eq pb_md_power).trans rfl
set_option maxRecDepth 20000 in
theorem md_leans_eq (L : Nat) (a1 : Int) (a2 : Int) (a3 : Int) (s : hh_Sv) : md_leans L a1 a2 a3 s =
  md_leans_b1 L a1 a2 a3 0 (up (up s 242 45 0) 242 46 0) :=
  (hh_Ev_eq pb_md_leans).trans rfl
set_option maxRecDepth 20000 in
theorem md_leans_b1_eq (L : Nat) (l1 : Int) (l2 : Int) (l3 : Int) (l4 : Int) (s : hh_Sv) : md_leans_b1 L l1 l2 l3 l4 s =
  if w32 l4 < w32 (iShl 1 l2) then
    (md_valueOf L l1 l4 l2 s).bind (fun r1 =>
    if w32 (r1.2.2 242 42) = 0 then
      md_leans_b1 L l1 l2 l3 (l4 + 1) r1.2.2
    else
      (md_bits L l4 r1.2.2).bind (fun r2 =>
      (md_power L l3 r2.1 r2.2.2).bind (fun r3 =>
      (md_bits L l4 r3.2.2).bind (fun r4 =>
      (md_power L (10 - l3) (l2 - r4.1) r4.2.2).bind (fun r5 =>
      md_leans_b1 L l1 l2 l3 (l4 + 1) (up (up r5.2.2 242 45 ((r5.2.2 242 45) + ((r3.1 * r5.1) * (tDiv (w64 r1.1) 193154)))) 242 46 ((r5.2.2 242 46) + (r3.1 * r5.1))))))))
  else
    ok L 0 s :=
  ((hh_Ev_eq pb_md_leans).trans (show _ = (
  if w32 l4 < w32 (iShl 1 l2) then
    (md_valueOf L l1 l4 l2 s).bind (fun r1 =>
    if w32 (r1.2.2 242 42) = 0 then
      md_leans_b1 L l1 l2 l3 (l4 + 1) r1.2.2
    else
      (md_bits L l4 r1.2.2).bind (fun r2 =>
      (md_power L l3 r2.1 r2.2.2).bind (fun r3 =>
      (md_bits L l4 r3.2.2).bind (fun r4 =>
      (md_power L (10 - l3) (l2 - r4.1) r4.2.2).bind (fun r5 =>
      if w64 193154 = 0 then none else
      md_leans_b1 L l1 l2 l3 (l4 + 1) (up (up r5.2.2 242 45 ((r5.2.2 242 45) + ((r3.1 * r5.1) * (tDiv (w64 r1.1) (w64 193154))))) 242 46 ((r5.2.2 242 46) + (r3.1 * r5.1))))))))
  else
    ok L 0 s) from rfl)).trans (by simp only [k64_193154, kz_193154, if_false, if_true])
set_option maxRecDepth 20000 in
theorem md_areTenths_eq (L : Nat) (a0 : Int) (a1 : Int) (s : hh_Sv) : md_areTenths L a0 a1 s =
  (md_isIn L a0 1 12 s).bind (fun r1 =>
  if w32 r1.1 = 0 then
    md_areTenths_b1 L r1.2.2
  else
    (md_isIn L a1 1 9 r1.2.2).bind (fun r2 =>
    if w32 r2.1 = 0 then
      md_areTenths_b1 L r2.2.2
    else
      ok L 1 r2.2.2)) :=
  (hh_Ev_eq pb_md_areTenths).trans rfl
set_option maxRecDepth 20000 in
theorem md_areTenths_b1_eq (L : Nat) (s : hh_Sv) : md_areTenths_b1 L s =
  ok L 0 s :=
  (hh_Ev_eq pb_md_areTenths).trans rfl
set_option maxRecDepth 20000 in
theorem md_lean_eq (L : Nat) (a1 : Int) (a2 : Int) (a3 : Int) (a4 : Int) (s : hh_Sv) : md_lean L a1 a2 a3 a4 s =
  (md_isMeasure L a1 s).bind (fun r1 =>
  if w32 r1.1 = 0 then
    ok L (-1000000000000) r1.2.2
  else
    (md_areTenths L a2 a3 r1.2.2).bind (fun r2 =>
    if w32 r2.1 = 0 then
      ok L (-1000000000000) r2.2.2
    else
      (md_isIn L a4 0 1 r2.2.2).bind (fun r3 =>
      if w32 r3.1 = 0 then
        ok L (-1000000000000) r3.2.2
      else
        (md_leans L a1 a2 a3 r3.2.2).bind (fun r4 =>
        if w32 (lCmp (r4.2.2 242 46) 0) = 0 then
          ok L (-1000000000000) r4.2.2
        else
          (md_is L (r4.2.2 242 45) ((r4.2.2 242 46) * 27720) r4.2.2).bind (fun r5 =>
          (md_tells L a4 r5.2.2).bind (fun r6 =>
          ok L r6.1 r6.2.2)))))) :=
  (hh_Ev_eq pb_md_lean).trans rfl
set_option maxRecDepth 20000 in
theorem md_right_eq (L : Nat) (a1 : Int) (a2 : Int) (a3 : Int) (a4 : Int) (s : hh_Sv) : md_right L a1 a2 a3 a4 s =
  (md_isRow L a1 s).bind (fun r1 =>
  if w32 r1.1 = 0 then
    ok L (-1000000000000) r1.2.2
  else
    (md_isMeasure L a2 r1.2.2).bind (fun r2 =>
    if w32 r2.1 = 0 then
      ok L (-1000000000000) r2.2.2
    else
      if 0 ≤ a1 ∧ a1 < 60 then
      (md_areTenths L (r2.2.2 244 a1.toNat) a3 r2.2.2).bind (fun r3 =>
      if w32 r3.1 = 0 then
        ok L (-1000000000000) r3.2.2
      else
        (md_isIn L a4 0 1 r3.2.2).bind (fun r4 =>
        if w32 r4.1 = 0 then
          ok L (-1000000000000) r4.2.2
        else
          if 0 ≤ a1 ∧ a1 < 60 then
          (md_leans L a2 (r4.2.2 244 a1.toNat) a3 r4.2.2).bind (fun r5 =>
          if 0 ≤ a1 ∧ a1 < 60 then
          if 0 ≤ a1 ∧ a1 < 60 then
          (md_valueOf L a2 (r5.2.2 245 a1.toNat) (r5.2.2 244 a1.toNat) r5.2.2).bind (fun r6 =>
          if w32 (r6.2.2 242 42) = 0 then
            ok L (-1000000000000) r6.2.2
          else
            (md_is L (((tDiv (w64 r6.1) 193154) * (r6.2.2 242 46)) - (r6.2.2 242 45)) ((r6.2.2 242 46) * 27720) r6.2.2).bind (fun r7 =>
            (md_tells L a4 r7.2.2).bind (fun r8 =>
            ok L r8.1 r8.2.2)))
          else none
          else none)
          else none))
      else none)) :=
  ((hh_Ev_eq pb_md_right).trans (show _ = (
  (md_isRow L a1 s).bind (fun r1 =>
  if w32 r1.1 = 0 then
    ok L (-1000000000000) r1.2.2
  else
    (md_isMeasure L a2 r1.2.2).bind (fun r2 =>
    if w32 r2.1 = 0 then
      ok L (-1000000000000) r2.2.2
    else
      if 0 ≤ a1 ∧ a1 < 60 then
      (md_areTenths L (r2.2.2 244 a1.toNat) a3 r2.2.2).bind (fun r3 =>
      if w32 r3.1 = 0 then
        ok L (-1000000000000) r3.2.2
      else
        (md_isIn L a4 0 1 r3.2.2).bind (fun r4 =>
        if w32 r4.1 = 0 then
          ok L (-1000000000000) r4.2.2
        else
          if 0 ≤ a1 ∧ a1 < 60 then
          (md_leans L a2 (r4.2.2 244 a1.toNat) a3 r4.2.2).bind (fun r5 =>
          if 0 ≤ a1 ∧ a1 < 60 then
          if 0 ≤ a1 ∧ a1 < 60 then
          (md_valueOf L a2 (r5.2.2 245 a1.toNat) (r5.2.2 244 a1.toNat) r5.2.2).bind (fun r6 =>
          if w32 (r6.2.2 242 42) = 0 then
            ok L (-1000000000000) r6.2.2
          else
            if w64 193154 = 0 then none else
            (md_is L (((tDiv (w64 r6.1) (w64 193154)) * (r6.2.2 242 46)) - (r6.2.2 242 45)) ((r6.2.2 242 46) * 27720) r6.2.2).bind (fun r7 =>
            (md_tells L a4 r7.2.2).bind (fun r8 =>
            ok L r8.1 r8.2.2)))
          else none
          else none)
          else none))
      else none))) from rfl)).trans (by simp only [k64_193154, kz_193154, if_false, if_true])
set_option maxRecDepth 20000 in
theorem md_shuffle_eq (L : Nat) (a1 : Int) (a2 : Int) (a3 : Int) (s : hh_Sv) : md_shuffle L a1 a2 a3 s =
  (md_isRow L a1 s).bind (fun r1 =>
  if w32 r1.1 = 0 then
    ok L (-1) r1.2.2
  else
    (md_isMeasure L a2 r1.2.2).bind (fun r2 =>
    if w32 r2.1 = 0 then
      ok L (-1) r2.2.2
    else
      (md_isIn L a3 0 1 r2.2.2).bind (fun r3 =>
      if w32 r3.1 = 0 then
        ok L (-1) r3.2.2
      else
        if 0 ≤ a1 ∧ a1 < 60 then
        if 16 < w32 (r3.2.2 244 a1.toNat) then
          ok L (-1) r3.2.2
        else
          if 0 ≤ a1 ∧ a1 < 60 then
          if 0 ≤ a1 ∧ a1 < 60 then
          (md_valueOf L a2 (r3.2.2 245 a1.toNat) (r3.2.2 244 a1.toNat) r3.2.2).bind (fun r4 =>
          if w32 (r4.2.2 242 42) = 0 then
            ok L (-1) r4.2.2
          else
            if 0 ≤ a1 ∧ a1 < 60 then
            (md_bits L (r4.2.2 245 a1.toNat) r4.2.2).bind (fun r5 =>
            md_shuffle_b4 L a2 a3 (r3.2.2 244 a1.toNat) r4.1 r5.1 0 0 0 r5.2.2)
            else none)
          else none
          else none
        else none))) :=
  ((hh_Ev_eq pb_md_shuffle).trans (show _ = (
  (md_isRow L a1 s).bind (fun r1 =>
  if w32 r1.1 = 0 then
    ok L (-1) r1.2.2
  else
    (md_isMeasure L a2 r1.2.2).bind (fun r2 =>
    if w32 r2.1 = 0 then
      ok L (-1) r2.2.2
    else
      (md_isIn L a3 0 1 r2.2.2).bind (fun r3 =>
      if w32 r3.1 = 0 then
        ok L (-1) r3.2.2
      else
        if 0 ≤ a1 ∧ a1 < 60 then
        if w32 16 < w32 (r3.2.2 244 a1.toNat) then
          ok L (-1) r3.2.2
        else
          if 0 ≤ a1 ∧ a1 < 60 then
          if 0 ≤ a1 ∧ a1 < 60 then
          (md_valueOf L a2 (r3.2.2 245 a1.toNat) (r3.2.2 244 a1.toNat) r3.2.2).bind (fun r4 =>
          if w32 (r4.2.2 242 42) = 0 then
            ok L (-1) r4.2.2
          else
            if 0 ≤ a1 ∧ a1 < 60 then
            (md_bits L (r4.2.2 245 a1.toNat) r4.2.2).bind (fun r5 =>
            md_shuffle_b4 L a2 a3 (r3.2.2 244 a1.toNat) r4.1 r5.1 0 0 0 r5.2.2)
            else none)
          else none
          else none
        else none)))) from rfl)).trans (by simp only [k32_16])
set_option maxRecDepth 20000 in
theorem md_shuffle_b4_eq (L : Nat) (l2 : Int) (l3 : Int) (l4 : Int) (l5 : Int) (l7 : Int) (l8 : Int) (l10 : Int) (l12 : Int) (s : hh_Sv) : md_shuffle_b4 L l2 l3 l4 l5 l7 l8 l10 l12 s =
  if w32 l12 < w32 (iShl 1 l4) then
    (md_bits L l12 s).bind (fun r1 =>
    if w32 r1.1 = w32 l7 then
      (md_valueOf L l2 l12 l4 r1.2.2).bind (fun r2 =>
      if w32 (r2.2.2 242 42) = 0 then
        md_shuffle_b4 L l2 l3 l4 l5 l7 l8 l10 (l12 + 1) r2.2.2
      else
        if w32 (lCmp r2.1 l5) < 0 then
          md_shuffle_b8 L l2 l3 l4 l5 l7 (l10 + 1) l12 l8 0 r2.2.2
        else
          md_shuffle_b8 L l2 l3 l4 l5 l7 (l10 + 1) l12 l8 1 r2.2.2)
    else
      md_shuffle_b4 L l2 l3 l4 l5 l7 l8 l10 (l12 + 1) r1.2.2)
  else
    if w32 l3 = 0 then
      ok L l8 s
    else
      ok L l10 s :=
  (hh_Ev_eq pb_md_shuffle).trans rfl
set_option maxRecDepth 20000 in
theorem md_shuffle_b8_eq (L : Nat) (l2 : Int) (l3 : Int) (l4 : Int) (l5 : Int) (l7 : Int) (l10 : Int) (l12 : Int) (k0 : Int) (k1 : Int) (s : hh_Sv) : md_shuffle_b8 L l2 l3 l4 l5 l7 l10 l12 k0 k1 s =
  (md_one L k1 s).bind (fun r1 =>
  md_shuffle_b4 L l2 l3 l4 l5 l7 (k0 + (w32 r1.1)) l10 (l12 + 1) r1.2.2) :=
  (hh_Ev_eq pb_md_shuffle).trans rfl
set_option maxRecDepth 20000 in
theorem md_choose_eq (L : Nat) (a1 : Int) (a2 : Int) (s : hh_Sv) : md_choose L a1 a2 s =
  md_choose_b1 L a1 a2 0 s :=
  (hh_Ev_eq pb_md_choose).trans rfl
set_option maxRecDepth 20000 in
theorem md_choose_b1_eq (L : Nat) (l1 : Int) (l2 : Int) (l3 : Int) (s : hh_Sv) : md_choose_b1 L l1 l2 l3 s =
  if w32 l3 < 61 then
    if w32 (s 242 50) = 0 then
      md_choose_b2 L l1 l2 l3 0 s
    else
      md_choose_b7 L l1 l2 s
  else
    md_choose_b7 L l1 l2 s :=
  ((hh_Ev_eq pb_md_choose).trans (show _ = (
  if w32 l3 < w32 61 then
    if w32 (s 242 50) = 0 then
      md_choose_b2 L l1 l2 l3 0 s
    else
      md_choose_b7 L l1 l2 s
  else
    md_choose_b7 L l1 l2 s) from rfl)).trans (by simp only [k32_61])
set_option maxRecDepth 20000 in
theorem md_choose_b2_eq (L : Nat) (l1 : Int) (l2 : Int) (l3 : Int) (l4 : Int) (s : hh_Sv) : md_choose_b2 L l1 l2 l3 l4 s =
  if w32 l3 < w32 l4 then
    md_choose_b1 L l1 l2 (l3 + 1) s
  else
    if w32 l4 = 0 then
      md_choose_b5 L l1 l2 l3 l4 ((64 * l3) + l4) 1 s
    else
      if w32 l4 = w32 l3 then
        md_choose_b5 L l1 l2 l3 l4 ((64 * l3) + l4) 1 s
      else
        if 0 ≤ ((64 * (l3 - 1)) + l4) - 1 ∧ ((64 * (l3 - 1)) + l4) - 1 < 4096 then
        if 0 ≤ (64 * (l3 - 1)) + l4 ∧ (64 * (l3 - 1)) + l4 < 4096 then
        md_choose_b5 L l1 l2 l3 l4 ((64 * l3) + l4) ((s 268 ((((64 * (l3 - 1)) + l4) - 1).toNat)) + (s 268 (((64 * (l3 - 1)) + l4).toNat))) s
        else none
        else none :=
  (hh_Ev_eq pb_md_choose).trans rfl
set_option maxRecDepth 20000 in
theorem md_choose_b5_eq (L : Nat) (l1 : Int) (l2 : Int) (l3 : Int) (l4 : Int) (k1 : Int) (k2 : Int) (s : hh_Sv) : md_choose_b5 L l1 l2 l3 l4 k1 k2 s =
  if 0 ≤ k1 ∧ k1 < 4096 then
  md_choose_b2 L l1 l2 l3 (l4 + 1) (up s 268 k1.toNat k2)
  else none :=
  (hh_Ev_eq pb_md_choose).trans rfl
set_option maxRecDepth 20000 in
theorem md_choose_b7_eq (L : Nat) (l1 : Int) (l2 : Int) (s : hh_Sv) : md_choose_b7 L l1 l2 s =
  if w32 l2 < 0 then
    ok L 0 (up s 242 50 1)
  else
    if w32 l1 < w32 l2 then
      ok L 0 (up s 242 50 1)
    else
      if 0 ≤ (64 * l1) + l2 ∧ (64 * l1) + l2 < 4096 then
      ok L (s 268 (((64 * l1) + l2).toNat)) (up s 242 50 1)
      else none :=
  (hh_Ev_eq pb_md_choose).trans rfl
set_option maxRecDepth 20000 in
theorem md_pairWays_eq (L : Nat) (a1 : Int) (a2 : Int) (a3 : Int) (s : hh_Sv) : md_pairWays L a1 a2 a3 s =
  if w32 a2 = 0 then
    if w32 a3 = 0 then
      md_pairWays_b2 L 1 s
    else
      md_pairWays_b2 L 0 s
  else
    if w32 (a2 - a3) < 1 then
      ok L 0 s
    else
      (md_choose L (a2 - 1) ((a2 - a3) - 1) s).bind (fun r1 =>
      (md_choose L ((a1 - a2) + 1) (a2 - a3) r1.2.2).bind (fun r2 =>
      ok L (r1.1 * r2.1) r2.2.2)) :=
  ((hh_Ev_eq pb_md_pairWays).trans (show _ = (
  if w32 a2 = 0 then
    if w32 a3 = 0 then
      md_pairWays_b2 L 1 s
    else
      md_pairWays_b2 L 0 s
  else
    if w32 (a2 - a3) < w32 1 then
      ok L 0 s
    else
      (md_choose L (a2 - 1) ((a2 - a3) - 1) s).bind (fun r1 =>
      (md_choose L ((a1 - a2) + 1) (a2 - a3) r1.2.2).bind (fun r2 =>
      ok L (r1.1 * r2.1) r2.2.2))) from rfl)).trans (by simp only [k32_1])
set_option maxRecDepth 20000 in
theorem md_pairWays_b2_eq (L : Nat) (k0 : Int) (s : hh_Sv) : md_pairWays_b2 L k0 s =
  (md_one L k0 s).bind (fun r1 =>
  ok L (w32 r1.1) r1.2.2) :=
  (hh_Ev_eq pb_md_pairWays).trans rfl
set_option maxRecDepth 20000 in
theorem md_togethers_eq (L : Nat) (a1 : Int) (s : hh_Sv) : md_togethers L a1 s =
  md_togethers_b1 L a1 0 (up (up (up s 242 51 0) 242 52 0) 242 53 1) :=
  (hh_Ev_eq pb_md_togethers).trans rfl
set_option maxRecDepth 20000 in
theorem md_togethers_b1_eq (L : Nat) (l1 : Int) (l2 : Int) (s : hh_Sv) : md_togethers_b1 L l1 l2 s =
  if w32 l2 < 1400 then
    if w32 l2 = 0 then
      md_togethers_b3 L l1 l2 l2 1 s
    else
      md_togethers_b3 L l1 l2 l2 0 s
  else
    md_togethers_b5 L l1 0 s :=
  ((hh_Ev_eq pb_md_togethers).trans (show _ = (
  if w32 l2 < w32 1400 then
    if w32 l2 = 0 then
      md_togethers_b3 L l1 l2 l2 1 s
    else
      md_togethers_b3 L l1 l2 l2 0 s
  else
    md_togethers_b5 L l1 0 s) from rfl)).trans (by simp only [k32_1400])
set_option maxRecDepth 20000 in
theorem md_togethers_b3_eq (L : Nat) (l1 : Int) (l2 : Int) (k1 : Int) (k2 : Int) (s : hh_Sv) : md_togethers_b3 L l1 l2 k1 k2 s =
  if 0 ≤ k1 ∧ k1 < 1400 then
  md_togethers_b1 L l1 (l2 + 1) (up s 269 k1.toNat k2)
  else none :=
  (hh_Ev_eq pb_md_togethers).trans rfl
set_option maxRecDepth 20000 in
theorem md_togethers_b5_eq (L : Nat) (l1 : Int) (l2 : Int) (s : hh_Sv) : md_togethers_b5 L l1 l2 s =
  if w32 l2 < w32 (s 242 3) then
    if 0 ≤ l2 ∧ l2 < 60 then
    if w32 (s 243 l2.toNat) = w32 l1 then
      if 0 ≤ l2 ∧ l2 < 60 then
      if w32 (s 244 l2.toNat) = 0 then
        md_togethers_b5 L l1 (l2 + 1) s
      else
        if 0 ≤ l2 ∧ l2 < 60 then
        if 0 ≤ l2 ∧ l2 < 60 then
        (md_bits L (s 245 l2.toNat) s).bind (fun r1 =>
        (md_choose L (s 244 l2.toNat) r1.1 r1.2.2).bind (fun r2 =>
        if w64 r2.1 = 0 then none else
        if 0 < w32 (lCmp (r2.2.2 242 53) (tDiv 4000000000000000000 (w64 r2.1))) then
          ok L 0 r2.2.2
        else
          if 0 ≤ l2 ∧ l2 < 60 then
          (md_pairsIn L (r2.2.2 245 l2.toNat) (s 244 l2.toNat) 1 1 (up r2.2.2 242 53 ((r2.2.2 242 53) * r2.1))).bind (fun r3 =>
          (jma_max L 0 (r1.1 - 1) (up r3.2.2 242 51 ((r2.2.2 242 51) + r3.1))).bind (fun r4 =>
          md_togethers_b8 L l1 l2 (s 244 l2.toNat) r1.1 r4.1 0 r4.2.2))
          else none))
        else none
        else none
      else none
    else
      md_togethers_b5 L l1 (l2 + 1) s
    else none
  else
    ok L 1 s :=
  ((hh_Ev_eq pb_md_togethers).trans (show _ = (
  if w32 l2 < w32 (s 242 3) then
    if 0 ≤ l2 ∧ l2 < 60 then
    if w32 (s 243 l2.toNat) = w32 l1 then
      if 0 ≤ l2 ∧ l2 < 60 then
      if w32 (s 244 l2.toNat) = 0 then
        md_togethers_b5 L l1 (l2 + 1) s
      else
        if 0 ≤ l2 ∧ l2 < 60 then
        if 0 ≤ l2 ∧ l2 < 60 then
        (md_bits L (s 245 l2.toNat) s).bind (fun r1 =>
        (md_choose L (s 244 l2.toNat) r1.1 r1.2.2).bind (fun r2 =>
        if w64 r2.1 = 0 then none else
        if 0 < w32 (lCmp (r2.2.2 242 53) (tDiv (w64 4000000000000000000) (w64 r2.1))) then
          ok L 0 r2.2.2
        else
          if 0 ≤ l2 ∧ l2 < 60 then
          (md_pairsIn L (r2.2.2 245 l2.toNat) (s 244 l2.toNat) 1 1 (up r2.2.2 242 53 ((r2.2.2 242 53) * r2.1))).bind (fun r3 =>
          (jma_max L 0 (r1.1 - 1) (up r3.2.2 242 51 ((r2.2.2 242 51) + r3.1))).bind (fun r4 =>
          md_togethers_b8 L l1 l2 (s 244 l2.toNat) r1.1 r4.1 0 r4.2.2))
          else none))
        else none
        else none
      else none
    else
      md_togethers_b5 L l1 (l2 + 1) s
    else none
  else
    ok L 1 s) from rfl)).trans (by simp only [k64_4000000000000000000])
set_option maxRecDepth 20000 in
theorem md_togethers_b8_eq (L : Nat) (l1 : Int) (l2 : Int) (l3 : Int) (l4 : Int) (l7 : Int) (l8 : Int) (s : hh_Sv) : md_togethers_b8 L l1 l2 l3 l4 l7 l8 s =
  if w32 ((s 242 52) + l7) < w32 l8 then
    md_togethers_b10 L l1 l2 l3 l4 l7 0 s
  else
    if 0 ≤ l8 ∧ l8 < 1400 then
    md_togethers_b8 L l1 l2 l3 l4 l7 (l8 + 1) (up s 270 l8.toNat 0)
    else none :=
  (hh_Ev_eq pb_md_togethers).trans rfl
set_option maxRecDepth 20000 in
theorem md_togethers_b10_eq (L : Nat) (l1 : Int) (l2 : Int) (l3 : Int) (l4 : Int) (l7 : Int) (l8 : Int) (s : hh_Sv) : md_togethers_b10 L l1 l2 l3 l4 l7 l8 s =
  if w32 (s 242 52) < w32 l8 then
    md_togethers_b14 L l1 l2 0 (up s 242 52 ((s 242 52) + l7))
  else
    md_togethers_b11 L l1 l2 l3 l4 l7 l8 0 s :=
  (hh_Ev_eq pb_md_togethers).trans rfl
set_option maxRecDepth 20000 in
theorem md_togethers_b11_eq (L : Nat) (l1 : Int) (l2 : Int) (l3 : Int) (l4 : Int) (l7 : Int) (l8 : Int) (l9 : Int) (s : hh_Sv) : md_togethers_b11 L l1 l2 l3 l4 l7 l8 l9 s =
  if w32 l7 < w32 l9 then
    md_togethers_b10 L l1 l2 l3 l4 l7 (l8 + 1) s
  else
    if 0 ≤ l8 ∧ l8 < 1400 then
    if 0 < w32 (lCmp (s 269 l8.toNat) 0) then
      if 0 ≤ l8 + l9 ∧ l8 + l9 < 1400 then
      if 0 ≤ l8 ∧ l8 < 1400 then
      (md_pairWays L l3 l4 l9 s).bind (fun r1 =>
      if 0 ≤ l8 + l9 ∧ l8 + l9 < 1400 then
      md_togethers_b11 L l1 l2 l3 l4 l7 l8 (l9 + 1) (up r1.2.2 270 ((l8 + l9).toNat) ((s 270 ((l8 + l9).toNat)) + ((s 269 l8.toNat) * r1.1)))
      else none)
      else none
      else none
    else
      md_togethers_b10 L l1 l2 l3 l4 l7 (l8 + 1) s
    else none :=
  (hh_Ev_eq pb_md_togethers).trans rfl
set_option maxRecDepth 20000 in
theorem md_togethers_b14_eq (L : Nat) (l1 : Int) (l2 : Int) (l8 : Int) (s : hh_Sv) : md_togethers_b14 L l1 l2 l8 s =
  if w32 (s 242 52) < w32 l8 then
    md_togethers_b5 L l1 (l2 + 1) s
  else
    if 0 ≤ l8 ∧ l8 < 1400 then
    if 0 ≤ l8 ∧ l8 < 1400 then
    md_togethers_b14 L l1 l2 (l8 + 1) (up s 269 l8.toNat (s 270 l8.toNat))
    else none
    else none :=
  (hh_Ev_eq pb_md_togethers).trans rfl
set_option maxRecDepth 20000 in
theorem md_togetherLeast_eq (L : Nat) (s : hh_Sv) : md_togetherLeast L s =
  md_togetherLeast_b1 L 0 (s 242 51) s :=
  (hh_Ev_eq pb_md_togetherLeast).trans rfl
set_option maxRecDepth 20000 in
theorem md_togetherLeast_b1_eq (L : Nat) (l1 : Int) (l3 : Int) (s : hh_Sv) : md_togetherLeast_b1 L l1 l3 s =
  if w32 (s 242 52) < w32 l3 then
    ok L l1 s
  else
    if 0 ≤ l3 ∧ l3 < 1400 then
    md_togetherLeast_b1 L (l1 + (s 269 l3.toNat)) (l3 + 1) s
    else none :=
  (hh_Ev_eq pb_md_togetherLeast).trans rfl
set_option maxRecDepth 20000 in
theorem md_together_eq (L : Nat) (a1 : Int) (a2 : Int) (s : hh_Sv) : md_together L a1 a2 s =
  (md_isThrower L a1 s).bind (fun r1 =>
  if w32 r1.1 = 0 then
    ok L (-1) r1.2.2
  else
    (md_isIn L a2 0 2 r1.2.2).bind (fun r2 =>
    if w32 r2.1 = 0 then
      ok L (-1) r2.2.2
    else
      (md_togethers L a1 r2.2.2).bind (fun r3 =>
      if w32 r3.1 = 0 then
        ok L (-1) r3.2.2
      else
        if w32 a2 = 0 then
          (md_togetherLeast L r3.2.2).bind (fun r4 =>
          ok L r4.1 r4.2.2)
        else
          if w32 a2 = 1 then
            ok L (r3.2.2 242 53) r3.2.2
          else
            ok L (w32 (r3.2.2 242 51)) r3.2.2))) :=
  ((hh_Ev_eq pb_md_together).trans (show _ = (
  (md_isThrower L a1 s).bind (fun r1 =>
  if w32 r1.1 = 0 then
    ok L (-1) r1.2.2
  else
    (md_isIn L a2 0 2 r1.2.2).bind (fun r2 =>
    if w32 r2.1 = 0 then
      ok L (-1) r2.2.2
    else
      (md_togethers L a1 r2.2.2).bind (fun r3 =>
      if w32 r3.1 = 0 then
        ok L (-1) r3.2.2
      else
        if w32 a2 = 0 then
          (md_togetherLeast L r3.2.2).bind (fun r4 =>
          ok L r4.1 r4.2.2)
        else
          if w32 a2 = w32 1 then
            ok L (r3.2.2 242 53) r3.2.2
          else
            ok L (w32 (r3.2.2 242 51)) r3.2.2)))) from rfl)).trans (by simp only [k32_1])
set_option maxRecDepth 20000 in
theorem md_streak_eq (L : Nat) (a1 : Int) (a2 : Int) (s : hh_Sv) : md_streak L a1 a2 s =
  (md_isIn L a1 1 60 s).bind (fun r1 =>
  if w32 r1.1 = 0 then
    ok L (-1) r1.2.2
  else
    (md_isIn L a2 1 60 r1.2.2).bind (fun r2 =>
    if w32 r2.1 = 0 then
      ok L (-1) r2.2.2
    else
      md_streak_b3 L a1 a2 0 r2.2.2)) :=
  (hh_Ev_eq pb_md_streak).trans rfl
set_option maxRecDepth 20000 in
theorem md_streak_b3_eq (L : Nat) (l1 : Int) (l2 : Int) (l3 : Int) (s : hh_Sv) : md_streak_b3 L l1 l2 l3 s =
  if w32 l3 < 61 then
    if w32 l3 = 0 then
      md_streak_b5 L l1 l2 l3 l3 1 s
    else
      md_streak_b5 L l1 l2 l3 l3 0 s
  else
    md_streak_b7 L l1 l2 0 0 s :=
  ((hh_Ev_eq pb_md_streak).trans (show _ = (
  if w32 l3 < w32 61 then
    if w32 l3 = 0 then
      md_streak_b5 L l1 l2 l3 l3 1 s
    else
      md_streak_b5 L l1 l2 l3 l3 0 s
  else
    md_streak_b7 L l1 l2 0 0 s) from rfl)).trans (by simp only [k32_61])
set_option maxRecDepth 20000 in
theorem md_streak_b5_eq (L : Nat) (l1 : Int) (l2 : Int) (l3 : Int) (k1 : Int) (k2 : Int) (s : hh_Sv) : md_streak_b5 L l1 l2 l3 k1 k2 s =
  if 0 ≤ k1 ∧ k1 < 61 then
  md_streak_b3 L l1 l2 (l3 + 1) (up s 271 k1.toNat k2)
  else none :=
  (hh_Ev_eq pb_md_streak).trans rfl
set_option maxRecDepth 20000 in
theorem md_streak_b7_eq (L : Nat) (l1 : Int) (l2 : Int) (l3 : Int) (l5 : Int) (s : hh_Sv) : md_streak_b7 L l1 l2 l3 l5 s =
  if w32 l5 < w32 l1 then
    md_streak_b8 L l1 l2 (l3 * 2) l5 0 0 s
  else
    ok L l3 s :=
  (hh_Ev_eq pb_md_streak).trans rfl
set_option maxRecDepth 20000 in
theorem md_streak_b8_eq (L : Nat) (l1 : Int) (l2 : Int) (l3 : Int) (l5 : Int) (l6 : Int) (l8 : Int) (s : hh_Sv) : md_streak_b8 L l1 l2 l3 l5 l6 l8 s =
  if w32 l8 < w32 l2 then
    if 0 ≤ l8 ∧ l8 < 61 then
    md_streak_b8 L l1 l2 l3 l5 (l6 + (s 271 l8.toNat)) (l8 + 1) s
    else none
  else
    if 0 ≤ l2 - 1 ∧ l2 - 1 < 61 then
    md_streak_b10 L l1 l2 (l3 + (s 271 ((l2 - 1).toNat))) l5 l6 1 s
    else none :=
  (hh_Ev_eq pb_md_streak).trans rfl
set_option maxRecDepth 20000 in
theorem md_streak_b10_eq (L : Nat) (l1 : Int) (l2 : Int) (l3 : Int) (l5 : Int) (l6 : Int) (l8 : Int) (s : hh_Sv) : md_streak_b10 L l1 l2 l3 l5 l6 l8 s =
  if w32 l8 < w32 l2 then
    if 0 ≤ l8 - 1 ∧ l8 - 1 < 61 then
    if 0 ≤ l8 ∧ l8 < 61 then
    md_streak_b10 L l1 l2 l3 l5 l6 (l8 + 1) (up s 272 l8.toNat (s 271 ((l8 - 1).toNat)))
    else none
    else none
  else
    if 0 ≤ 0 ∧ 0 < 61 then
    md_streak_b12 L l1 l2 l3 l5 0 (up s 272 0 l6)
    else none :=
  (hh_Ev_eq pb_md_streak).trans rfl
set_option maxRecDepth 20000 in
theorem md_streak_b12_eq (L : Nat) (l1 : Int) (l2 : Int) (l3 : Int) (l5 : Int) (l8 : Int) (s : hh_Sv) : md_streak_b12 L l1 l2 l3 l5 l8 s =
  if w32 l8 < w32 l2 then
    if 0 ≤ l8 ∧ l8 < 61 then
    if 0 ≤ l8 ∧ l8 < 61 then
    md_streak_b12 L l1 l2 l3 l5 (l8 + 1) (up s 271 l8.toNat (s 272 l8.toNat))
    else none
    else none
  else
    md_streak_b7 L l1 l2 l3 (l5 + 1) s :=
  (hh_Ev_eq pb_md_streak).trans rfl
set_option maxRecDepth 20000 in
theorem md_tries_eq (L : Nat) (a1 : Int) (a2 : Int) (a3 : Int) (s : hh_Sv) : md_tries L a1 a2 a3 s =
  (jma_min L 10 (a2 + a3) s).bind (fun r1 =>
  (jma_max L 0 (a2 - a3) r1.2.2).bind (fun r2 =>
  md_tries_b1 L a1 a2 r1.1 r2.1 0 r2.2.2)) :=
  (hh_Ev_eq pb_md_tries).trans rfl
set_option maxRecDepth 20000 in
theorem md_tries_b1_eq (L : Nat) (l1 : Int) (l2 : Int) (l4 : Int) (l5 : Int) (l6 : Int) (s : hh_Sv) : md_tries_b1 L l1 l2 l4 l5 l6 s =
  if w32 l6 < 13 then
    if w32 l6 = 0 then
      md_tries_b3 L l1 l2 l4 l5 l6 l6 (w32 (10 - l2)) s
    else
      md_tries_b3 L l1 l2 l4 l5 l6 l6 0 s
  else
    md_tries_b7 L l1 l4 l5 1 s :=
  ((hh_Ev_eq pb_md_tries).trans (show _ = (
  if w32 l6 < w32 13 then
    if w32 l6 = 0 then
      md_tries_b3 L l1 l2 l4 l5 l6 l6 (w32 (10 - l2)) s
    else
      md_tries_b3 L l1 l2 l4 l5 l6 l6 0 s
  else
    md_tries_b7 L l1 l4 l5 1 s) from rfl)).trans (by simp only [k32_13])
set_option maxRecDepth 20000 in
theorem md_tries_b3_eq (L : Nat) (l1 : Int) (l2 : Int) (l4 : Int) (l5 : Int) (l6 : Int) (k1 : Int) (k2 : Int) (s : hh_Sv) : md_tries_b3 L l1 l2 l4 l5 l6 k1 k2 s =
  if 0 ≤ k1 ∧ k1 < 13 then
  if w32 l6 = 0 then
    md_tries_b5 L l1 l2 l4 l5 l6 l6 (w32 l2) (up s 273 k1.toNat k2)
  else
    md_tries_b5 L l1 l2 l4 l5 l6 l6 0 (up s 273 k1.toNat k2)
  else none :=
  (hh_Ev_eq pb_md_tries).trans rfl
set_option maxRecDepth 20000 in
theorem md_tries_b5_eq (L : Nat) (l1 : Int) (l2 : Int) (l4 : Int) (l5 : Int) (l6 : Int) (k1 : Int) (k2 : Int) (s : hh_Sv) : md_tries_b5 L l1 l2 l4 l5 l6 k1 k2 s =
  if 0 ≤ k1 ∧ k1 < 13 then
  md_tries_b1 L l1 l2 l4 l5 (l6 + 1) (up s 274 k1.toNat k2)
  else none :=
  (hh_Ev_eq pb_md_tries).trans rfl
set_option maxRecDepth 20000 in
theorem md_tries_b7_eq (L : Nat) (l1 : Int) (l4 : Int) (l5 : Int) (l6 : Int) (s : hh_Sv) : md_tries_b7 L l1 l4 l5 l6 s =
  if w32 l6 < w32 l1 then
    md_tries_b8 L l1 l4 l5 l6 0 s
  else
    ok L 0 s :=
  (hh_Ev_eq pb_md_tries).trans rfl
set_option maxRecDepth 20000 in
theorem md_tries_b8_eq (L : Nat) (l1 : Int) (l4 : Int) (l5 : Int) (l6 : Int) (l7 : Int) (s : hh_Sv) : md_tries_b8 L l1 l4 l5 l6 l7 s =
  if w32 l7 < 13 then
    if 0 ≤ l7 ∧ l7 < 13 then
    if 0 ≤ l7 ∧ l7 < 13 then
    if 0 ≤ l7 ∧ l7 < 13 then
    if 0 ≤ l7 ∧ l7 < 13 then
    if 0 < w32 l7 then
      if 0 ≤ l7 - 1 ∧ l7 - 1 < 13 then
      md_tries_b10 L l1 l4 l5 l6 l7 l7 ((s 273 l7.toNat) * (w32 l5)) ((s 274 ((l7 - 1).toNat)) * (w32 l4)) (up s 275 l7.toNat (((s 273 l7.toNat) * (w32 (10 - l5))) + ((s 274 l7.toNat) * (w32 (10 - l4)))))
      else none
    else
      md_tries_b10 L l1 l4 l5 l6 l7 l7 ((s 273 l7.toNat) * (w32 l5)) 0 (up s 275 l7.toNat (((s 273 l7.toNat) * (w32 (10 - l5))) + ((s 274 l7.toNat) * (w32 (10 - l4)))))
    else none
    else none
    else none
    else none
  else
    md_tries_b12 L l1 l4 l5 l6 0 s :=
  ((hh_Ev_eq pb_md_tries).trans (show _ = (
  if w32 l7 < w32 13 then
    if 0 ≤ l7 ∧ l7 < 13 then
    if 0 ≤ l7 ∧ l7 < 13 then
    if 0 ≤ l7 ∧ l7 < 13 then
    if 0 ≤ l7 ∧ l7 < 13 then
    if 0 < w32 l7 then
      if 0 ≤ l7 - 1 ∧ l7 - 1 < 13 then
      md_tries_b10 L l1 l4 l5 l6 l7 l7 ((s 273 l7.toNat) * (w32 l5)) ((s 274 ((l7 - 1).toNat)) * (w32 l4)) (up s 275 l7.toNat (((s 273 l7.toNat) * (w32 (10 - l5))) + ((s 274 l7.toNat) * (w32 (10 - l4)))))
      else none
    else
      md_tries_b10 L l1 l4 l5 l6 l7 l7 ((s 273 l7.toNat) * (w32 l5)) 0 (up s 275 l7.toNat (((s 273 l7.toNat) * (w32 (10 - l5))) + ((s 274 l7.toNat) * (w32 (10 - l4)))))
    else none
    else none
    else none
    else none
  else
    md_tries_b12 L l1 l4 l5 l6 0 s) from rfl)).trans (by simp only [k32_13])
set_option maxRecDepth 20000 in
theorem md_tries_b10_eq (L : Nat) (l1 : Int) (l4 : Int) (l5 : Int) (l6 : Int) (l7 : Int) (k1 : Int) (k2 : Int) (k3 : Int) (s : hh_Sv) : md_tries_b10 L l1 l4 l5 l6 l7 k1 k2 k3 s =
  if 0 ≤ k1 ∧ k1 < 13 then
  md_tries_b8 L l1 l4 l5 l6 (l7 + 1) (up s 276 k1.toNat (k2 + k3))
  else none :=
  (hh_Ev_eq pb_md_tries).trans rfl
set_option maxRecDepth 20000 in
theorem md_tries_b12_eq (L : Nat) (l1 : Int) (l4 : Int) (l5 : Int) (l6 : Int) (l7 : Int) (s : hh_Sv) : md_tries_b12 L l1 l4 l5 l6 l7 s =
  if w32 l7 < 13 then
    if 0 ≤ l7 ∧ l7 < 13 then
    if 0 ≤ l7 ∧ l7 < 13 then
    if 0 ≤ l7 ∧ l7 < 13 then
    if 0 ≤ l7 ∧ l7 < 13 then
    md_tries_b12 L l1 l4 l5 l6 (l7 + 1) (up (up s 273 l7.toNat (s 275 l7.toNat)) 274 l7.toNat (s 276 l7.toNat))
    else none
    else none
    else none
    else none
  else
    md_tries_b7 L l1 l4 l5 (l6 + 1) s :=
  ((hh_Ev_eq pb_md_tries).trans (show _ = (
  if w32 l7 < w32 13 then
    if 0 ≤ l7 ∧ l7 < 13 then
    if 0 ≤ l7 ∧ l7 < 13 then
    if 0 ≤ l7 ∧ l7 < 13 then
    if 0 ≤ l7 ∧ l7 < 13 then
    md_tries_b12 L l1 l4 l5 l6 (l7 + 1) (up (up s 273 l7.toNat (s 275 l7.toNat)) 274 l7.toNat (s 276 l7.toNat))
    else none
    else none
    else none
    else none
  else
    md_tries_b7 L l1 l4 l5 (l6 + 1) s) from rfl)).trans (by simp only [k32_13])
set_option maxRecDepth 20000 in
theorem md_tail_eq (L : Nat) (a1 : Int) (s : hh_Sv) : md_tail L a1 s =
  md_tail_b1 L 0 a1 s :=
  (hh_Ev_eq pb_md_tail).trans rfl
set_option maxRecDepth 20000 in
theorem md_tail_b1_eq (L : Nat) (l2 : Int) (l4 : Int) (s : hh_Sv) : md_tail_b1 L l2 l4 s =
  if w32 l4 < 13 then
    if 0 ≤ l4 ∧ l4 < 13 then
    if 0 ≤ l4 ∧ l4 < 13 then
    md_tail_b1 L (l2 + ((s 273 l4.toNat) + (s 274 l4.toNat))) (l4 + 1) s
    else none
    else none
  else
    ok L l2 s :=
  ((hh_Ev_eq pb_md_tail).trans (show _ = (
  if w32 l4 < w32 13 then
    if 0 ≤ l4 ∧ l4 < 13 then
    if 0 ≤ l4 ∧ l4 < 13 then
    md_tail_b1 L (l2 + ((s 273 l4.toNat) + (s 274 l4.toNat))) (l4 + 1) s
    else none
    else none
  else
    ok L l2 s) from rfl)).trans (by simp only [k32_13])
set_option maxRecDepth 20000 in
theorem md_lineOf_eq (L : Nat) (a1 : Int) (a2 : Int) (a3 : Int) (s : hh_Sv) : md_lineOf L a1 a2 a3 s =
  (md_tries L a1 a2 0 s).bind (fun r1 =>
  md_lineOf_b1 L a1 a3 0 r1.2.2) :=
  (hh_Ev_eq pb_md_lineOf).trans rfl
set_option maxRecDepth 20000 in
theorem md_lineOf_b1_eq (L : Nat) (l1 : Int) (l3 : Int) (l4 : Int) (s : hh_Sv) : md_lineOf_b1 L l1 l3 l4 s =
  if w32 l4 < w32 l1 then
    (md_tail L l4 s).bind (fun r1 =>
    (md_power L 10 l1 r1.2.2).bind (fun r2 =>
    if 0 < w32 (lCmp (r1.1 * 100) ((w32 l3) * r2.1)) then
      md_lineOf_b1 L l1 l3 (l4 + 1) r2.2.2
    else
      ok L l4 r2.2.2))
  else
    ok L l4 s :=
  (hh_Ev_eq pb_md_lineOf).trans rfl
set_option maxRecDepth 20000 in
theorem md_powerOf_eq (L : Nat) (a1 : Int) (a2 : Int) (a3 : Int) (a4 : Int) (s : hh_Sv) : md_powerOf L a1 a2 a3 a4 s =
  (md_lineOf L a1 a2 a4 s).bind (fun r1 =>
  (md_tries L a1 a2 a3 r1.2.2).bind (fun r2 =>
  (md_tail L r1.1 r2.2.2).bind (fun r3 =>
  ok L r3.1 r3.2.2))) :=
  (hh_Ev_eq pb_md_powerOf).trans rfl
set_option maxRecDepth 20000 in
theorem md_isTrial_eq (L : Nat) (a0 : Int) (a1 : Int) (a2 : Int) (s : hh_Sv) : md_isTrial L a0 a1 a2 s =
  (md_isIn L a0 2 12 s).bind (fun r1 =>
  if w32 r1.1 = 0 then
    md_isTrial_b1 L r1.2.2
  else
    (md_isIn L a1 1 9 r1.2.2).bind (fun r2 =>
    if w32 r2.1 = 0 then
      md_isTrial_b1 L r2.2.2
    else
      (md_isIn L a2 1 99 r2.2.2).bind (fun r3 =>
      if w32 r3.1 = 0 then
        md_isTrial_b1 L r3.2.2
      else
        ok L 1 r3.2.2))) :=
  (hh_Ev_eq pb_md_isTrial).trans rfl
set_option maxRecDepth 20000 in
theorem md_isTrial_b1_eq (L : Nat) (s : hh_Sv) : md_isTrial_b1 L s =
  ok L 0 s :=
  (hh_Ev_eq pb_md_isTrial).trans rfl
set_option maxRecDepth 20000 in
theorem md_power__eq (L : Nat) (a1 : Int) (a2 : Int) (a3 : Int) (a4 : Int) (a5 : Int) (s : hh_Sv) : md_power_ L a1 a2 a3 a4 a5 s =
  (md_isTrial L a1 a2 a4 s).bind (fun r1 =>
  if w32 r1.1 = 0 then
    ok L (-1) r1.2.2
  else
    (md_isIn L a3 0 9 r1.2.2).bind (fun r2 =>
    if w32 r2.1 = 0 then
      ok L (-1) r2.2.2
    else
      (md_isIn L a5 0 2 r2.2.2).bind (fun r3 =>
      if w32 r3.1 = 0 then
        ok L (-1) r3.2.2
      else
        if w32 a5 = 0 then
          (md_lineOf L a1 a2 a4 r3.2.2).bind (fun r4 =>
          ok L (w32 r4.1) r4.2.2)
        else
          (md_powerOf L a1 a2 a3 a4 r3.2.2).bind (fun r5 =>
          (md_power L 10 a1 r5.2.2).bind (fun r6 =>
          (md_is L r5.1 r6.1 r6.2.2).bind (fun r7 =>
          (md_tells L (a5 - 1) r7.2.2).bind (fun r8 =>
          ok L r8.1 r8.2.2))))))) :=
  (hh_Ev_eq pb_md_power_).trans rfl
set_option maxRecDepth 20000 in
theorem md_isStrong_eq (L : Nat) (a1 : Int) (a2 : Int) (a3 : Int) (a4 : Int) (a5 : Int) (s : hh_Sv) : md_isStrong L a1 a2 a3 a4 a5 s =
  (md_powerOf L a1 a2 a3 a4 s).bind (fun r1 =>
  (md_power L 10 a1 r1.2.2).bind (fun r2 =>
  if w32 (lCmp (r1.1 * 100) ((w32 a5) * r2.1)) < 0 then
    ok L 0 r2.2.2
  else
    ok L 1 r2.2.2)) :=
  (hh_Ev_eq pb_md_isStrong).trans rfl
set_option maxRecDepth 20000 in
theorem md_need_eq (L : Nat) (a1 : Int) (a2 : Int) (a3 : Int) (a4 : Int) (s : hh_Sv) : md_need L a1 a2 a3 a4 s =
  (md_isTrial L 2 a1 a3 s).bind (fun r1 =>
  if w32 r1.1 = 0 then
    ok L (-1) r1.2.2
  else
    (md_isIn L a2 0 9 r1.2.2).bind (fun r2 =>
    if w32 r2.1 = 0 then
      ok L (-1) r2.2.2
    else
      (md_isIn L a4 0 100 r2.2.2).bind (fun r3 =>
      if w32 r3.1 = 0 then
        ok L (-1) r3.2.2
      else
        md_need_b3 L a1 a2 a3 a4 2 r3.2.2))) :=
  (hh_Ev_eq pb_md_need).trans rfl
set_option maxRecDepth 20000 in
theorem md_need_b3_eq (L : Nat) (l1 : Int) (l2 : Int) (l3 : Int) (l4 : Int) (l5 : Int) (s : hh_Sv) : md_need_b3 L l1 l2 l3 l4 l5 s =
  if 12 < w32 l5 then
    ok L (-1) s
  else
    (md_isStrong L l5 l1 l2 l3 l4 s).bind (fun r1 =>
    if w32 r1.1 = 0 then
      md_need_b3 L l1 l2 l3 l4 (l5 + 1) r1.2.2
    else
      ok L l5 r1.2.2) :=
  ((hh_Ev_eq pb_md_need).trans (show _ = (
  if w32 12 < w32 l5 then
    ok L (-1) s
  else
    (md_isStrong L l5 l1 l2 l3 l4 s).bind (fun r1 =>
    if w32 r1.1 = 0 then
      md_need_b3 L l1 l2 l3 l4 (l5 + 1) r1.2.2
    else
      ok L l5 r1.2.2)) from rfl)).trans (by simp only [k32_12])
set_option maxRecDepth 20000 in
theorem md_strong_eq (L : Nat) (a1 : Int) (a2 : Int) (a3 : Int) (a4 : Int) (s : hh_Sv) : md_strong L a1 a2 a3 a4 s =
  (md_isTrial L a1 a2 a3 s).bind (fun r1 =>
  if w32 r1.1 = 0 then
    ok L (-1) r1.2.2
  else
    (md_isIn L a4 0 100 r1.2.2).bind (fun r2 =>
    if w32 r2.1 = 0 then
      ok L (-1) r2.2.2
    else
      md_strong_b3 L a1 a2 a3 a4 1 r2.2.2)) :=
  (hh_Ev_eq pb_md_strong).trans rfl
set_option maxRecDepth 20000 in
theorem md_strong_b3_eq (L : Nat) (l1 : Int) (l2 : Int) (l3 : Int) (l4 : Int) (l5 : Int) (s : hh_Sv) : md_strong_b3 L l1 l2 l3 l4 l5 s =
  if w32 l5 < 10 then
    (md_isStrong L l1 l2 l5 l3 l4 s).bind (fun r1 =>
    if w32 r1.1 = 0 then
      md_strong_b3 L l1 l2 l3 l4 (l5 + 1) r1.2.2
    else
      ok L l5 r1.2.2)
  else
    ok L (-1) s :=
  ((hh_Ev_eq pb_md_strong).trans (show _ = (
  if w32 l5 < w32 10 then
    (md_isStrong L l1 l2 l5 l3 l4 s).bind (fun r1 =>
    if w32 r1.1 = 0 then
      md_strong_b3 L l1 l2 l3 l4 (l5 + 1) r1.2.2
    else
      ok L l5 r1.2.2)
  else
    ok L (-1) s) from rfl)).trans (by simp only [k32_10])
set_option maxRecDepth 20000 in
theorem md_counts_eq (L : Nat) (a1 : Int) (s : hh_Sv) : md_counts L a1 s =
  md_counts_b1 L a1 0 s :=
  (hh_Ev_eq pb_md_counts).trans rfl
set_option maxRecDepth 20000 in
theorem md_counts_b1_eq (L : Nat) (l1 : Int) (l2 : Int) (s : hh_Sv) : md_counts_b1 L l1 l2 s =
  if w32 l2 < 16 then
    if 0 ≤ l2 ∧ l2 < 16 then
    md_counts_b1 L l1 (l2 + 1) (up s 277 l2.toNat 0)
    else none
  else
    md_counts_b3 L l1 0 s :=
  ((hh_Ev_eq pb_md_counts).trans (show _ = (
  if w32 l2 < w32 16 then
    if 0 ≤ l2 ∧ l2 < 16 then
    md_counts_b1 L l1 (l2 + 1) (up s 277 l2.toNat 0)
    else none
  else
    md_counts_b3 L l1 0 s) from rfl)).trans (by simp only [k32_16])
set_option maxRecDepth 20000 in
theorem md_counts_b3_eq (L : Nat) (l1 : Int) (l2 : Int) (s : hh_Sv) : md_counts_b3 L l1 l2 s =
  if w32 l2 < w32 (s 242 3) then
    md_counts_b4 L l1 l2 0 s
  else
    ok L 0 s :=
  (hh_Ev_eq pb_md_counts).trans rfl
set_option maxRecDepth 20000 in
theorem md_counts_b4_eq (L : Nat) (l1 : Int) (l2 : Int) (l3 : Int) (s : hh_Sv) : md_counts_b4 L l1 l2 l3 s =
  if 0 ≤ l2 ∧ l2 < 60 then
  if w32 l3 < w32 (s 244 l2.toNat) then
    if 0 ≤ l2 ∧ l2 < 60 then
    if w32 (s 243 l2.toNat) = w32 l1 then
      (md_hardAt L l2 l3 s).bind (fun r1 =>
      (md_isHit L l2 l3 r1.2.2).bind (fun r2 =>
      (md_one L r2.1 r2.2.2).bind (fun r3 =>
      if 0 < w32 l3 then
        (md_isHit L l2 (l3 - 1) r3.2.2).bind (fun r4 =>
        if w32 r4.1 = 0 then
          md_counts_b5 L l1 l2 l3 (4 * r1.1) r3.1 r4.2.2
        else
          md_counts_b6 L l1 l2 l3 (4 * r1.1) r3.1 1 r4.2.2)
      else
        md_counts_b5 L l1 l2 l3 (4 * r1.1) r3.1 r3.2.2)))
    else
      md_counts_b3 L l1 (l2 + 1) s
    else none
  else
    md_counts_b3 L l1 (l2 + 1) s
  else none :=
  (hh_Ev_eq pb_md_counts).trans rfl
set_option maxRecDepth 20000 in
theorem md_counts_b5_eq (L : Nat) (l1 : Int) (l2 : Int) (l3 : Int) (l4 : Int) (l5 : Int) (s : hh_Sv) : md_counts_b5 L l1 l2 l3 l4 l5 s =
  md_counts_b6 L l1 l2 l3 l4 l5 0 s :=
  (hh_Ev_eq pb_md_counts).trans rfl
set_option maxRecDepth 20000 in
theorem md_counts_b6_eq (L : Nat) (l1 : Int) (l2 : Int) (l3 : Int) (l4 : Int) (l5 : Int) (k0 : Int) (s : hh_Sv) : md_counts_b6 L l1 l2 l3 l4 l5 k0 s =
  if 0 ≤ l4 ∧ l4 < 16 then
  if 0 ≤ l4 ∧ l4 < 16 then
  if 0 ≤ l4 + 1 ∧ l4 + 1 < 16 then
  if 0 ≤ l4 + 1 ∧ l4 + 1 < 16 then
  if 0 ≤ l4 + 2 ∧ l4 + 2 < 16 then
  if w32 k0 = 0 then
    md_counts_b8 L l1 l2 l3 l4 k0 (l4 + 2) ((up (up s 277 l4.toNat ((s 277 l4.toNat) + l5)) 277 ((l4 + 1).toNat) (((up s 277 l4.toNat ((s 277 l4.toNat) + l5)) 277 ((l4 + 1).toNat)) + 1)) 277 ((l4 + 2).toNat)) 0 (up (up s 277 l4.toNat ((s 277 l4.toNat) + l5)) 277 ((l4 + 1).toNat) (((up s 277 l4.toNat ((s 277 l4.toNat) + l5)) 277 ((l4 + 1).toNat)) + 1))
  else
    md_counts_b8 L l1 l2 l3 l4 k0 (l4 + 2) ((up (up s 277 l4.toNat ((s 277 l4.toNat) + l5)) 277 ((l4 + 1).toNat) (((up s 277 l4.toNat ((s 277 l4.toNat) + l5)) 277 ((l4 + 1).toNat)) + 1)) 277 ((l4 + 2).toNat)) l5 (up (up s 277 l4.toNat ((s 277 l4.toNat) + l5)) 277 ((l4 + 1).toNat) (((up s 277 l4.toNat ((s 277 l4.toNat) + l5)) 277 ((l4 + 1).toNat)) + 1))
  else none
  else none
  else none
  else none
  else none :=
  (hh_Ev_eq pb_md_counts).trans rfl
set_option maxRecDepth 20000 in
theorem md_counts_b8_eq (L : Nat) (l1 : Int) (l2 : Int) (l3 : Int) (l4 : Int) (l6 : Int) (k1 : Int) (k2 : Int) (k3 : Int) (s : hh_Sv) : md_counts_b8 L l1 l2 l3 l4 l6 k1 k2 k3 s =
  if 0 ≤ k1 ∧ k1 < 16 then
  if 0 ≤ l4 + 3 ∧ l4 + 3 < 16 then
  (md_one L l6 (up s 277 k1.toNat (k2 + k3))).bind (fun r1 =>
  if 0 ≤ l4 + 3 ∧ l4 + 3 < 16 then
  md_counts_b4 L l1 l2 (l3 + 1) (up r1.2.2 277 ((l4 + 3).toNat) (((up s 277 k1.toNat (k2 + k3)) 277 ((l4 + 3).toNat)) + r1.1))
  else none)
  else none
  else none :=
  (hh_Ev_eq pb_md_counts).trans rfl
set_option maxRecDepth 20000 in
theorem md_hards_eq (L : Nat) (a1 : Int) (a2 : Int) (a3 : Int) (s : hh_Sv) : md_hards L a1 a2 a3 s =
  (md_isThrower L a1 s).bind (fun r1 =>
  if w32 r1.1 = 0 then
    ok L (-1) r1.2.2
  else
    (md_isIn L a2 0 3 r1.2.2).bind (fun r2 =>
    if w32 r2.1 = 0 then
      ok L (-1) r2.2.2
    else
      (md_isIn L a3 0 3 r2.2.2).bind (fun r3 =>
      if w32 r3.1 = 0 then
        ok L (-1) r3.2.2
      else
        (md_counts L a1 r3.2.2).bind (fun r4 =>
        if 0 ≤ (4 * a2) + a3 ∧ (4 * a2) + a3 < 16 then
        ok L (r4.2.2 277 (((4 * a2) + a3).toNat)) r4.2.2
        else none)))) :=
  (hh_Ev_eq pb_md_hards).trans rfl
set_option maxRecDepth 20000 in
theorem md_off_eq (L : Nat) (a1 : Int) (a2 : Int) (s : hh_Sv) : md_off L a1 a2 s =
  (md_isThrower L a1 s).bind (fun r1 =>
  if w32 r1.1 = 0 then
    ok L (-1000000000000) r1.2.2
  else
    (md_isIn L a2 0 1 r1.2.2).bind (fun r2 =>
    if w32 r2.1 = 0 then
      ok L (-1000000000000) r2.2.2
    else
      (md_counts L a1 r2.2.2).bind (fun r3 =>
      (md_is L 0 1 r3.2.2).bind (fun r4 =>
      md_off_b3 L a2 0 r4.2.2)))) :=
  (hh_Ev_eq pb_md_off).trans rfl
set_option maxRecDepth 20000 in
theorem md_off_b3_eq (L : Nat) (l2 : Int) (l3 : Int) (s : hh_Sv) : md_off_b3 L l2 l3 s =
  if w32 l3 < 16 then
    if 0 ≤ l3 + 1 ∧ l3 + 1 < 16 then
    if 0 < w32 (lCmp (w32 (s 277 ((l3 + 1).toNat))) 0) then
      if 0 ≤ l3 + 2 ∧ l3 + 2 < 16 then
      if 0 ≤ l3 + 3 ∧ l3 + 3 < 16 then
      if 0 ≤ l3 ∧ l3 < 16 then
      (md_is L (((s 242 0) * (w32 (s 277 ((l3 + 1).toNat)))) + ((((w32 (s 277 ((l3 + 2).toNat))) * (w32 (s 277 ((l3 + 1).toNat)))) - ((w32 (s 277 ((l3 + 3).toNat))) * (w32 (s 277 l3.toNat)))) * (s 242 1))) ((s 242 1) * (w32 (s 277 ((l3 + 1).toNat)))) s).bind (fun r1 =>
      md_off_b3 L l2 (l3 + 4) r1.2.2)
      else none
      else none
      else none
    else
      md_off_b3 L l2 (l3 + 4) s
    else none
  else
    (md_tells L l2 s).bind (fun r2 =>
    ok L r2.1 r2.2.2) :=
  ((hh_Ev_eq pb_md_off).trans (show _ = (
  if w32 l3 < w32 16 then
    if 0 ≤ l3 + 1 ∧ l3 + 1 < 16 then
    if 0 < w32 (lCmp (w32 (s 277 ((l3 + 1).toNat))) 0) then
      if 0 ≤ l3 + 2 ∧ l3 + 2 < 16 then
      if 0 ≤ l3 + 3 ∧ l3 + 3 < 16 then
      if 0 ≤ l3 ∧ l3 < 16 then
      (md_is L (((s 242 0) * (w32 (s 277 ((l3 + 1).toNat)))) + ((((w32 (s 277 ((l3 + 2).toNat))) * (w32 (s 277 ((l3 + 1).toNat)))) - ((w32 (s 277 ((l3 + 3).toNat))) * (w32 (s 277 l3.toNat)))) * (s 242 1))) ((s 242 1) * (w32 (s 277 ((l3 + 1).toNat)))) s).bind (fun r1 =>
      md_off_b3 L l2 (l3 + 4) r1.2.2)
      else none
      else none
      else none
    else
      md_off_b3 L l2 (l3 + 4) s
    else none
  else
    (md_tells L l2 s).bind (fun r2 =>
    ok L r2.1 r2.2.2)) from rfl)).trans (by simp only [k32_16])
set_option maxRecDepth 20000 in
theorem md_chosen_eq (L : Nat) (a1 : Int) (a2 : Int) (s : hh_Sv) : md_chosen L a1 a2 s =
  (md_isThrower L a1 s).bind (fun r1 =>
  if w32 r1.1 = 0 then
    ok L (-1000000000000) r1.2.2
  else
    (md_isIn L a2 0 1 r1.2.2).bind (fun r2 =>
    if w32 r2.1 = 0 then
      ok L (-1000000000000) r2.2.2
    else
      (md_counts L a1 r2.2.2).bind (fun r3 =>
      md_chosen_b3 L a2 0 0 0 0 0 r3.2.2))) :=
  (hh_Ev_eq pb_md_chosen).trans rfl
set_option maxRecDepth 20000 in
theorem md_chosen_b3_eq (L : Nat) (l2 : Int) (l3 : Int) (l5 : Int) (l7 : Int) (l9 : Int) (l11 : Int) (s : hh_Sv) : md_chosen_b3 L l2 l3 l5 l7 l9 l11 s =
  if w32 l11 < 4 then
    if 0 ≤ (4 * l11) + 3 ∧ (4 * l11) + 3 < 16 then
    if 0 ≤ (4 * l11) + 1 ∧ (4 * l11) + 1 < 16 then
    md_chosen_b3 L l2 (l3 + (w32 (l11 * (s 277 (((4 * l11) + 3).toNat))))) (l5 + (w32 (s 277 (((4 * l11) + 3).toNat)))) (l7 + (w32 (l11 * ((s 277 (((4 * l11) + 1).toNat)) - (s 277 (((4 * l11) + 3).toNat)))))) (l9 + (w32 ((s 277 (((4 * l11) + 1).toNat)) - (s 277 (((4 * l11) + 3).toNat))))) (l11 + 1) s
    else none
    else none
  else
    if w32 (lCmp l5 0) = 0 then
      ok L (-1000000000000) s
    else
      if w32 (lCmp l9 0) = 0 then
        ok L (-1000000000000) s
      else
        (md_is L ((l3 * l9) - (l7 * l5)) (l5 * l9) s).bind (fun r1 =>
        (md_tells L l2 r1.2.2).bind (fun r2 =>
        ok L r2.1 r2.2.2)) :=
  ((hh_Ev_eq pb_md_chosen).trans (show _ = (
  if w32 l11 < w32 4 then
    if 0 ≤ (4 * l11) + 3 ∧ (4 * l11) + 3 < 16 then
    if 0 ≤ (4 * l11) + 1 ∧ (4 * l11) + 1 < 16 then
    md_chosen_b3 L l2 (l3 + (w32 (l11 * (s 277 (((4 * l11) + 3).toNat))))) (l5 + (w32 (s 277 (((4 * l11) + 3).toNat)))) (l7 + (w32 (l11 * ((s 277 (((4 * l11) + 1).toNat)) - (s 277 (((4 * l11) + 3).toNat)))))) (l9 + (w32 ((s 277 (((4 * l11) + 1).toNat)) - (s 277 (((4 * l11) + 3).toNat))))) (l11 + 1) s
    else none
    else none
  else
    if w32 (lCmp l5 0) = 0 then
      ok L (-1000000000000) s
    else
      if w32 (lCmp l9 0) = 0 then
        ok L (-1000000000000) s
      else
        (md_is L ((l3 * l9) - (l7 * l5)) (l5 * l9) s).bind (fun r1 =>
        (md_tells L l2 r1.2.2).bind (fun r2 =>
        ok L r2.1 r2.2.2))) from rfl)).trans (by simp only [k32_4])
set_option maxRecDepth 20000 in
theorem md_hundredthsOf_eq (L : Nat) (a1 : Int) (s : hh_Sv) : md_hundredthsOf L a1 s =
  md_hundredthsOf_b1 L a1 0 (up (up s 242 61 0) 242 62 0) :=
  (hh_Ev_eq pb_md_hundredthsOf).trans rfl
set_option maxRecDepth 20000 in
theorem md_hundredthsOf_b1_eq (L : Nat) (l1 : Int) (l2 : Int) (s : hh_Sv) : md_hundredthsOf_b1 L l1 l2 s =
  if w32 l2 < w32 (s 242 3) then
    if 0 ≤ l2 ∧ l2 < 60 then
    if w32 (s 243 l2.toNat) = w32 l1 then
      if 0 ≤ l2 ∧ l2 < 60 then
      if 0 ≤ l2 ∧ l2 < 60 then
      (md_bits L (s 245 l2.toNat) (up s 242 61 ((s 242 61) + (s 244 l2.toNat)))).bind (fun r1 =>
      md_hundredthsOf_b1 L l1 (l2 + 1) (up r1.2.2 242 62 ((s 242 62) + r1.1)))
      else none
      else none
    else
      md_hundredthsOf_b1 L l1 (l2 + 1) s
    else none
  else
    if w32 (s 242 61) = 0 then
      ok L (-1) s
    else
      if w32 (s 242 61) = 0 then none else
      ok L (tDiv (w32 (100 * (s 242 62))) (w32 (s 242 61))) s :=
  (hh_Ev_eq pb_md_hundredthsOf).trans rfl
set_option maxRecDepth 20000 in
theorem md_hundredths_eq (L : Nat) (a1 : Int) (s : hh_Sv) : md_hundredths L a1 s =
  (md_isThrower L a1 s).bind (fun r1 =>
  if w32 r1.1 = 0 then
    ok L (-1) r1.2.2
  else
    (md_hundredthsOf L a1 r1.2.2).bind (fun r2 =>
    ok L r2.1 r2.2.2)) :=
  (hh_Ev_eq pb_md_hundredths).trans rfl
set_option maxRecDepth 20000 in
theorem md_sorts_eq (L : Nat) (s : hh_Sv) : md_sorts L s =
  md_sorts_b1 L 0 (up s 242 65 0) :=
  (hh_Ev_eq pb_md_sorts).trans rfl
set_option maxRecDepth 20000 in
theorem md_sorts_b1_eq (L : Nat) (l1 : Int) (s : hh_Sv) : md_sorts_b1 L l1 s =
  if w32 l1 < w32 (s 242 2) then
    (md_hundredthsOf L l1 s).bind (fun r1 =>
    if w32 r1.1 = (-1) then
      md_sorts_b1 L (l1 + 1) r1.2.2
    else
      md_sorts_b3 L l1 r1.1 (r1.2.2 242 65) r1.2.2)
  else
    ok L 0 s :=
  ((hh_Ev_eq pb_md_sorts).trans (show _ = (
  if w32 l1 < w32 (s 242 2) then
    (md_hundredthsOf L l1 s).bind (fun r1 =>
    if w32 r1.1 = w32 (-1) then
      md_sorts_b1 L (l1 + 1) r1.2.2
    else
      md_sorts_b3 L l1 r1.1 (r1.2.2 242 65) r1.2.2)
  else
    ok L 0 s) from rfl)).trans (by simp only [k32_m1])
set_option maxRecDepth 20000 in
theorem md_sorts_b3_eq (L : Nat) (l1 : Int) (l2 : Int) (l3 : Int) (s : hh_Sv) : md_sorts_b3 L l1 l2 l3 s =
  if 0 < w32 l3 then
    if 0 ≤ l3 - 1 ∧ l3 - 1 < 12 then
    if w32 l2 < w32 (s 278 ((l3 - 1).toNat)) then
      if 0 ≤ l3 - 1 ∧ l3 - 1 < 12 then
      if 0 ≤ l3 ∧ l3 < 12 then
      md_sorts_b3 L l1 l2 (l3 + (-1)) (up s 278 l3.toNat (s 278 ((l3 - 1).toNat)))
      else none
      else none
    else
      md_sorts_b4 L l1 l2 l3 s
    else none
  else
    md_sorts_b4 L l1 l2 l3 s :=
  (hh_Ev_eq pb_md_sorts).trans rfl
set_option maxRecDepth 20000 in
theorem md_sorts_b4_eq (L : Nat) (l1 : Int) (l2 : Int) (l3 : Int) (s : hh_Sv) : md_sorts_b4 L l1 l2 l3 s =
  if 0 ≤ l3 ∧ l3 < 12 then
  md_sorts_b1 L (l1 + 1) (up (up s 278 l3.toNat l2) 242 65 ((s 242 65) + 1))
  else none :=
  (hh_Ev_eq pb_md_sorts).trans rfl
set_option maxRecDepth 20000 in
theorem md_apart_eq (L : Nat) (a1 : Int) (a2 : Int) (s : hh_Sv) : md_apart L a1 a2 s =
  md_apart_b1 L a1 a2 0 a1 s :=
  (hh_Ev_eq pb_md_apart).trans rfl
set_option maxRecDepth 20000 in
theorem md_apart_b1_eq (L : Nat) (l1 : Int) (l2 : Int) (l3 : Int) (l4 : Int) (s : hh_Sv) : md_apart_b1 L l1 l2 l3 l4 s =
  if w32 l4 < w32 l2 then
    if 0 ≤ l4 ∧ l4 < 12 then
    if 0 ≤ tDiv (w32 ((l1 + l2) - 1)) 2 ∧ tDiv (w32 ((l1 + l2) - 1)) 2 < 12 then
    (jma_absI L ((s 278 l4.toNat) - (s 278 ((tDiv (w32 ((l1 + l2) - 1)) 2).toNat))) s).bind (fun r1 =>
    md_apart_b1 L l1 l2 (l3 + r1.1) (l4 + 1) r1.2.2)
    else none
    else none
  else
    ok L l3 s :=
  ((hh_Ev_eq pb_md_apart).trans (show _ = (
  if w32 l4 < w32 l2 then
    if 0 ≤ l4 ∧ l4 < 12 then
    if w32 2 = 0 then none else
    if 0 ≤ tDiv (w32 ((l1 + l2) - 1)) (w32 2) ∧ tDiv (w32 ((l1 + l2) - 1)) (w32 2) < 12 then
    (jma_absI L ((s 278 l4.toNat) - (s 278 ((tDiv (w32 ((l1 + l2) - 1)) (w32 2)).toNat))) s).bind (fun r1 =>
    md_apart_b1 L l1 l2 (l3 + r1.1) (l4 + 1) r1.2.2)
    else none
    else none
  else
    ok L l3 s) from rfl)).trans (by simp only [k32_2, kz_2, if_false, if_true])
set_option maxRecDepth 20000 in
theorem md_tries__eq (L : Nat) (a1 : Int) (a2 : Int) (s : hh_Sv) : md_tries_ L a1 a2 s =
  (md_apart L 0 a1 s).bind (fun r1 =>
  (md_apart L a1 (a1 + a2) r1.2.2).bind (fun r2 =>
  (md_apart L (a1 + a2) (r2.2.2 242 65) r2.2.2).bind (fun r3 =>
  if 0 ≤ 0 ∧ 0 < 4 then
  if w32 (r3.2.2 279 0) = (-1) then
    md_tries__b1 L a1 a2 ((r1.1 + r2.1) + r3.1) r3.2.2
  else
    if 0 ≤ 0 ∧ 0 < 4 then
    if w32 ((r1.1 + r2.1) + r3.1) < w32 (r3.2.2 279 0) then
      md_tries__b1 L a1 a2 ((r1.1 + r2.1) + r3.1) r3.2.2
    else
      ok L 0 r3.2.2
    else none
  else none))) :=
  ((hh_Ev_eq pb_md_tries_).trans (show _ = (
  (md_apart L 0 a1 s).bind (fun r1 =>
  (md_apart L a1 (a1 + a2) r1.2.2).bind (fun r2 =>
  (md_apart L (a1 + a2) (r2.2.2 242 65) r2.2.2).bind (fun r3 =>
  if 0 ≤ 0 ∧ 0 < 4 then
  if w32 (r3.2.2 279 0) = w32 (-1) then
    md_tries__b1 L a1 a2 ((r1.1 + r2.1) + r3.1) r3.2.2
  else
    if 0 ≤ 0 ∧ 0 < 4 then
    if w32 ((r1.1 + r2.1) + r3.1) < w32 (r3.2.2 279 0) then
      md_tries__b1 L a1 a2 ((r1.1 + r2.1) + r3.1) r3.2.2
    else
      ok L 0 r3.2.2
    else none
  else none)))) from rfl)).trans (by simp only [k32_m1])
set_option maxRecDepth 20000 in
theorem md_tries__b1_eq (L : Nat) (l1 : Int) (l2 : Int) (l3 : Int) (s : hh_Sv) : md_tries__b1 L l1 l2 l3 s =
  if 0 ≤ 0 ∧ 0 < 4 then
  if 0 ≤ 1 ∧ 1 < 4 then
  if 0 ≤ 2 ∧ 2 < 4 then
  if 0 ≤ 3 ∧ 3 < 4 then
  ok L 0 (up (up (up (up s 279 0 l3) 279 1 l1) 279 2 l2) 279 3 (((s 242 65) - l1) - l2))
  else none
  else none
  else none
  else none :=
  (hh_Ev_eq pb_md_tries_).trans rfl
set_option maxRecDepth 20000 in
theorem md_groups_eq (L : Nat) (a1 : Int) (a2 : Int) (s : hh_Sv) : md_groups L a1 a2 s =
  (md_isIn L a1 1 3 s).bind (fun r1 =>
  if w32 r1.1 = 0 then
    ok L (-1) r1.2.2
  else
    (md_isIn L a2 0 3 r1.2.2).bind (fun r2 =>
    if w32 r2.1 = 0 then
      ok L (-1) r2.2.2
    else
      (md_sorts L r2.2.2).bind (fun r3 =>
      if w32 (r3.2.2 242 65) < w32 a1 then
        ok L (-1) r3.2.2
      else
        if 0 ≤ 0 ∧ 0 < 4 then
        md_groups_b4 L a1 a2 1 (up r3.2.2 279 0 (-1))
        else none))) :=
  (hh_Ev_eq pb_md_groups).trans rfl
set_option maxRecDepth 20000 in
theorem md_groups_b4_eq (L : Nat) (l1 : Int) (l2 : Int) (l3 : Int) (s : hh_Sv) : md_groups_b4 L l1 l2 l3 s =
  if w32 (s 242 65) < w32 l3 then
    if 0 ≤ l2 ∧ l2 < 4 then
    ok L (s 279 l2.toNat) s
    else none
  else
    md_groups_b5 L l1 l2 l3 0 s :=
  (hh_Ev_eq pb_md_groups).trans rfl
set_option maxRecDepth 20000 in
theorem md_groups_b5_eq (L : Nat) (l1 : Int) (l2 : Int) (l3 : Int) (l4 : Int) (s : hh_Sv) : md_groups_b5 L l1 l2 l3 l4 s =
  if w32 ((s 242 65) - l3) < w32 l4 then
    md_groups_b4 L l1 l2 (l3 + 1) s
  else
    if 0 < w32 l4 then
      md_groups_b7 L l1 l2 l3 l4 (((s 242 65) - l3) - l4) 1 s
    else
      md_groups_b7 L l1 l2 l3 l4 (((s 242 65) - l3) - l4) 0 s :=
  (hh_Ev_eq pb_md_groups).trans rfl
set_option maxRecDepth 20000 in
theorem md_groups_b7_eq (L : Nat) (l1 : Int) (l2 : Int) (l3 : Int) (l4 : Int) (l5 : Int) (k0 : Int) (s : hh_Sv) : md_groups_b7 L l1 l2 l3 l4 l5 k0 s =
  if 1 < w32 l1 then
    md_groups_b9 L l1 l2 l3 l4 l5 k0 1 s
  else
    md_groups_b9 L l1 l2 l3 l4 l5 k0 0 s :=
  ((hh_Ev_eq pb_md_groups).trans (show _ = (
  if w32 1 < w32 l1 then
    md_groups_b9 L l1 l2 l3 l4 l5 k0 1 s
  else
    md_groups_b9 L l1 l2 l3 l4 l5 k0 0 s) from rfl)).trans (by simp only [k32_1])
set_option maxRecDepth 20000 in
theorem md_groups_b9_eq (L : Nat) (l1 : Int) (l2 : Int) (l3 : Int) (l4 : Int) (l5 : Int) (k0 : Int) (k1 : Int) (s : hh_Sv) : md_groups_b9 L l1 l2 l3 l4 l5 k0 k1 s =
  if w32 k0 = w32 k1 then
    if 0 < w32 l5 then
      md_groups_b11 L l1 l2 l3 l4 1 s
    else
      md_groups_b11 L l1 l2 l3 l4 0 s
  else
    md_groups_b5 L l1 l2 l3 (l4 + 1) s :=
  (hh_Ev_eq pb_md_groups).trans rfl
set_option maxRecDepth 20000 in
theorem md_groups_b11_eq (L : Nat) (l1 : Int) (l2 : Int) (l3 : Int) (l4 : Int) (k0 : Int) (s : hh_Sv) : md_groups_b11 L l1 l2 l3 l4 k0 s =
  if 2 < w32 l1 then
    md_groups_b13 L l1 l2 l3 l4 k0 1 s
  else
    md_groups_b13 L l1 l2 l3 l4 k0 0 s :=
  ((hh_Ev_eq pb_md_groups).trans (show _ = (
  if w32 2 < w32 l1 then
    md_groups_b13 L l1 l2 l3 l4 k0 1 s
  else
    md_groups_b13 L l1 l2 l3 l4 k0 0 s) from rfl)).trans (by simp only [k32_2])
set_option maxRecDepth 20000 in
theorem md_groups_b13_eq (L : Nat) (l1 : Int) (l2 : Int) (l3 : Int) (l4 : Int) (k0 : Int) (k1 : Int) (s : hh_Sv) : md_groups_b13 L l1 l2 l3 l4 k0 k1 s =
  if w32 k0 = w32 k1 then
    (md_tries_ L l3 l4 s).bind (fun r1 =>
    md_groups_b5 L l1 l2 l3 (l4 + 1) r1.2.2)
  else
    md_groups_b5 L l1 l2 l3 (l4 + 1) s :=
  (hh_Ev_eq pb_md_groups).trans rfl
set_option maxRecDepth 20000 in
theorem md_shares_eq (L : Nat) (a1 : Int) (s : hh_Sv) : md_shares L a1 s =
  md_shares_b1 L a1 0 s :=
  (hh_Ev_eq pb_md_shares).trans rfl
set_option maxRecDepth 20000 in
theorem md_shares_b1_eq (L : Nat) (l1 : Int) (l2 : Int) (s : hh_Sv) : md_shares_b1 L l1 l2 s =
  if w32 l2 < 2 then
    (md_joins L l1 0 ((s 242 3) - 1) (1 - l2) 1 s).bind (fun r1 =>
    if 0 ≤ 2 * l2 ∧ 2 * l2 < 4 then
    if 0 ≤ (2 * l2) + 1 ∧ (2 * l2) + 1 < 4 then
    md_shares_b1 L l1 (l2 + 1) (up (up r1.2.2 280 ((2 * l2).toNat) (w32 (r1.2.2 242 43))) 280 (((2 * l2) + 1).toNat) (w32 (r1.2.2 242 44)))
    else none
    else none)
  else
    if 0 ≤ 1 ∧ 1 < 4 then
    if 0 < w32 (lCmp (s 280 1) 0) then
      if 0 ≤ 3 ∧ 3 < 4 then
      if 0 < w32 (lCmp (s 280 3) 0) then
        ok L 1 s
      else
        md_shares_b3 L s
      else none
    else
      md_shares_b3 L s
    else none :=
  ((hh_Ev_eq pb_md_shares).trans (show _ = (
  if w32 l2 < w32 2 then
    (md_joins L l1 0 ((s 242 3) - 1) (1 - l2) 1 s).bind (fun r1 =>
    if 0 ≤ 2 * l2 ∧ 2 * l2 < 4 then
    if 0 ≤ (2 * l2) + 1 ∧ (2 * l2) + 1 < 4 then
    md_shares_b1 L l1 (l2 + 1) (up (up r1.2.2 280 ((2 * l2).toNat) (w32 (r1.2.2 242 43))) 280 (((2 * l2) + 1).toNat) (w32 (r1.2.2 242 44)))
    else none
    else none)
  else
    if 0 ≤ 1 ∧ 1 < 4 then
    if 0 < w32 (lCmp (s 280 1) 0) then
      if 0 ≤ 3 ∧ 3 < 4 then
      if 0 < w32 (lCmp (s 280 3) 0) then
        ok L 1 s
      else
        md_shares_b3 L s
      else none
    else
      md_shares_b3 L s
    else none) from rfl)).trans (by simp only [k32_2])
set_option maxRecDepth 20000 in
theorem md_shares_b3_eq (L : Nat) (s : hh_Sv) : md_shares_b3 L s =
  ok L 0 s :=
  (hh_Ev_eq pb_md_shares).trans rfl
set_option maxRecDepth 20000 in
theorem md_above_eq (L : Nat) (a1 : Int) (s : hh_Sv) : md_above L a1 s =
  (md_isIn L a1 0 100 s).bind (fun r1 =>
  if w32 r1.1 = 0 then
    ok L (-1) r1.2.2
  else
    md_above_b2 L a1 0 0 r1.2.2) :=
  (hh_Ev_eq pb_md_above).trans rfl
set_option maxRecDepth 20000 in
theorem md_above_b2_eq (L : Nat) (l1 : Int) (l2 : Int) (l3 : Int) (s : hh_Sv) : md_above_b2 L l1 l2 l3 s =
  if w32 l3 < w32 (s 242 2) then
    (md_shares L l3 s).bind (fun r1 =>
    if w32 r1.1 = 0 then
      md_above_b2 L l1 l2 (l3 + 1) r1.2.2
    else
      if 0 ≤ 0 ∧ 0 < 4 then
      if 0 ≤ 3 ∧ 3 < 4 then
      if 0 ≤ 2 ∧ 2 < 4 then
      if 0 ≤ 1 ∧ 1 < 4 then
      if 0 ≤ 1 ∧ 1 < 4 then
      if 0 ≤ 3 ∧ 3 < 4 then
      if w32 (lCmp (100 * (((r1.2.2 280 0) * (r1.2.2 280 3)) - ((r1.2.2 280 2) * (r1.2.2 280 1)))) (((w32 l1) * (r1.2.2 280 1)) * (r1.2.2 280 3))) < 0 then
        md_above_b2 L l1 l2 (l3 + 1) r1.2.2
      else
        md_above_b2 L l1 (bOr l2 (iShl 1 l3)) (l3 + 1) r1.2.2
      else none
      else none
      else none
      else none
      else none
      else none)
  else
    ok L l2 s :=
  (hh_Ev_eq pb_md_above).trans rfl
set_option maxRecDepth 20000 in
theorem md_weightOf_eq (L : Nat) (a1 : Int) (a2 : Int) (a3 : Int) (a4 : Int) (a5 : Int) (a6 : Int) (s : hh_Sv) : md_weightOf L a1 a2 a3 a4 a5 a6 s =
  md_weightOf_b1 L a1 a2 a3 a4 a5 a6 1 0 s :=
  (hh_Ev_eq pb_md_weightOf).trans rfl
set_option maxRecDepth 20000 in
theorem md_weightOf_b1_eq (L : Nat) (l1 : Int) (l2 : Int) (l3 : Int) (l4 : Int) (l5 : Int) (l6 : Int) (l7 : Int) (l9 : Int) (s : hh_Sv) : md_weightOf_b1 L l1 l2 l3 l4 l5 l6 l7 l9 s =
  if w32 l9 < w32 l2 then
    (md_isOf L l3 l9 s).bind (fun r1 =>
    if w32 r1.1 = 1 then
      md_weightOf_b3 L l1 l2 l3 l4 l5 l6 l7 l9 l5 r1.2.2
    else
      md_weightOf_b3 L l1 l2 l3 l4 l5 l6 l7 l9 l6 r1.2.2)
  else
    ok L l7 s :=
  ((hh_Ev_eq pb_md_weightOf).trans (show _ = (
  if w32 l9 < w32 l2 then
    (md_isOf L l3 l9 s).bind (fun r1 =>
    if w32 r1.1 = w32 1 then
      md_weightOf_b3 L l1 l2 l3 l4 l5 l6 l7 l9 l5 r1.2.2
    else
      md_weightOf_b3 L l1 l2 l3 l4 l5 l6 l7 l9 l6 r1.2.2)
  else
    ok L l7 s) from rfl)).trans (by simp only [k32_1])
set_option maxRecDepth 20000 in
theorem md_weightOf_b3_eq (L : Nat) (l1 : Int) (l2 : Int) (l3 : Int) (l4 : Int) (l5 : Int) (l6 : Int) (l7 : Int) (l9 : Int) (k0 : Int) (s : hh_Sv) : md_weightOf_b3 L l1 l2 l3 l4 l5 l6 l7 l9 k0 s =
  (md_isOf L l1 l9 s).bind (fun r1 =>
  if w32 r1.1 = 1 then
    md_weightOf_b5 L l1 l2 l3 l4 l5 l6 l9 l7 (w32 k0) r1.2.2
  else
    md_weightOf_b5 L l1 l2 l3 l4 l5 l6 l9 l7 (w32 (10 - k0)) r1.2.2) :=
  ((hh_Ev_eq pb_md_weightOf).trans (show _ = (
  (md_isOf L l1 l9 s).bind (fun r1 =>
  if w32 r1.1 = w32 1 then
    md_weightOf_b5 L l1 l2 l3 l4 l5 l6 l9 l7 (w32 k0) r1.2.2
  else
    md_weightOf_b5 L l1 l2 l3 l4 l5 l6 l9 l7 (w32 (10 - k0)) r1.2.2)) from rfl)).trans (by simp only [k32_1])
set_option maxRecDepth 20000 in
theorem md_weightOf_b5_eq (L : Nat) (l1 : Int) (l2 : Int) (l3 : Int) (l4 : Int) (l5 : Int) (l6 : Int) (l9 : Int) (k0 : Int) (k1 : Int) (s : hh_Sv) : md_weightOf_b5 L l1 l2 l3 l4 l5 l6 l9 k0 k1 s =
  if 0 < w32 l9 then
    (md_isOf L l3 l9 s).bind (fun r1 =>
    (md_isOf L l3 (l9 - 1) r1.2.2).bind (fun r2 =>
    if w32 r1.1 = w32 r2.1 then
      md_weightOf_b7 L l1 l2 l3 l4 l5 l6 l9 (k0 * k1) (w32 l4) r2.2.2
    else
      md_weightOf_b7 L l1 l2 l3 l4 l5 l6 l9 (k0 * k1) (w32 (10 - l4)) r2.2.2))
  else
    md_weightOf_b1 L l1 l2 l3 l4 l5 l6 (k0 * k1) (l9 + 1) s :=
  (hh_Ev_eq pb_md_weightOf).trans rfl
set_option maxRecDepth 20000 in
theorem md_weightOf_b7_eq (L : Nat) (l1 : Int) (l2 : Int) (l3 : Int) (l4 : Int) (l5 : Int) (l6 : Int) (l9 : Int) (k0 : Int) (k1 : Int) (s : hh_Sv) : md_weightOf_b7 L l1 l2 l3 l4 l5 l6 l9 k0 k1 s =
  md_weightOf_b1 L l1 l2 l3 l4 l5 l6 (k0 * k1) (l9 + 1) s :=
  (hh_Ev_eq pb_md_weightOf).trans rfl
set_option maxRecDepth 20000 in
theorem md_hidden_eq (L : Nat) (a1 : Int) (a2 : Int) (a3 : Int) (a4 : Int) (a5 : Int) (s : hh_Sv) : md_hidden L a1 a2 a3 a4 a5 s =
  (md_isRow L a1 s).bind (fun r1 =>
  if w32 r1.1 = 0 then
    ok L (-1) r1.2.2
  else
    if 0 ≤ a1 ∧ a1 < 60 then
    (md_isIn L (r1.2.2 244 a1.toNat) 1 9 r1.2.2).bind (fun r2 =>
    if w32 r2.1 = 0 then
      ok L (-1) r2.2.2
    else
      (md_isIn L a2 0 10 r2.2.2).bind (fun r3 =>
      if w32 r3.1 = 0 then
        ok L (-1) r3.2.2
      else
        (md_isIn L a3 0 10 r3.2.2).bind (fun r4 =>
        if w32 r4.1 = 0 then
          ok L (-1) r4.2.2
        else
          (md_isIn L a4 0 10 r4.2.2).bind (fun r5 =>
          if w32 r5.1 = 0 then
            ok L (-1) r5.2.2
          else
            (md_isIn L a5 0 2 r5.2.2).bind (fun r6 =>
            if w32 r6.1 = 0 then
              ok L (-1) r6.2.2
            else
              md_hidden_b3 L a1 a2 a3 a4 a5 0 (-1) 0 0 r6.2.2)))))
    else none) :=
  (hh_Ev_eq pb_md_hidden).trans rfl
set_option maxRecDepth 20000 in
theorem md_hidden_b3_eq (L : Nat) (l1 : Int) (l2 : Int) (l3 : Int) (l4 : Int) (l5 : Int) (l6 : Int) (l7 : Int) (l9 : Int) (l11 : Int) (s : hh_Sv) : md_hidden_b3 L l1 l2 l3 l4 l5 l6 l7 l9 l11 s =
  if 0 ≤ l1 ∧ l1 < 60 then
  if w32 l11 < w32 (iShl 1 (s 244 l1.toNat)) then
    if 0 ≤ l1 ∧ l1 < 60 then
    if 0 ≤ l1 ∧ l1 < 60 then
    (md_weightOf L (s 245 l1.toNat) (s 244 l1.toNat) l11 l2 l3 l4 s).bind (fun r1 =>
    if 0 < w32 (lCmp r1.1 l7) then
      md_hidden_b3 L l1 l2 l3 l4 l5 l11 r1.1 (l9 + r1.1) (l11 + 1) r1.2.2
    else
      md_hidden_b3 L l1 l2 l3 l4 l5 l6 l7 (l9 + r1.1) (l11 + 1) r1.2.2)
    else none
    else none
  else
    if w32 l5 = 0 then
      ok L (w32 l6) s
    else
      if w32 l5 = 1 then
        ok L l7 s
      else
        ok L l9 s
  else none :=
  ((hh_Ev_eq pb_md_hidden).trans (show _ = (
  if 0 ≤ l1 ∧ l1 < 60 then
  if w32 l11 < w32 (iShl 1 (s 244 l1.toNat)) then
    if 0 ≤ l1 ∧ l1 < 60 then
    if 0 ≤ l1 ∧ l1 < 60 then
    (md_weightOf L (s 245 l1.toNat) (s 244 l1.toNat) l11 l2 l3 l4 s).bind (fun r1 =>
    if 0 < w32 (lCmp r1.1 l7) then
      md_hidden_b3 L l1 l2 l3 l4 l5 l11 r1.1 (l9 + r1.1) (l11 + 1) r1.2.2
    else
      md_hidden_b3 L l1 l2 l3 l4 l5 l6 l7 (l9 + r1.1) (l11 + 1) r1.2.2)
    else none
    else none
  else
    if w32 l5 = 0 then
      ok L (w32 l6) s
    else
      if w32 l5 = w32 1 then
        ok L l7 s
      else
        ok L l9 s
  else none) from rfl)).trans (by simp only [k32_1])
set_option maxRecDepth 20000 in
theorem md_lays__eq (L : Nat) (a1 : Int) (a2 : Int) (s : hh_Sv) : md_lays_ L a1 a2 s =
  md_lays__b1 L a1 a2 0 s :=
  (hh_Ev_eq pb_md_lays_).trans rfl
set_option maxRecDepth 20000 in
theorem md_lays__b1_eq (L : Nat) (l1 : Int) (l2 : Int) (l3 : Int) (s : hh_Sv) : md_lays__b1 L l1 l2 l3 s =
  if w32 l3 < 4 then
    if 0 ≤ l3 ∧ l3 < 4 then
    md_lays__b1 L l1 l2 (l3 + 1) (up s 281 l3.toNat 0)
    else none
  else
    md_lays__b3 L l2 (12 + l1) 0 s :=
  ((hh_Ev_eq pb_md_lays_).trans (show _ = (
  if w32 l3 < w32 4 then
    if 0 ≤ l3 ∧ l3 < 4 then
    md_lays__b1 L l1 l2 (l3 + 1) (up s 281 l3.toNat 0)
    else none
  else
    md_lays__b3 L l2 (12 + l1) 0 s) from rfl)).trans (by simp only [k32_4])
set_option maxRecDepth 20000 in
theorem md_lays__b3_eq (L : Nat) (l2 : Int) (l3 : Int) (l4 : Int) (s : hh_Sv) : md_lays__b3 L l2 l3 l4 s =
  if w32 l4 < w32 (s 242 3) then
    md_lays__b4 L l2 l3 l4 0 s
  else
    ok L 0 s :=
  (hh_Ev_eq pb_md_lays_).trans rfl
set_option maxRecDepth 20000 in
theorem md_lays__b4_eq (L : Nat) (l2 : Int) (l3 : Int) (l4 : Int) (l5 : Int) (s : hh_Sv) : md_lays__b4 L l2 l3 l4 l5 s =
  if 0 ≤ l4 ∧ l4 < 60 then
  if w32 l5 < w32 (s 244 l4.toNat) then
    if 0 ≤ l4 ∧ l4 < 60 then
    if w32 (s 243 l4.toNat) = w32 l2 then
      (md_ahead L l4 l5 s).bind (fun r1 =>
      (md_hardAt L l4 l5 r1.2.2).bind (fun r2 =>
      (md_guardAt L l4 l5 r2.2.2).bind (fun r3 =>
      (md_asks L r2.1 r3.1 r3.2.2).bind (fun r4 =>
      if 0 ≤ l3 ∧ l3 < 17 then
      md_lays__b5 L l2 l3 l4 l5 5 (((24 * l3) + (r4.2.2 248 l3.toNat)) - 1) r4.2.2
      else none))))
    else
      md_lays__b3 L l2 l3 (l4 + 1) s
    else none
  else
    md_lays__b3 L l2 l3 (l4 + 1) s
  else none :=
  (hh_Ev_eq pb_md_lays_).trans rfl
set_option maxRecDepth 20000 in
theorem md_lays__b5_eq (L : Nat) (l2 : Int) (l3 : Int) (l4 : Int) (l5 : Int) (l6 : Int) (l7 : Int) (s : hh_Sv) : md_lays__b5 L l2 l3 l4 l5 l6 l7 s =
  if w32 l7 < w32 (24 * l3) then
    if w32 l6 = 0 then
      if 0 ≤ 0 ∧ 0 < 4 then
      if 0 ≤ 0 ∧ 0 < 4 then
      if 0 ≤ 1 ∧ 1 < 4 then
      (md_isHit L l4 l5 (up s 281 0 ((s 281 0) + 1))).bind (fun r1 =>
      (md_one L r1.1 r1.2.2).bind (fun r2 =>
      if 0 ≤ 1 ∧ 1 < 4 then
      md_lays__b8 L l2 l3 l4 l5 l6 (up r2.2.2 281 1 ((s 281 1) + r2.1))
      else none))
      else none
      else none
      else none
    else
      md_lays__b8 L l2 l3 l4 l5 l6 s
  else
    (md_isTrue L l7 s).bind (fun r3 =>
    if w32 r3.1 = 0 then
      md_lays__b5 L l2 l3 l4 l5 l6 (l7 + (-1)) r3.2.2
    else
      if 0 ≤ l7 ∧ l7 < 408 then
      md_lays__b5 L l2 l3 l4 l5 (r3.2.2 252 l7.toNat) (l7 + (-1)) r3.2.2
      else none) :=
  (hh_Ev_eq pb_md_lays_).trans rfl
set_option maxRecDepth 20000 in
theorem md_lays__b8_eq (L : Nat) (l2 : Int) (l3 : Int) (l4 : Int) (l5 : Int) (l6 : Int) (s : hh_Sv) : md_lays__b8 L l2 l3 l4 l5 l6 s =
  if w32 l6 = 4 then
    if 0 ≤ 2 ∧ 2 < 4 then
    if 0 ≤ 2 ∧ 2 < 4 then
    if 0 ≤ 3 ∧ 3 < 4 then
    (md_isHit L l4 l5 (up s 281 2 ((s 281 2) + 1))).bind (fun r1 =>
    if w32 r1.1 = 0 then
      md_lays__b10 L l2 l3 l4 l5 3 (s 281 3) 1 r1.2.2
    else
      md_lays__b10 L l2 l3 l4 l5 3 (s 281 3) 0 r1.2.2)
    else none
    else none
    else none
  else
    md_lays__b4 L l2 l3 l4 (l5 + 1) s :=
  ((hh_Ev_eq pb_md_lays_).trans (show _ = (
  if w32 l6 = w32 4 then
    if 0 ≤ 2 ∧ 2 < 4 then
    if 0 ≤ 2 ∧ 2 < 4 then
    if 0 ≤ 3 ∧ 3 < 4 then
    (md_isHit L l4 l5 (up s 281 2 ((s 281 2) + 1))).bind (fun r1 =>
    if w32 r1.1 = 0 then
      md_lays__b10 L l2 l3 l4 l5 3 (s 281 3) 1 r1.2.2
    else
      md_lays__b10 L l2 l3 l4 l5 3 (s 281 3) 0 r1.2.2)
    else none
    else none
    else none
  else
    md_lays__b4 L l2 l3 l4 (l5 + 1) s) from rfl)).trans (by simp only [k32_4])
set_option maxRecDepth 20000 in
theorem md_lays__b10_eq (L : Nat) (l2 : Int) (l3 : Int) (l4 : Int) (l5 : Int) (k1 : Int) (k2 : Int) (k3 : Int) (s : hh_Sv) : md_lays__b10 L l2 l3 l4 l5 k1 k2 k3 s =
  (md_one L k3 s).bind (fun r1 =>
  if 0 ≤ k1 ∧ k1 < 4 then
  md_lays__b4 L l2 l3 l4 (l5 + 1) (up r1.2.2 281 k1.toNat (k2 + r1.1))
  else none) :=
  (hh_Ev_eq pb_md_lays_).trans rfl
set_option maxRecDepth 20000 in
theorem md_bets_eq (L : Nat) (a1 : Int) (a2 : Int) (a3 : Int) (s : hh_Sv) : md_bets L a1 a2 a3 s =
  (md_isWatcher L a1 s).bind (fun r1 =>
  if w32 r1.1 = 0 then
    ok L (-1) r1.2.2
  else
    (md_isThrower L a2 r1.2.2).bind (fun r2 =>
    if w32 r2.1 = 0 then
      ok L (-1) r2.2.2
    else
      (md_isIn L a3 0 3 r2.2.2).bind (fun r3 =>
      if w32 r3.1 = 0 then
        ok L (-1) r3.2.2
      else
        (md_lays_ L a1 a2 r3.2.2).bind (fun r4 =>
        if 0 ≤ a3 ∧ a3 < 4 then
        ok L (r4.2.2 281 a3.toNat) r4.2.2
        else none)))) :=
  (hh_Ev_eq pb_md_bets).trans rfl
set_option maxRecDepth 20000 in
theorem md_odds_eq (L : Nat) (a1 : Int) (a2 : Int) (a3 : Int) (s : hh_Sv) : md_odds L a1 a2 a3 s =
  (md_isWatcher L a1 s).bind (fun r1 =>
  if w32 r1.1 = 0 then
    ok L (-1) r1.2.2
  else
    (md_isThrower L a2 r1.2.2).bind (fun r2 =>
    if w32 r2.1 = 0 then
      ok L (-1) r2.2.2
    else
      (md_isIn L a3 0 1 r2.2.2).bind (fun r3 =>
      if w32 r3.1 = 0 then
        ok L (-1) r3.2.2
      else
        (md_hundredthsOf L a2 r3.2.2).bind (fun r4 =>
        if 60 < w32 (r4.2.2 242 61) then
          ok L (-1) r4.2.2
        else
          (md_lays_ L a1 a2 r4.2.2).bind (fun r5 =>
          if w32 a3 = 1 then
            if 0 ≤ 0 ∧ 0 < 4 then
            (md_choose L (r4.2.2 242 61) (r5.2.2 281 0) r5.2.2).bind (fun r6 =>
            ok L r6.1 r6.2.2)
            else none
          else
            if 0 ≤ 1 ∧ 1 < 4 then
            md_odds_b5 L (r4.2.2 242 61) (r4.2.2 242 62) 0 (r5.2.2 281 1) r5.2.2
            else none))))) :=
  ((hh_Ev_eq pb_md_odds).trans (show _ = (
  (md_isWatcher L a1 s).bind (fun r1 =>
  if w32 r1.1 = 0 then
    ok L (-1) r1.2.2
  else
    (md_isThrower L a2 r1.2.2).bind (fun r2 =>
    if w32 r2.1 = 0 then
      ok L (-1) r2.2.2
    else
      (md_isIn L a3 0 1 r2.2.2).bind (fun r3 =>
      if w32 r3.1 = 0 then
        ok L (-1) r3.2.2
      else
        (md_hundredthsOf L a2 r3.2.2).bind (fun r4 =>
        if w32 60 < w32 (r4.2.2 242 61) then
          ok L (-1) r4.2.2
        else
          (md_lays_ L a1 a2 r4.2.2).bind (fun r5 =>
          if w32 a3 = w32 1 then
            if 0 ≤ 0 ∧ 0 < 4 then
            (md_choose L (r4.2.2 242 61) (r5.2.2 281 0) r5.2.2).bind (fun r6 =>
            ok L r6.1 r6.2.2)
            else none
          else
            if 0 ≤ 1 ∧ 1 < 4 then
            md_odds_b5 L (r4.2.2 242 61) (r4.2.2 242 62) 0 (r5.2.2 281 1) r5.2.2
            else none)))))) from rfl)).trans (by simp only [k32_1, k32_60])
set_option maxRecDepth 20000 in
theorem md_odds_b5_eq (L : Nat) (l5 : Int) (l6 : Int) (l7 : Int) (l9 : Int) (s : hh_Sv) : md_odds_b5 L l5 l6 l7 l9 s =
  if 0 ≤ 0 ∧ 0 < 4 then
  if w32 (s 281 0) < w32 l9 then
    ok L l7 s
  else
    (md_choose L l6 l9 s).bind (fun r1 =>
    if 0 ≤ 0 ∧ 0 < 4 then
    (md_choose L (l5 - l6) ((r1.2.2 281 0) - l9) r1.2.2).bind (fun r2 =>
    md_odds_b5 L l5 l6 (l7 + (r1.1 * r2.1)) (l9 + 1) r2.2.2)
    else none)
  else none :=
  (hh_Ev_eq pb_md_odds).trans rfl
set_option maxRecDepth 20000 in
theorem md_fetches_eq (L : Nat) (a1 : Int) (s : hh_Sv) : md_fetches L a1 s =
  md_fetches_b1 L a1 0 s :=
  (hh_Ev_eq pb_md_fetches).trans rfl
set_option maxRecDepth 20000 in
theorem md_fetches_b1_eq (L : Nat) (l1 : Int) (l2 : Int) (s : hh_Sv) : md_fetches_b1 L l1 l2 s =
  if w32 l2 < 7 then
    if 0 ≤ (7 * l1) + l2 ∧ (7 * l1) + l2 < 14 then
    if 0 ≤ l2 ∧ l2 < 7 then
    md_fetches_b1 L l1 (l2 + 1) (up s 262 l2.toNat (s 282 (((7 * l1) + l2).toNat)))
    else none
    else none
  else
    ok L 0 s :=
  ((hh_Ev_eq pb_md_fetches).trans (show _ = (
  if w32 l2 < w32 7 then
    if 0 ≤ (7 * l1) + l2 ∧ (7 * l1) + l2 < 14 then
    if 0 ≤ l2 ∧ l2 < 7 then
    md_fetches_b1 L l1 (l2 + 1) (up s 262 l2.toNat (s 282 (((7 * l1) + l2).toNat)))
    else none
    else none
  else
    ok L 0 s) from rfl)).trans (by simp only [k32_7])
set_option maxRecDepth 20000 in
theorem md_plays_eq (L : Nat) (a1 : Int) (a2 : Int) (a3 : Int) (a4 : Int) (a5 : Int) (a6 : Int) (s : hh_Sv) : md_plays L a1 a2 a3 a4 a5 a6 s =
  md_plays_b1 L a1 a2 a3 a4 a5 a6 0 (up s 242 69 1) :=
  (hh_Ev_eq pb_md_plays).trans rfl
set_option maxRecDepth 20000 in
theorem md_plays_b1_eq (L : Nat) (l1 : Int) (l2 : Int) (l3 : Int) (l4 : Int) (l5 : Int) (l6 : Int) (l7 : Int) (s : hh_Sv) : md_plays_b1 L l1 l2 l3 l4 l5 l6 l7 s =
  if w32 l7 < 14 then
    if 0 ≤ l7 ∧ l7 < 14 then
    md_plays_b1 L l1 l2 l3 l4 l5 l6 (l7 + 1) (up s 282 l7.toNat 0)
    else none
  else
    md_plays_b3 L l1 l2 l3 l4 l5 l6 0 s :=
  ((hh_Ev_eq pb_md_plays).trans (show _ = (
  if w32 l7 < w32 14 then
    if 0 ≤ l7 ∧ l7 < 14 then
    md_plays_b1 L l1 l2 l3 l4 l5 l6 (l7 + 1) (up s 282 l7.toNat 0)
    else none
  else
    md_plays_b3 L l1 l2 l3 l4 l5 l6 0 s) from rfl)).trans (by simp only [k32_14])
set_option maxRecDepth 20000 in
theorem md_plays_b3_eq (L : Nat) (l1 : Int) (l2 : Int) (l3 : Int) (l4 : Int) (l5 : Int) (l6 : Int) (l7 : Int) (s : hh_Sv) : md_plays_b3 L l1 l2 l3 l4 l5 l6 l7 s =
  if w32 l7 < w32 l3 then
    if 0 < w32 (lCmp (s 242 69) 0) then
      if 0 < w32 l4 then
        if 0 ≤ 0 ∧ 0 < 14 then
        if w32 (s 282 0) < w32 l4 then
          md_plays_b4 L l1 l2 l3 l4 l5 l6 l7 s
        else
          md_plays_b5 L l1 l2 l3 l4 l5 l6 l7 1 s
        else none
      else
        md_plays_b4 L l1 l2 l3 l4 l5 l6 l7 s
    else
      ok L 0 s
  else
    ok L 0 s :=
  (hh_Ev_eq pb_md_plays).trans rfl
set_option maxRecDepth 20000 in
theorem md_plays_b4_eq (L : Nat) (l1 : Int) (l2 : Int) (l3 : Int) (l4 : Int) (l5 : Int) (l6 : Int) (l7 : Int) (s : hh_Sv) : md_plays_b4 L l1 l2 l3 l4 l5 l6 l7 s =
  md_plays_b5 L l1 l2 l3 l4 l5 l6 l7 0 s :=
  (hh_Ev_eq pb_md_plays).trans rfl
set_option maxRecDepth 20000 in
theorem md_plays_b5_eq (L : Nat) (l1 : Int) (l2 : Int) (l3 : Int) (l4 : Int) (l5 : Int) (l6 : Int) (l7 : Int) (k0 : Int) (s : hh_Sv) : md_plays_b5 L l1 l2 l3 l4 l5 l6 l7 k0 s =
  if w32 k0 = 0 then
    md_plays_b7 L l1 l2 l3 l4 l5 l6 l7 k0 (tMod (w32 l7) 2) s
  else
    md_plays_b7 L l1 l2 l3 l4 l5 l6 l7 k0 0 s :=
  ((hh_Ev_eq pb_md_plays).trans (show _ = (
  if w32 k0 = 0 then
    if w32 2 = 0 then none else
    md_plays_b7 L l1 l2 l3 l4 l5 l6 l7 k0 (tMod (w32 l7) (w32 2)) s
  else
    md_plays_b7 L l1 l2 l3 l4 l5 l6 l7 k0 0 s) from rfl)).trans (by simp only [k32_2, kz_2, if_false, if_true])
set_option maxRecDepth 20000 in
theorem md_plays_b7_eq (L : Nat) (l1 : Int) (l2 : Int) (l3 : Int) (l4 : Int) (l5 : Int) (l6 : Int) (l7 : Int) (l8 : Int) (k0 : Int) (s : hh_Sv) : md_plays_b7 L l1 l2 l3 l4 l5 l6 l7 l8 k0 s =
  if w32 k0 = 0 then
    md_plays_b9 L l1 l2 l3 l4 l5 l6 l7 l8 k0 l1 s
  else
    md_plays_b9 L l1 l2 l3 l4 l5 l6 l7 l8 k0 l2 s :=
  (hh_Ev_eq pb_md_plays).trans rfl
set_option maxRecDepth 20000 in
theorem md_plays_b9_eq (L : Nat) (l1 : Int) (l2 : Int) (l3 : Int) (l4 : Int) (l5 : Int) (l6 : Int) (l7 : Int) (l8 : Int) (l9 : Int) (k0 : Int) (s : hh_Sv) : md_plays_b9 L l1 l2 l3 l4 l5 l6 l7 l8 l9 k0 s =
  (md_fetches L l9 s).bind (fun r1 =>
  (md_hardNow L k0 r1.2.2).bind (fun r2 =>
  (md_guardNow L k0 r2.1 r2.2.2).bind (fun r3 =>
  if w32 l8 = 0 then
    md_plays_b11 L l1 l2 l3 l4 l5 l6 l7 l9 k0 r2.1 3 r3.1 0 r3.2.2
  else
    md_plays_b11 L l1 l2 l3 l4 l5 l6 l7 l9 k0 r2.1 3 r3.1 l5 r3.2.2))) :=
  (hh_Ev_eq pb_md_plays).trans rfl
set_option maxRecDepth 20000 in
theorem md_plays_b11_eq (L : Nat) (l1 : Int) (l2 : Int) (l3 : Int) (l4 : Int) (l5 : Int) (l6 : Int) (l7 : Int) (l9 : Int) (l10 : Int) (l11 : Int) (k0 : Int) (k1 : Int) (k2 : Int) (s : hh_Sv) : md_plays_b11 L l1 l2 l3 l4 l5 l6 l7 l9 l10 l11 k0 k1 k2 s =
  (jma_min L k0 (k1 + k2) s).bind (fun r1 =>
  (md_chanceNow L l10 l11 r1.1 r1.2.2).bind (fun r2 =>
  (md_has L l6 l7 r2.2.2).bind (fun r3 =>
  if w32 r3.1 = 0 then
    md_plays_b13 L l1 l2 l3 l4 l5 l6 l7 l9 l10 l11 r1.1 r3.1 (r3.2.2 242 69) (w32 (100 - r2.1)) r3.2.2
  else
    md_plays_b13 L l1 l2 l3 l4 l5 l6 l7 l9 l10 l11 r1.1 r3.1 (r3.2.2 242 69) (w32 r2.1) r3.2.2))) :=
  (hh_Ev_eq pb_md_plays).trans rfl
set_option maxRecDepth 20000 in
theorem md_plays_b13_eq (L : Nat) (l1 : Int) (l2 : Int) (l3 : Int) (l4 : Int) (l5 : Int) (l6 : Int) (l7 : Int) (l9 : Int) (l10 : Int) (l11 : Int) (l12 : Int) (l14 : Int) (k1 : Int) (k2 : Int) (s : hh_Sv) : md_plays_b13 L l1 l2 l3 l4 l5 l6 l7 l9 l10 l11 l12 l14 k1 k2 s =
  (md_goesOn L l10 l14 l11 l12 (up s 242 69 (k1 * k2))).bind (fun r1 =>
  md_plays_b14 L l1 l2 l3 l4 l5 l6 l7 l9 0 r1.2.2) :=
  (hh_Ev_eq pb_md_plays).trans rfl
set_option maxRecDepth 20000 in
theorem md_plays_b14_eq (L : Nat) (l1 : Int) (l2 : Int) (l3 : Int) (l4 : Int) (l5 : Int) (l6 : Int) (l7 : Int) (l9 : Int) (l15 : Int) (s : hh_Sv) : md_plays_b14 L l1 l2 l3 l4 l5 l6 l7 l9 l15 s =
  if w32 l15 < 7 then
    if 0 ≤ l15 ∧ l15 < 7 then
    if 0 ≤ (7 * l9) + l15 ∧ (7 * l9) + l15 < 14 then
    md_plays_b14 L l1 l2 l3 l4 l5 l6 l7 l9 (l15 + 1) (up s 282 (((7 * l9) + l15).toNat) (s 262 l15.toNat))
    else none
    else none
  else
    md_plays_b3 L l1 l2 l3 l4 l5 l6 (l7 + 1) s :=
  ((hh_Ev_eq pb_md_plays).trans (show _ = (
  if w32 l15 < w32 7 then
    if 0 ≤ l15 ∧ l15 < 7 then
    if 0 ≤ (7 * l9) + l15 ∧ (7 * l9) + l15 < 14 then
    md_plays_b14 L l1 l2 l3 l4 l5 l6 l7 l9 (l15 + 1) (up s 282 (((7 * l9) + l15).toNat) (s 262 l15.toNat))
    else none
    else none
  else
    md_plays_b3 L l1 l2 l3 l4 l5 l6 (l7 + 1) s) from rfl)).trans (by simp only [k32_7])
set_option maxRecDepth 20000 in
theorem md_give_eq (L : Nat) (a1 : Int) (a2 : Int) (a3 : Int) (a4 : Int) (a5 : Int) (a6 : Int) (s : hh_Sv) : md_give L a1 a2 a3 a4 a5 a6 s =
  (md_isThrower L a1 s).bind (fun r1 =>
  if w32 r1.1 = 0 then
    ok L (-1) r1.2.2
  else
    (md_isThrower L a2 r1.2.2).bind (fun r2 =>
    if w32 r2.1 = 0 then
      ok L (-1) r2.2.2
    else
      if w32 a1 = w32 a2 then
        ok L (-1) r2.2.2
      else
        (md_isIn L a3 1 8 r2.2.2).bind (fun r3 =>
        if w32 r3.1 = 0 then
          ok L (-1) r3.2.2
        else
          (md_isIn L a4 1 5 r3.2.2).bind (fun r4 =>
          if w32 r4.1 = 0 then
            ok L (-1) r4.2.2
          else
            (md_isIn L a5 0 3 r4.2.2).bind (fun r5 =>
            if w32 r5.1 = 0 then
              ok L (-1) r5.2.2
            else
              (md_isIn L a6 0 3 r5.2.2).bind (fun r6 =>
              if w32 r6.1 = 0 then
                ok L (-1) r6.2.2
              else
                md_give_b3 L a1 a2 a3 a4 a5 a6 0 0 r6.2.2)))))) :=
  (hh_Ev_eq pb_md_give).trans rfl
set_option maxRecDepth 20000 in
theorem md_give_b3_eq (L : Nat) (l1 : Int) (l2 : Int) (l3 : Int) (l4 : Int) (l5 : Int) (l6 : Int) (l7 : Int) (l9 : Int) (s : hh_Sv) : md_give_b3 L l1 l2 l3 l4 l5 l6 l7 l9 s =
  if w32 l9 < w32 (iShl 1 l3) then
    if w32 l6 < 2 then
      md_give_b5 L l1 l2 l3 l4 l5 l6 l7 l9 l1 l2 l3 0 s
    else
      md_give_b5 L l1 l2 l3 l4 l5 l6 l7 l9 l1 l2 l3 l4 s
  else
    (md_power L 100 l3 s).bind (fun r1 =>
    (md_is L l7 r1.1 r1.2.2).bind (fun r2 =>
    (md_tells L (tMod (w32 l6) 2) r2.2.2).bind (fun r3 =>
    ok L r3.1 r3.2.2))) :=
  ((hh_Ev_eq pb_md_give).trans (show _ = (
  if w32 l9 < w32 (iShl 1 l3) then
    if w32 l6 < w32 2 then
      md_give_b5 L l1 l2 l3 l4 l5 l6 l7 l9 l1 l2 l3 0 s
    else
      md_give_b5 L l1 l2 l3 l4 l5 l6 l7 l9 l1 l2 l3 l4 s
  else
    (md_power L 100 l3 s).bind (fun r1 =>
    (md_is L l7 r1.1 r1.2.2).bind (fun r2 =>
    if w32 2 = 0 then none else
    (md_tells L (tMod (w32 l6) (w32 2)) r2.2.2).bind (fun r3 =>
    ok L r3.1 r3.2.2)))) from rfl)).trans (by simp only [k32_2, kz_2, if_false, if_true])
set_option maxRecDepth 20000 in
theorem md_give_b5_eq (L : Nat) (l1 : Int) (l2 : Int) (l3 : Int) (l4 : Int) (l5 : Int) (l6 : Int) (l7 : Int) (l9 : Int) (k1 : Int) (k2 : Int) (k3 : Int) (k4 : Int) (s : hh_Sv) : md_give_b5 L l1 l2 l3 l4 l5 l6 l7 l9 k1 k2 k3 k4 s =
  (md_plays L k1 k2 k3 k4 l5 l9 s).bind (fun r1 =>
  (md_bits L l9 r1.2.2).bind (fun r2 =>
  md_give_b3 L l1 l2 l3 l4 l5 l6 (l7 + ((r1.2.2 242 69) * (w32 r2.1))) (l9 + 1) r2.2.2)) :=
  (hh_Ev_eq pb_md_give).trans rfl
set_option maxRecDepth 20000 in
theorem md_worlds_eq (L : Nat) (a1 : Int) (a2 : Int) (a3 : Int) (a4 : Int) (a5 : Int) (s : hh_Sv) : md_worlds L a1 a2 a3 a4 a5 s =
  (md_isThrower L a1 s).bind (fun r1 =>
  if w32 r1.1 = 0 then
    ok L (-1000000000000) r1.2.2
  else
    (md_isIn L a2 1 24 r1.2.2).bind (fun r2 =>
    if w32 r2.1 = 0 then
      ok L (-1000000000000) r2.2.2
    else
      (md_isIn L a3 1 60 r2.2.2).bind (fun r3 =>
      if w32 r3.1 = 0 then
        ok L (-1000000000000) r3.2.2
      else
        (md_isMeasure L a4 r3.2.2).bind (fun r4 =>
        if w32 r4.1 = 0 then
          ok L (-1000000000000) r4.2.2
        else
          (md_isIn L a5 0 2 r4.2.2).bind (fun r5 =>
          if w32 r5.1 = 0 then
            ok L (-1000000000000) r5.2.2
          else
            md_worlds_b3 L a1 a2 a3 a4 a5 (r5.2.2 242 4) 0 0 0 r5.2.2))))) :=
  (hh_Ev_eq pb_md_worlds).trans rfl
set_option maxRecDepth 20000 in
theorem md_worlds_b3_eq (L : Nat) (l1 : Int) (l2 : Int) (l3 : Int) (l4 : Int) (l5 : Int) (l6 : Int) (l8 : Int) (l10 : Int) (l12 : Int) (s : hh_Sv) : md_worlds_b3 L l1 l2 l3 l4 l5 l6 l8 l10 l12 s =
  if w32 l12 < w32 l3 then
    (md_begins L s).bind (fun r1 =>
    md_worlds_b4 L l1 l2 l3 l4 l5 l6 l8 l10 l12 0 0 r1.2.2)
  else
    if w32 l5 = 2 then
      ok L l10 (up s 242 4 l6)
    else
      if w32 (lCmp l10 0) = 0 then
        ok L (-1000000000000) (up s 242 4 l6)
      else
        (md_is L l8 (l10 * 5354228880) (up s 242 4 l6)).bind (fun r2 =>
        (md_tells L l5 r2.2.2).bind (fun r3 =>
        ok L r3.1 r3.2.2)) :=
  ((hh_Ev_eq pb_md_worlds).trans (show _ = (
  if w32 l12 < w32 l3 then
    (md_begins L s).bind (fun r1 =>
    md_worlds_b4 L l1 l2 l3 l4 l5 l6 l8 l10 l12 0 0 r1.2.2)
  else
    if w32 l5 = w32 2 then
      ok L l10 (up s 242 4 l6)
    else
      if w32 (lCmp l10 0) = 0 then
        ok L (-1000000000000) (up s 242 4 l6)
      else
        (md_is L l8 (l10 * 5354228880) (up s 242 4 l6)).bind (fun r2 =>
        (md_tells L l5 r2.2.2).bind (fun r3 =>
        ok L r3.1 r3.2.2))) from rfl)).trans (by simp only [k32_2])
set_option maxRecDepth 20000 in
theorem md_worlds_b4_eq (L : Nat) (l1 : Int) (l2 : Int) (l3 : Int) (l4 : Int) (l5 : Int) (l6 : Int) (l8 : Int) (l10 : Int) (l12 : Int) (l13 : Int) (l14 : Int) (s : hh_Sv) : md_worlds_b4 L l1 l2 l3 l4 l5 l6 l8 l10 l12 l13 l14 s =
  if w32 l14 < w32 l2 then
    (md_hardNow L l1 s).bind (fun r1 =>
    (md_guardNow L l1 r1.1 r1.2.2).bind (fun r2 =>
    (md_draws L r2.2.2).bind (fun r3 =>
    (md_chanceNow L l1 r1.1 r2.1 r3.2.2).bind (fun r4 =>
    if w32 r3.1 < w32 r4.1 then
      md_worlds_b6 L l1 l2 l3 l4 l5 l6 l8 l10 l12 l13 l14 r1.1 r2.1 1 r4.2.2
    else
      md_worlds_b6 L l1 l2 l3 l4 l5 l6 l8 l10 l12 l13 l14 r1.1 r2.1 0 r4.2.2))))
  else
    (md_valueOf L l4 l13 l2 s).bind (fun r5 =>
    if w32 (r5.2.2 242 42) = 0 then
      md_worlds_b3 L l1 l2 l3 l4 l5 l6 l8 l10 (l12 + 1) r5.2.2
    else
      md_worlds_b3 L l1 l2 l3 l4 l5 l6 (l8 + r5.1) (l10 + 1) (l12 + 1) r5.2.2) :=
  (hh_Ev_eq pb_md_worlds).trans rfl
set_option maxRecDepth 20000 in
theorem md_worlds_b6_eq (L : Nat) (l1 : Int) (l2 : Int) (l3 : Int) (l4 : Int) (l5 : Int) (l6 : Int) (l8 : Int) (l10 : Int) (l12 : Int) (l13 : Int) (l14 : Int) (l15 : Int) (l16 : Int) (k0 : Int) (s : hh_Sv) : md_worlds_b6 L l1 l2 l3 l4 l5 l6 l8 l10 l12 l13 l14 l15 l16 k0 s =
  (md_one L k0 s).bind (fun r1 =>
  (md_goesOn L l1 k0 l15 l16 r1.2.2).bind (fun r2 =>
  md_worlds_b4 L l1 l2 l3 l4 l5 l6 l8 l10 l12 (bOr l13 (iShl r1.1 l14)) (l14 + 1) r2.2.2)) :=
  (hh_Ev_eq pb_md_worlds).trans rfl
set_option maxRecDepth 20000 in
theorem md_foretold_eq (L : Nat) (a1 : Int) (a2 : Int) (a3 : Int) (a4 : Int) (s : hh_Sv) : md_foretold L a1 a2 a3 a4 s =
  (md_isThrower L a1 s).bind (fun r1 =>
  if w32 r1.1 = 0 then
    ok L (-1) r1.2.2
  else
    (md_isIn L a2 0 100 r1.2.2).bind (fun r2 =>
    if w32 r2.1 = 0 then
      ok L (-1) r2.2.2
    else
      (md_isIn L a3 0 100 r2.2.2).bind (fun r3 =>
      if w32 r3.1 = 0 then
        ok L (-1) r3.2.2
      else
        (md_isIn L a4 0 2 r3.2.2).bind (fun r4 =>
        if w32 r4.1 = 0 then
          ok L (-1) r4.2.2
        else
          md_foretold_b3 L a1 a2 a3 a4 0 0 0 0 r4.2.2)))) :=
  (hh_Ev_eq pb_md_foretold).trans rfl
set_option maxRecDepth 20000 in
theorem md_foretold_b3_eq (L : Nat) (l1 : Int) (l2 : Int) (l3 : Int) (l4 : Int) (l5 : Int) (l6 : Int) (l7 : Int) (l8 : Int) (s : hh_Sv) : md_foretold_b3 L l1 l2 l3 l4 l5 l6 l7 l8 s =
  if w32 l8 < w32 (s 242 3) then
    md_foretold_b4 L l1 l2 l3 l4 l5 l6 l7 l8 0 s
  else
    if w32 l4 = 0 then
      ok L l5 s
    else
      if w32 l4 = 1 then
        ok L l6 s
      else
        ok L l7 s :=
  ((hh_Ev_eq pb_md_foretold).trans (show _ = (
  if w32 l8 < w32 (s 242 3) then
    md_foretold_b4 L l1 l2 l3 l4 l5 l6 l7 l8 0 s
  else
    if w32 l4 = 0 then
      ok L l5 s
    else
      if w32 l4 = w32 1 then
        ok L l6 s
      else
        ok L l7 s) from rfl)).trans (by simp only [k32_1])
set_option maxRecDepth 20000 in
theorem md_foretold_b4_eq (L : Nat) (l1 : Int) (l2 : Int) (l3 : Int) (l4 : Int) (l5 : Int) (l6 : Int) (l7 : Int) (l8 : Int) (l9 : Int) (s : hh_Sv) : md_foretold_b4 L l1 l2 l3 l4 l5 l6 l7 l8 l9 s =
  if 0 ≤ l8 ∧ l8 < 60 then
  if w32 l9 < w32 (s 244 l8.toNat) then
    if 0 ≤ l8 ∧ l8 < 60 then
    if w32 (s 243 l8.toNat) = w32 l1 then
      (md_ahead L l8 l9 s).bind (fun r1 =>
      (md_hardAt L l8 l9 r1.2.2).bind (fun r2 =>
      (md_guardAt L l8 l9 r2.2.2).bind (fun r3 =>
      (md_chanceNow L l1 r2.1 r3.1 r3.2.2).bind (fun r4 =>
      (md_isIn L r4.1 l2 l3 r4.2.2).bind (fun r5 =>
      if w32 r5.1 = 0 then
        md_foretold_b4 L l1 l2 l3 l4 l5 l6 l7 l8 (l9 + 1) r5.2.2
      else
        (md_isHit L l8 l9 r5.2.2).bind (fun r6 =>
        (md_one L r6.1 r6.2.2).bind (fun r7 =>
        md_foretold_b4 L l1 l2 l3 l4 (l5 + r4.1) (l6 + r7.1) (l7 + 1) l8 (l9 + 1) r7.2.2)))))))
    else
      md_foretold_b3 L l1 l2 l3 l4 l5 l6 l7 (l8 + 1) s
    else none
  else
    md_foretold_b3 L l1 l2 l3 l4 l5 l6 l7 (l8 + 1) s
  else none :=
  (hh_Ev_eq pb_md_foretold).trans rfl
set_option maxRecDepth 20000 in
theorem md_heat_eq (L : Nat) (a1 : Int) (a2 : Int) (s : hh_Sv) : md_heat L a1 a2 s =
  (md_isThrower L a1 s).bind (fun r1 =>
  if w32 r1.1 = 0 then
    ok L (-1) r1.2.2
  else
    (md_isIn L a2 0 3 r1.2.2).bind (fun r2 =>
    if w32 r2.1 = 0 then
      ok L (-1) r2.2.2
    else
      md_heat_b3 L a1 a2 0 0 0 0 0 r2.2.2)) :=
  (hh_Ev_eq pb_md_heat).trans rfl
set_option maxRecDepth 20000 in
theorem md_heat_b3_eq (L : Nat) (l1 : Int) (l2 : Int) (l3 : Int) (l4 : Int) (l5 : Int) (l6 : Int) (l7 : Int) (s : hh_Sv) : md_heat_b3 L l1 l2 l3 l4 l5 l6 l7 s =
  if w32 l7 < w32 (s 242 3) then
    md_heat_b4 L l1 l2 l3 l4 l5 l6 l7 0 0 s
  else
    if w32 l2 = 0 then
      ok L l3 s
    else
      if w32 l2 = 1 then
        ok L l4 s
      else
        if w32 l2 = 2 then
          ok L l5 s
        else
          ok L l6 s :=
  ((hh_Ev_eq pb_md_heat).trans (show _ = (
  if w32 l7 < w32 (s 242 3) then
    md_heat_b4 L l1 l2 l3 l4 l5 l6 l7 0 0 s
  else
    if w32 l2 = 0 then
      ok L l3 s
    else
      if w32 l2 = w32 1 then
        ok L l4 s
      else
        if w32 l2 = w32 2 then
          ok L l5 s
        else
          ok L l6 s) from rfl)).trans (by simp only [k32_1, k32_2])
set_option maxRecDepth 20000 in
theorem md_heat_b4_eq (L : Nat) (l1 : Int) (l2 : Int) (l3 : Int) (l4 : Int) (l5 : Int) (l6 : Int) (l7 : Int) (l8 : Int) (l9 : Int) (s : hh_Sv) : md_heat_b4 L l1 l2 l3 l4 l5 l6 l7 l8 l9 s =
  if 0 ≤ l7 ∧ l7 < 60 then
  if w32 l9 < w32 (s 244 l7.toNat) then
    if 0 ≤ l7 ∧ l7 < 60 then
    if w32 (s 243 l7.toNat) = w32 l1 then
      (md_ahead L l7 l9 s).bind (fun r1 =>
      if 0 ≤ 2 ∧ 2 < 7 then
      if 0 < w32 (r1.2.2 262 2) then
        md_heat_b6 L l1 l2 l3 l4 l5 l6 l7 l8 l9 1 r1.2.2
      else
        md_heat_b6 L l1 l2 l3 l4 l5 l6 l7 l8 l9 0 r1.2.2
      else none)
    else
      md_heat_b3 L l1 l2 l3 l4 l5 l6 (l7 + 1) s
    else none
  else
    md_heat_b3 L l1 l2 l3 l4 l5 l6 (l7 + 1) s
  else none :=
  (hh_Ev_eq pb_md_heat).trans rfl
set_option maxRecDepth 20000 in
theorem md_heat_b6_eq (L : Nat) (l1 : Int) (l2 : Int) (l3 : Int) (l4 : Int) (l5 : Int) (l6 : Int) (l7 : Int) (l8 : Int) (l9 : Int) (k0 : Int) (s : hh_Sv) : md_heat_b6 L l1 l2 l3 l4 l5 l6 l7 l8 l9 k0 s =
  (md_one L k0 s).bind (fun r1 =>
  if w32 k0 = 0 then
    md_heat_b7 L l1 l2 (l3 + r1.1) l5 l6 l7 l8 l9 k0 l4 r1.2.2
  else
    (md_isHit L l7 l9 r1.2.2).bind (fun r2 =>
    if w32 r2.1 = 0 then
      md_heat_b7 L l1 l2 (l3 + r1.1) l5 l6 l7 l8 l9 k0 l4 r2.2.2
    else
      md_heat_b8 L l1 l2 (l3 + r1.1) l5 l6 l7 l8 l9 k0 l4 1 r2.2.2)) :=
  (hh_Ev_eq pb_md_heat).trans rfl
set_option maxRecDepth 20000 in
theorem md_heat_b7_eq (L : Nat) (l1 : Int) (l2 : Int) (l3 : Int) (l5 : Int) (l6 : Int) (l7 : Int) (l8 : Int) (l9 : Int) (l10 : Int) (k0 : Int) (s : hh_Sv) : md_heat_b7 L l1 l2 l3 l5 l6 l7 l8 l9 l10 k0 s =
  md_heat_b8 L l1 l2 l3 l5 l6 l7 l8 l9 l10 k0 0 s :=
  (hh_Ev_eq pb_md_heat).trans rfl
set_option maxRecDepth 20000 in
theorem md_heat_b8_eq (L : Nat) (l1 : Int) (l2 : Int) (l3 : Int) (l5 : Int) (l6 : Int) (l7 : Int) (l8 : Int) (l9 : Int) (l10 : Int) (k0 : Int) (k1 : Int) (s : hh_Sv) : md_heat_b8 L l1 l2 l3 l5 l6 l7 l8 l9 l10 k0 k1 s =
  (md_one L k1 s).bind (fun r1 =>
  if w32 l10 = 0 then
    md_heat_b9 L l1 l2 l3 (k0 + r1.1) l6 l7 l8 l9 l10 l5 r1.2.2
  else
    if w32 l8 = 0 then
      md_heat_b10 L l1 l2 l3 (k0 + r1.1) l6 l7 l8 l9 l10 l5 1 r1.2.2
    else
      md_heat_b9 L l1 l2 l3 (k0 + r1.1) l6 l7 l8 l9 l10 l5 r1.2.2) :=
  (hh_Ev_eq pb_md_heat).trans rfl
set_option maxRecDepth 20000 in
theorem md_heat_b9_eq (L : Nat) (l1 : Int) (l2 : Int) (l3 : Int) (l4 : Int) (l6 : Int) (l7 : Int) (l8 : Int) (l9 : Int) (l10 : Int) (k0 : Int) (s : hh_Sv) : md_heat_b9 L l1 l2 l3 l4 l6 l7 l8 l9 l10 k0 s =
  md_heat_b10 L l1 l2 l3 l4 l6 l7 l8 l9 l10 k0 0 s :=
  (hh_Ev_eq pb_md_heat).trans rfl
set_option maxRecDepth 20000 in
theorem md_heat_b10_eq (L : Nat) (l1 : Int) (l2 : Int) (l3 : Int) (l4 : Int) (l6 : Int) (l7 : Int) (l8 : Int) (l9 : Int) (l10 : Int) (k0 : Int) (k1 : Int) (s : hh_Sv) : md_heat_b10 L l1 l2 l3 l4 l6 l7 l8 l9 l10 k0 k1 s =
  (md_one L k1 s).bind (fun r1 =>
  if w32 l10 = 0 then
    md_heat_b12 L l1 l2 l3 l4 (k0 + r1.1) l6 l7 l9 0 r1.2.2
  else
    md_heat_b12 L l1 l2 l3 l4 (k0 + r1.1) l6 l7 l9 (l8 + 1) r1.2.2) :=
  (hh_Ev_eq pb_md_heat).trans rfl
set_option maxRecDepth 20000 in
theorem md_heat_b12_eq (L : Nat) (l1 : Int) (l2 : Int) (l3 : Int) (l4 : Int) (l5 : Int) (l6 : Int) (l7 : Int) (l9 : Int) (k0 : Int) (s : hh_Sv) : md_heat_b12 L l1 l2 l3 l4 l5 l6 l7 l9 k0 s =
  (jma_max L l6 k0 s).bind (fun r1 =>
  md_heat_b4 L l1 l2 l3 l4 l5 r1.1 l7 k0 (l9 + 1) r1.2.2) :=
  (hh_Ev_eq pb_md_heat).trans rfl
set_option maxRecDepth 20000 in
theorem md_pooled_eq (L : Nat) (a1 : Int) (s : hh_Sv) : md_pooled L a1 s =
  (md_isIn L a1 0 5 s).bind (fun r1 =>
  if w32 r1.1 = 0 then
    ok L (-1) r1.2.2
  else
    if w32 a1 < 4 then
      if w32 a1 < 2 then
        md_pooled_b3 L a1 (-1) 0 ((r1.2.2 242 3) - 1) 1 r1.2.2
      else
        md_pooled_b3 L a1 (-1) 0 ((r1.2.2 242 3) - 1) 0 r1.2.2
    else
      md_pooled_b7 L a1 0 0 r1.2.2) :=
  ((hh_Ev_eq pb_md_pooled).trans (show _ = (
  (md_isIn L a1 0 5 s).bind (fun r1 =>
  if w32 r1.1 = 0 then
    ok L (-1) r1.2.2
  else
    if w32 a1 < w32 4 then
      if w32 a1 < w32 2 then
        md_pooled_b3 L a1 (-1) 0 ((r1.2.2 242 3) - 1) 1 r1.2.2
      else
        md_pooled_b3 L a1 (-1) 0 ((r1.2.2 242 3) - 1) 0 r1.2.2
    else
      md_pooled_b7 L a1 0 0 r1.2.2)) from rfl)).trans (by simp only [k32_2, k32_4])
set_option maxRecDepth 20000 in
theorem md_pooled_b3_eq (L : Nat) (l1 : Int) (k1 : Int) (k2 : Int) (k3 : Int) (k4 : Int) (s : hh_Sv) : md_pooled_b3 L l1 k1 k2 k3 k4 s =
  (md_one L k4 s).bind (fun r1 =>
  (md_joins L k1 k2 k3 r1.1 1 r1.2.2).bind (fun r2 =>
  if w32 (tMod (w32 l1) 2) = 0 then
    ok L (r2.2.2 242 43) r2.2.2
  else
    ok L (r2.2.2 242 44) r2.2.2)) :=
  ((hh_Ev_eq pb_md_pooled).trans (show _ = (
  (md_one L k4 s).bind (fun r1 =>
  (md_joins L k1 k2 k3 r1.1 1 r1.2.2).bind (fun r2 =>
  if w32 2 = 0 then none else
  if w32 (tMod (w32 l1) (w32 2)) = 0 then
    ok L (r2.2.2 242 43) r2.2.2
  else
    ok L (r2.2.2 242 44) r2.2.2))) from rfl)).trans (by simp only [k32_2, kz_2, if_false, if_true])
set_option maxRecDepth 20000 in
theorem md_pooled_b7_eq (L : Nat) (l1 : Int) (l2 : Int) (l3 : Int) (s : hh_Sv) : md_pooled_b7 L l1 l2 l3 s =
  if w32 l3 < w32 (s 242 2) then
    (md_shares L l3 s).bind (fun r1 =>
    if w32 r1.1 = 0 then
      md_pooled_b7 L l1 l2 (l3 + 1) r1.2.2
    else
      if 0 ≤ 0 ∧ 0 < 4 then
      if 0 ≤ 3 ∧ 3 < 4 then
      if 0 ≤ 2 ∧ 2 < 4 then
      if 0 ≤ 1 ∧ 1 < 4 then
      if w32 l1 = 4 then
        if 0 < w32 (lCmp (((r1.2.2 280 0) * (r1.2.2 280 3)) - ((r1.2.2 280 2) * (r1.2.2 280 1))) 0) then
          md_pooled_b12 L l1 l3 l2 1 r1.2.2
        else
          md_pooled_b12 L l1 l3 l2 0 r1.2.2
      else
        if w32 (lCmp (((r1.2.2 280 0) * (r1.2.2 280 3)) - ((r1.2.2 280 2) * (r1.2.2 280 1))) 0) < 0 then
          md_pooled_b12 L l1 l3 l2 1 r1.2.2
        else
          md_pooled_b12 L l1 l3 l2 0 r1.2.2
      else none
      else none
      else none
      else none)
  else
    ok L l2 s :=
  ((hh_Ev_eq pb_md_pooled).trans (show _ = (
  if w32 l3 < w32 (s 242 2) then
    (md_shares L l3 s).bind (fun r1 =>
    if w32 r1.1 = 0 then
      md_pooled_b7 L l1 l2 (l3 + 1) r1.2.2
    else
      if 0 ≤ 0 ∧ 0 < 4 then
      if 0 ≤ 3 ∧ 3 < 4 then
      if 0 ≤ 2 ∧ 2 < 4 then
      if 0 ≤ 1 ∧ 1 < 4 then
      if w32 l1 = w32 4 then
        if 0 < w32 (lCmp (((r1.2.2 280 0) * (r1.2.2 280 3)) - ((r1.2.2 280 2) * (r1.2.2 280 1))) 0) then
          md_pooled_b12 L l1 l3 l2 1 r1.2.2
        else
          md_pooled_b12 L l1 l3 l2 0 r1.2.2
      else
        if w32 (lCmp (((r1.2.2 280 0) * (r1.2.2 280 3)) - ((r1.2.2 280 2) * (r1.2.2 280 1))) 0) < 0 then
          md_pooled_b12 L l1 l3 l2 1 r1.2.2
        else
          md_pooled_b12 L l1 l3 l2 0 r1.2.2
      else none
      else none
      else none
      else none)
  else
    ok L l2 s) from rfl)).trans (by simp only [k32_4])
set_option maxRecDepth 20000 in
theorem md_pooled_b12_eq (L : Nat) (l1 : Int) (l3 : Int) (k0 : Int) (k1 : Int) (s : hh_Sv) : md_pooled_b12 L l1 l3 k0 k1 s =
  (md_one L k1 s).bind (fun r1 =>
  md_pooled_b7 L l1 (k0 + r1.1) (l3 + 1) r1.2.2) :=
  (hh_Ev_eq pb_md_pooled).trans rfl
set_option maxRecDepth 20000 in
theorem md_say_eq (L : Nat) (a1 : Int) (a2 : Int) (a3 : Int) (s : hh_Sv) : md_say L a1 a2 a3 s =
  (md_isThrower L a1 s).bind (fun r1 =>
  if w32 r1.1 = 0 then
    ok L (-1) r1.2.2
  else
    (md_isIn L a2 1 9 r1.2.2).bind (fun r2 =>
    if w32 r2.1 = 0 then
      ok L (-1) r2.2.2
    else
      (md_isIn L a3 1 99 r2.2.2).bind (fun r3 =>
      if w32 r3.1 = 0 then
        ok L (-1) r3.2.2
      else
        md_say_b3 L a1 a2 a3 0 0 r3.2.2))) :=
  (hh_Ev_eq pb_md_say).trans rfl
set_option maxRecDepth 20000 in
theorem md_say_b3_eq (L : Nat) (l1 : Int) (l2 : Int) (l3 : Int) (l4 : Int) (l5 : Int) (s : hh_Sv) : md_say_b3 L l1 l2 l3 l4 l5 s =
  if w32 l5 < w32 (s 242 3) then
    if 0 ≤ l5 ∧ l5 < 60 then
    if w32 (s 243 l5.toNat) = w32 l1 then
      if 0 ≤ l5 ∧ l5 < 60 then
      (jma_max L l4 (s 244 l5.toNat) s).bind (fun r1 =>
      md_say_b3 L l1 l2 l3 r1.1 (l5 + 1) r1.2.2)
      else none
    else
      md_say_b3 L l1 l2 l3 l4 (l5 + 1) s
    else none
  else
    if w32 l4 < 2 then
      ok L (-1) s
    else
      (md_togethers L l1 s).bind (fun r2 =>
      if w32 r2.1 = 0 then
        ok L (-1) r2.2.2
      else
        (md_togetherLeast L r2.2.2).bind (fun r3 =>
        if 0 < w32 (lCmp r3.1 (((tDiv (w64 (r3.2.2 242 53)) 100) * (w32 l3)) + (tDiv (w64 ((tMod (w64 (r3.2.2 242 53)) 100) * (w32 l3))) 100))) then
          (md_hundredthsOf L l1 r3.2.2).bind (fun r4 =>
          (jma_min L 9 (tDiv (w32 r4.1) 10) r4.2.2).bind (fun r5 =>
          (jma_max L 1 r5.1 r5.2.2).bind (fun r6 =>
          (jma_min L 12 l4 r6.2.2).bind (fun r7 =>
          (md_isStrong L r7.1 r6.1 l2 l3 50 r7.2.2).bind (fun r8 =>
          (md_one L r8.1 r8.2.2).bind (fun r9 =>
          ok L r9.1 r9.2.2))))))
        else
          ok L 2 r3.2.2)) :=
  ((hh_Ev_eq pb_md_say).trans (show _ = (
  if w32 l5 < w32 (s 242 3) then
    if 0 ≤ l5 ∧ l5 < 60 then
    if w32 (s 243 l5.toNat) = w32 l1 then
      if 0 ≤ l5 ∧ l5 < 60 then
      (jma_max L l4 (s 244 l5.toNat) s).bind (fun r1 =>
      md_say_b3 L l1 l2 l3 r1.1 (l5 + 1) r1.2.2)
      else none
    else
      md_say_b3 L l1 l2 l3 l4 (l5 + 1) s
    else none
  else
    if w32 l4 < w32 2 then
      ok L (-1) s
    else
      (md_togethers L l1 s).bind (fun r2 =>
      if w32 r2.1 = 0 then
        ok L (-1) r2.2.2
      else
        (md_togetherLeast L r2.2.2).bind (fun r3 =>
        if w64 100 = 0 then none else
        if w64 100 = 0 then none else
        if w64 100 = 0 then none else
        if 0 < w32 (lCmp r3.1 (((tDiv (w64 (r3.2.2 242 53)) (w64 100)) * (w32 l3)) + (tDiv (w64 ((tMod (w64 (r3.2.2 242 53)) (w64 100)) * (w32 l3))) (w64 100)))) then
          (md_hundredthsOf L l1 r3.2.2).bind (fun r4 =>
          if w32 10 = 0 then none else
          (jma_min L 9 (tDiv (w32 r4.1) (w32 10)) r4.2.2).bind (fun r5 =>
          (jma_max L 1 r5.1 r5.2.2).bind (fun r6 =>
          (jma_min L 12 l4 r6.2.2).bind (fun r7 =>
          (md_isStrong L r7.1 r6.1 l2 l3 50 r7.2.2).bind (fun r8 =>
          (md_one L r8.1 r8.2.2).bind (fun r9 =>
          ok L r9.1 r9.2.2))))))
        else
          ok L 2 r3.2.2))) from rfl)).trans (by simp only [k32_2, k32_10, k64_100, kz_2, kz_10, kz_100, if_false, if_true])
set_option maxRecDepth 20000 in
theorem md_image_eq (L : Nat) (s : hh_Sv) : md_image L s =
  if w32 (s 242 70) = 3 then
    ok L (-1) s
  else
    if 0 ≤ s 242 70 ∧ s 242 70 < 3 then
    if 0 ≤ 3100 * (s 242 70) ∧ 3100 * (s 242 70) < 9300 then
    if 0 ≤ (3100 * (s 242 70)) + 1 ∧ (3100 * (s 242 70)) + 1 < 9300 then
    md_image_b2 L (3100 * (s 242 70)) 0 (up (up (up s 284 ((s 242 70).toNat) (s 242 4)) 283 ((3100 * (s 242 70)).toNat) (s 242 2)) 283 (((3100 * (s 242 70)) + 1).toNat) (s 242 3))
    else none
    else none
    else none :=
  ((hh_Ev_eq pb_md_image).trans (show _ = (
  if w32 (s 242 70) = w32 3 then
    ok L (-1) s
  else
    if 0 ≤ s 242 70 ∧ s 242 70 < 3 then
    if 0 ≤ 3100 * (s 242 70) ∧ 3100 * (s 242 70) < 9300 then
    if 0 ≤ (3100 * (s 242 70)) + 1 ∧ (3100 * (s 242 70)) + 1 < 9300 then
    md_image_b2 L (3100 * (s 242 70)) 0 (up (up (up s 284 ((s 242 70).toNat) (s 242 4)) 283 ((3100 * (s 242 70)).toNat) (s 242 2)) 283 (((3100 * (s 242 70)) + 1).toNat) (s 242 3))
    else none
    else none
    else none) from rfl)).trans (by simp only [k32_3])
set_option maxRecDepth 20000 in
theorem md_image_b2_eq (L : Nat) (l1 : Int) (l2 : Int) (s : hh_Sv) : md_image_b2 L l1 l2 s =
  if w32 l2 < 60 then
    if 0 ≤ l2 ∧ l2 < 60 then
    if 0 ≤ (l1 + 2) + l2 ∧ (l1 + 2) + l2 < 9300 then
    if 0 ≤ l2 ∧ l2 < 60 then
    if 0 ≤ (l1 + 62) + l2 ∧ (l1 + 62) + l2 < 9300 then
    if 0 ≤ l2 ∧ l2 < 60 then
    if 0 ≤ (l1 + 122) + l2 ∧ (l1 + 122) + l2 < 9300 then
    md_image_b2 L l1 (l2 + 1) (up (up (up s 283 (((l1 + 2) + l2).toNat) (s 243 l2.toNat)) 283 (((l1 + 62) + l2).toNat) (s 244 l2.toNat)) 283 (((l1 + 122) + l2).toNat) (s 245 l2.toNat))
    else none
    else none
    else none
    else none
    else none
    else none
  else
    md_image_b4 L l1 0 s :=
  ((hh_Ev_eq pb_md_image).trans (show _ = (
  if w32 l2 < w32 60 then
    if 0 ≤ l2 ∧ l2 < 60 then
    if 0 ≤ (l1 + 2) + l2 ∧ (l1 + 2) + l2 < 9300 then
    if 0 ≤ l2 ∧ l2 < 60 then
    if 0 ≤ (l1 + 62) + l2 ∧ (l1 + 62) + l2 < 9300 then
    if 0 ≤ l2 ∧ l2 < 60 then
    if 0 ≤ (l1 + 122) + l2 ∧ (l1 + 122) + l2 < 9300 then
    md_image_b2 L l1 (l2 + 1) (up (up (up s 283 (((l1 + 2) + l2).toNat) (s 243 l2.toNat)) 283 (((l1 + 62) + l2).toNat) (s 244 l2.toNat)) 283 (((l1 + 122) + l2).toNat) (s 245 l2.toNat))
    else none
    else none
    else none
    else none
    else none
    else none
  else
    md_image_b4 L l1 0 s) from rfl)).trans (by simp only [k32_60])
set_option maxRecDepth 20000 in
theorem md_image_b4_eq (L : Nat) (l1 : Int) (l2 : Int) (s : hh_Sv) : md_image_b4 L l1 l2 s =
  if w32 l2 < 1440 then
    if 0 ≤ l2 ∧ l2 < 1440 then
    if 0 ≤ (l1 + 182) + l2 ∧ (l1 + 182) + l2 < 9300 then
    if 0 ≤ l2 ∧ l2 < 1440 then
    if 0 ≤ (l1 + 1622) + l2 ∧ (l1 + 1622) + l2 < 9300 then
    md_image_b4 L l1 (l2 + 1) (up (up s 283 (((l1 + 182) + l2).toNat) (s 246 l2.toNat)) 283 (((l1 + 1622) + l2).toNat) (s 247 l2.toNat))
    else none
    else none
    else none
    else none
  else
    ok L (((s 242 70) + 1) - 1) (up s 242 70 ((s 242 70) + 1)) :=
  ((hh_Ev_eq pb_md_image).trans (show _ = (
  if w32 l2 < w32 1440 then
    if 0 ≤ l2 ∧ l2 < 1440 then
    if 0 ≤ (l1 + 182) + l2 ∧ (l1 + 182) + l2 < 9300 then
    if 0 ≤ l2 ∧ l2 < 1440 then
    if 0 ≤ (l1 + 1622) + l2 ∧ (l1 + 1622) + l2 < 9300 then
    md_image_b4 L l1 (l2 + 1) (up (up s 283 (((l1 + 182) + l2).toNat) (s 246 l2.toNat)) 283 (((l1 + 1622) + l2).toNat) (s 247 l2.toNat))
    else none
    else none
    else none
    else none
  else
    ok L (((s 242 70) + 1) - 1) (up s 242 70 ((s 242 70) + 1))) from rfl)).trans (by simp only [k32_1440])
set_option maxRecDepth 20000 in
theorem md_back_eq (L : Nat) (a1 : Int) (s : hh_Sv) : md_back L a1 s =
  (md_isIn L a1 0 ((s 242 70) - 1) s).bind (fun r1 =>
  if w32 r1.1 = 0 then
    ok L 0 r1.2.2
  else
    if 0 ≤ a1 ∧ a1 < 3 then
    if 0 ≤ 3100 * a1 ∧ 3100 * a1 < 9300 then
    if 0 ≤ (3100 * a1) + 1 ∧ (3100 * a1) + 1 < 9300 then
    md_back_b2 L (3100 * a1) 0 (up (up (up r1.2.2 242 4 (r1.2.2 284 a1.toNat)) 242 2 (r1.2.2 283 ((3100 * a1).toNat))) 242 3 (r1.2.2 283 (((3100 * a1) + 1).toNat)))
    else none
    else none
    else none) :=
  (hh_Ev_eq pb_md_back).trans rfl
set_option maxRecDepth 20000 in
theorem md_back_b2_eq (L : Nat) (l2 : Int) (l3 : Int) (s : hh_Sv) : md_back_b2 L l2 l3 s =
  if w32 l3 < 60 then
    if 0 ≤ (l2 + 2) + l3 ∧ (l2 + 2) + l3 < 9300 then
    if 0 ≤ l3 ∧ l3 < 60 then
    if 0 ≤ (l2 + 62) + l3 ∧ (l2 + 62) + l3 < 9300 then
    if 0 ≤ l3 ∧ l3 < 60 then
    if 0 ≤ (l2 + 122) + l3 ∧ (l2 + 122) + l3 < 9300 then
    if 0 ≤ l3 ∧ l3 < 60 then
    md_back_b2 L l2 (l3 + 1) (up (up (up s 243 l3.toNat (s 283 (((l2 + 2) + l3).toNat))) 244 l3.toNat (s 283 (((l2 + 62) + l3).toNat))) 245 l3.toNat (s 283 (((l2 + 122) + l3).toNat)))
    else none
    else none
    else none
    else none
    else none
    else none
  else
    md_back_b4 L l2 0 s :=
  ((hh_Ev_eq pb_md_back).trans (show _ = (
  if w32 l3 < w32 60 then
    if 0 ≤ (l2 + 2) + l3 ∧ (l2 + 2) + l3 < 9300 then
    if 0 ≤ l3 ∧ l3 < 60 then
    if 0 ≤ (l2 + 62) + l3 ∧ (l2 + 62) + l3 < 9300 then
    if 0 ≤ l3 ∧ l3 < 60 then
    if 0 ≤ (l2 + 122) + l3 ∧ (l2 + 122) + l3 < 9300 then
    if 0 ≤ l3 ∧ l3 < 60 then
    md_back_b2 L l2 (l3 + 1) (up (up (up s 243 l3.toNat (s 283 (((l2 + 2) + l3).toNat))) 244 l3.toNat (s 283 (((l2 + 62) + l3).toNat))) 245 l3.toNat (s 283 (((l2 + 122) + l3).toNat)))
    else none
    else none
    else none
    else none
    else none
    else none
  else
    md_back_b4 L l2 0 s) from rfl)).trans (by simp only [k32_60])
set_option maxRecDepth 20000 in
theorem md_back_b4_eq (L : Nat) (l2 : Int) (l3 : Int) (s : hh_Sv) : md_back_b4 L l2 l3 s =
  if w32 l3 < 1440 then
    if 0 ≤ (l2 + 182) + l3 ∧ (l2 + 182) + l3 < 9300 then
    if 0 ≤ l3 ∧ l3 < 1440 then
    if 0 ≤ (l2 + 1622) + l3 ∧ (l2 + 1622) + l3 < 9300 then
    if 0 ≤ l3 ∧ l3 < 1440 then
    md_back_b4 L l2 (l3 + 1) (up (up s 246 l3.toNat (s 283 (((l2 + 182) + l3).toNat))) 247 l3.toNat (s 283 (((l2 + 1622) + l3).toNat)))
    else none
    else none
    else none
    else none
  else
    ok L 1 s :=
  ((hh_Ev_eq pb_md_back).trans (show _ = (
  if w32 l3 < w32 1440 then
    if 0 ≤ (l2 + 182) + l3 ∧ (l2 + 182) + l3 < 9300 then
    if 0 ≤ l3 ∧ l3 < 1440 then
    if 0 ≤ (l2 + 1622) + l3 ∧ (l2 + 1622) + l3 < 9300 then
    if 0 ≤ l3 ∧ l3 < 1440 then
    md_back_b4 L l2 (l3 + 1) (up (up s 246 l3.toNat (s 283 (((l2 + 182) + l3).toNat))) 247 l3.toNat (s 283 (((l2 + 1622) + l3).toNat)))
    else none
    else none
    else none
    else none
  else
    ok L 1 s) from rfl)).trans (by simp only [k32_1440])
set_option maxRecDepth 20000 in
theorem md_count_eq (L : Nat) (a1 : Int) (s : hh_Sv) : md_count L a1 s =
  (md_isIn L a1 10 21 s).bind (fun r1 =>
  if w32 r1.1 = 0 then
    (md_isIn L a1 30 33 r1.2.2).bind (fun r2 =>
    if w32 r2.1 = 0 then
      if w32 a1 = 0 then
        ok L (r2.2.2 242 2) r2.2.2
      else
        if w32 a1 = 1 then
          ok L (r2.2.2 242 3) r2.2.2
        else
          if w32 a1 = 2 then
            md_count_b6 L 0 0 r2.2.2
          else
            if w32 a1 = 3 then
              md_count_b9 L 0 0 r2.2.2
            else
              if w32 a1 = 4 then
                ok L (r2.2.2 242 16) r2.2.2
              else
                if w32 a1 = 5 then
                  ok L (r2.2.2 242 70) r2.2.2
                else
                  if w32 a1 = 6 then
                    ok L (r2.2.2 242 10) r2.2.2
                  else
                    ok L (-1) r2.2.2
    else
      if 0 ≤ (12 + a1) - 30 ∧ (12 + a1) - 30 < 17 then
      ok L (r2.2.2 249 (((12 + a1) - 30).toNat)) r2.2.2
      else none)
  else
    if 0 ≤ a1 - 10 ∧ a1 - 10 < 17 then
    ok L (r1.2.2 249 ((a1 - 10).toNat)) r1.2.2
    else none) :=
  (hh_Ev_eq pb_md_count).trans rfl
set_option maxRecDepth 20000 in
theorem md_count_b6_eq (L : Nat) (l2 : Int) (l3 : Int) (s : hh_Sv) : md_count_b6 L l2 l3 s =
  if w32 l3 < w32 (s 242 3) then
    if 0 ≤ l3 ∧ l3 < 60 then
    md_count_b6 L (l2 + (s 244 l3.toNat)) (l3 + 1) s
    else none
  else
    ok L l2 s :=
  (hh_Ev_eq pb_md_count).trans rfl
set_option maxRecDepth 20000 in
theorem md_count_b9_eq (L : Nat) (l2 : Int) (l3 : Int) (s : hh_Sv) : md_count_b9 L l2 l3 s =
  if w32 l3 < w32 (s 242 3) then
    if 0 ≤ l3 ∧ l3 < 60 then
    (md_bits L (s 245 l3.toNat) s).bind (fun r1 =>
    md_count_b9 L (l2 + r1.1) (l3 + 1) r1.2.2)
    else none
  else
    ok L l2 s :=
  (hh_Ev_eq pb_md_count).trans rfl
