/-! the law's loop, as equations -/
noncomputable def lw_law_b1 (L : Nat) (l3 : Int) (s : hh_Sv) : Option hh_Rs := hh_Ev PG 38 284 1 [some (.inr (.inr 1)), some (.inr (.inr 8)), some (.inr (.inr 242)), some (.inl l3)] [] (SHc L, s)
noncomputable def lw_law_b12 (L : Nat) (l3 : Int) (k1 : Int) (k2 : Int) (s : hh_Sv) : Option hh_Rs := hh_Ev PG 38 284 12 [some (.inr (.inr 1)), some (.inr (.inr 8)), some (.inr (.inr 242)), some (.inl l3)] [.inl k2, .inl k1, .inr (.inr 8)] (SHc L, s)
noncomputable def lw_law_b14 (L : Nat) (l3 : Int) (k0 : Int) (k2 : Int) (k3 : Int) (s : hh_Sv) : Option hh_Rs := hh_Ev PG 38 284 14 [some (.inr (.inr 1)), some (.inr (.inr 8)), some (.inr (.inr 242)), some (.inl l3)] [.inl k3, .inl k2, .inr (.inr 242), .inl k0] (SHc L, s)
noncomputable def lw_law_b22 (L : Nat) (l3 : Int) (k1 : Int) (k2 : Int) (s : hh_Sv) : Option hh_Rs := hh_Ev PG 38 284 22 [some (.inr (.inr 1)), some (.inr (.inr 8)), some (.inr (.inr 242)), some (.inl l3)] [.inl k2, .inl k1, .inr (.inr 8)] (SHc L, s)
noncomputable def lw_law_b24 (L : Nat) (l3 : Int) (k0 : Int) (k2 : Int) (k3 : Int) (s : hh_Sv) : Option hh_Rs := hh_Ev PG 38 284 24 [some (.inr (.inr 1)), some (.inr (.inr 8)), some (.inr (.inr 242)), some (.inl l3)] [.inl k3, .inl k2, .inr (.inr 242), .inl k0] (SHc L, s)
noncomputable def lw_law_b49 (L : Nat) (l3 : Int) (k1 : Int) (k2 : Int) (k3 : Int) (s : hh_Sv) : Option hh_Rs := hh_Ev PG 38 284 49 [some (.inr (.inr 1)), some (.inr (.inr 8)), some (.inr (.inr 242)), some (.inl l3)] [.inl k3, .inl k2, .inl k1, .inr (.inr 8)] (SHc L, s)
noncomputable def lw_law_b51 (L : Nat) (l3 : Int) (k0 : Int) (k2 : Int) (k3 : Int) (k4 : Int) (s : hh_Sv) : Option hh_Rs := hh_Ev PG 38 284 51 [some (.inr (.inr 1)), some (.inr (.inr 8)), some (.inr (.inr 242)), some (.inl l3)] [.inl k4, .inl k3, .inl k2, .inr (.inr 242), .inl k0] (SHc L, s)
set_option maxRecDepth 20000 in
theorem lw_law_b1_eq (L : Nat) (l3 : Int) (s : hh_Sv) : lw_law_b1 L l3 s =
  if w32 ((L : Int) - 7) < w32 l3 then
    ok L 1 s
  else
    if 0 ≤ l3 ∧ l3 < (L : Int) then
    if w32 (bAnd (s 1 l3.toNat) 63) = 0 then
      if 0 ≤ l3 + 1 ∧ l3 + 1 < (L : Int) then
      if 0 ≤ l3 + 2 ∧ l3 + 2 < (L : Int) then
      if 0 ≤ l3 + 3 ∧ l3 + 3 < (L : Int) then
      if 0 ≤ l3 + 4 ∧ l3 + 4 < (L : Int) then
      if 0 ≤ l3 + 5 ∧ l3 + 5 < (L : Int) then
      (hx_feed L (s 1 ((l3 + 1).toNat)) (s 1 ((l3 + 2).toNat)) (s 1 ((l3 + 3).toNat)) (s 1 ((l3 + 4).toNat)) (s 1 ((l3 + 5).toNat)) s).bind (fun r77 =>
      if 0 ≤ l3 + 1 ∧ l3 + 1 < (L : Int) then
      if 0 ≤ l3 + 2 ∧ l3 + 2 < (L : Int) then
      if 0 ≤ l3 + 3 ∧ l3 + 3 < (L : Int) then
      if 0 ≤ l3 + 4 ∧ l3 + 4 < (L : Int) then
      if 0 ≤ l3 + 5 ∧ l3 + 5 < (L : Int) then
      (md_feed L (r77.2.2 1 ((l3 + 1).toNat)) (r77.2.2 1 ((l3 + 2).toNat)) (r77.2.2 1 ((l3 + 3).toNat)) (r77.2.2 1 ((l3 + 4).toNat)) (r77.2.2 1 ((l3 + 5).toNat)) r77.2.2).bind (fun r78 =>
      if w32 r77.1 = w32 r78.1 then
        lw_law_b1 L (l3 + 7) r78.2.2
      else
        ok L 0 r78.2.2)
      else none
      else none
      else none
      else none
      else none)
      else none
      else none
      else none
      else none
      else none
    else
      if w32 (bAnd (s 1 l3.toNat) 63) = 1 then
        (hx_thrower L s).bind (fun r75 =>
        (md_thrower L r75.2.2).bind (fun r76 =>
        if w32 r75.1 = w32 r76.1 then
          lw_law_b1 L (l3 + 7) r76.2.2
        else
          ok L 0 r76.2.2))
      else
        if w32 (bAnd (s 1 l3.toNat) 63) = 2 then
          if 0 ≤ l3 + 1 ∧ l3 + 1 < (L : Int) then
          if 0 ≤ l3 + 2 ∧ l3 + 2 < (L : Int) then
          (hx_law L (s 1 ((l3 + 1).toNat)) (s 1 ((l3 + 2).toNat)) s).bind (fun r73 =>
          if 0 ≤ l3 + 1 ∧ l3 + 1 < (L : Int) then
          if 0 ≤ l3 + 2 ∧ l3 + 2 < (L : Int) then
          (md_law L (r73.2.2 1 ((l3 + 1).toNat)) (r73.2.2 1 ((l3 + 2).toNat)) r73.2.2).bind (fun r74 =>
          if w32 r73.1 = w32 r74.1 then
            lw_law_b1 L (l3 + 7) r74.2.2
          else
            ok L 0 r74.2.2)
          else none
          else none)
          else none
          else none
        else
          if w32 (bAnd (s 1 l3.toNat) 63) = 3 then
            if 0 ≤ l3 + 1 ∧ l3 + 1 < (L : Int) then
            if 0 ≤ l3 + 2 ∧ l3 + 2 < (L : Int) then
            (hx_belief L (s 1 ((l3 + 1).toNat)) (s 1 ((l3 + 2).toNat)) s).bind (fun r71 =>
            if 0 ≤ l3 + 1 ∧ l3 + 1 < (L : Int) then
            if 0 ≤ l3 + 2 ∧ l3 + 2 < (L : Int) then
            (md_belief L (r71.2.2 1 ((l3 + 1).toNat)) (r71.2.2 1 ((l3 + 2).toNat)) r71.2.2).bind (fun r72 =>
            if w32 r71.1 = w32 r72.1 then
              lw_law_b1 L (l3 + 7) r72.2.2
            else
              ok L 0 r72.2.2)
            else none
            else none)
            else none
            else none
          else
            if w32 (bAnd (s 1 l3.toNat) 63) = 4 then
              if 0 ≤ l3 + 1 ∧ l3 + 1 < (L : Int) then
              (hx_measure L (s 1 ((l3 + 1).toNat)) s).bind (fun r69 =>
              if 0 ≤ l3 + 1 ∧ l3 + 1 < (L : Int) then
              (md_measure L (r69.2.2 1 ((l3 + 1).toNat)) r69.2.2).bind (fun r70 =>
              if w32 r69.1 = w32 r70.1 then
                lw_law_b1 L (l3 + 7) r70.2.2
              else
                ok L 0 r70.2.2)
              else none)
              else none
            else
              if w32 (bAnd (s 1 l3.toNat) 63) = 5 then
                (hx_fault L s).bind (fun r67 =>
                (md_fault L r67.2.2).bind (fun r68 =>
                if w32 r67.1 = w32 r68.1 then
                  lw_law_b1 L (l3 + 7) r68.2.2
                else
                  ok L 0 r68.2.2))
              else
                if w32 (bAnd (s 1 l3.toNat) 63) = 6 then
                  if 0 ≤ l3 + 1 ∧ l3 + 1 < (L : Int) then
                  (hx_seed L (s 1 ((l3 + 1).toNat)) s).bind (fun r65 =>
                  if 0 ≤ l3 + 1 ∧ l3 + 1 < (L : Int) then
                  (md_seed L (r65.2.2 1 ((l3 + 1).toNat)) r65.2.2).bind (fun r66 =>
                  if w32 r65.1 = w32 r66.1 then
                    lw_law_b1 L (l3 + 7) r66.2.2
                  else
                    ok L 0 r66.2.2)
                  else none)
                  else none
                else
                  if w32 (bAnd (s 1 l3.toNat) 63) = 7 then
                    if 0 ≤ l3 + 1 ∧ l3 + 1 < (L : Int) then
                    (hx_row L (s 1 ((l3 + 1).toNat)) s).bind (fun r63 =>
                    if 0 ≤ l3 + 1 ∧ l3 + 1 < (L : Int) then
                    (md_row L (r63.2.2 1 ((l3 + 1).toNat)) r63.2.2).bind (fun r64 =>
                    if w32 r63.1 = w32 r64.1 then
                      lw_law_b1 L (l3 + 7) r64.2.2
                    else
                      ok L 0 r64.2.2)
                    else none)
                    else none
                  else
                    if w32 (bAnd (s 1 l3.toNat) 63) = 8 then
                      if 0 ≤ l3 + 1 ∧ l3 + 1 < (L : Int) then
                      if 0 ≤ l3 + 2 ∧ l3 + 2 < (L : Int) then
                      if w32 (s 1 ((l3 + 2).toNat)) = 0 then
                        lw_law_b12 L l3 (s 1 ((l3 + 1).toNat)) 0 s
                      else
                        lw_law_b12 L l3 (s 1 ((l3 + 1).toNat)) 1 s
                      else none
                      else none
                    else
                      if w32 (bAnd (s 1 l3.toNat) 63) = 9 then
                        if 0 ≤ l3 + 1 ∧ l3 + 1 < (L : Int) then
                        if 0 ≤ l3 + 2 ∧ l3 + 2 < (L : Int) then
                        (hx_deal L (s 1 ((l3 + 1).toNat)) (s 1 ((l3 + 2).toNat)) s).bind (fun r61 =>
                        if 0 ≤ l3 + 1 ∧ l3 + 1 < (L : Int) then
                        if 0 ≤ l3 + 2 ∧ l3 + 2 < (L : Int) then
                        (md_deal L (r61.2.2 1 ((l3 + 1).toNat)) (r61.2.2 1 ((l3 + 2).toNat)) r61.2.2).bind (fun r62 =>
                        if w32 r61.1 = w32 r62.1 then
                          lw_law_b1 L (l3 + 7) r62.2.2
                        else
                          ok L 0 r62.2.2)
                        else none
                        else none)
                        else none
                        else none
                      else
                        if w32 (bAnd (s 1 l3.toNat) 63) = 10 then
                          if 0 ≤ l3 + 1 ∧ l3 + 1 < (L : Int) then
                          if 0 ≤ l3 + 2 ∧ l3 + 2 < (L : Int) then
                          if 0 ≤ l3 + 3 ∧ l3 + 3 < (L : Int) then
                          (hx_told L (s 1 ((l3 + 1).toNat)) (s 1 ((l3 + 2).toNat)) (s 1 ((l3 + 3).toNat)) s).bind (fun r59 =>
                          if 0 ≤ l3 + 1 ∧ l3 + 1 < (L : Int) then
                          if 0 ≤ l3 + 2 ∧ l3 + 2 < (L : Int) then
                          if 0 ≤ l3 + 3 ∧ l3 + 3 < (L : Int) then
                          (md_told L (r59.2.2 1 ((l3 + 1).toNat)) (r59.2.2 1 ((l3 + 2).toNat)) (r59.2.2 1 ((l3 + 3).toNat)) r59.2.2).bind (fun r60 =>
                          if w32 r59.1 = w32 r60.1 then
                            lw_law_b1 L (l3 + 7) r60.2.2
                          else
                            ok L 0 r60.2.2)
                          else none
                          else none
                          else none)
                          else none
                          else none
                          else none
                        else
                          if w32 (bAnd (s 1 l3.toNat) 63) = 11 then
                            if 0 ≤ l3 + 1 ∧ l3 + 1 < (L : Int) then
                            if 0 ≤ l3 + 2 ∧ l3 + 2 < (L : Int) then
                            (hx_next L (s 1 ((l3 + 1).toNat)) (s 1 ((l3 + 2).toNat)) s).bind (fun r57 =>
                            if 0 ≤ l3 + 1 ∧ l3 + 1 < (L : Int) then
                            if 0 ≤ l3 + 2 ∧ l3 + 2 < (L : Int) then
                            (md_next L (r57.2.2 1 ((l3 + 1).toNat)) (r57.2.2 1 ((l3 + 2).toNat)) r57.2.2).bind (fun r58 =>
                            if w32 r57.1 = w32 r58.1 then
                              lw_law_b1 L (l3 + 7) r58.2.2
                            else
                              ok L 0 r58.2.2)
                            else none
                            else none)
                            else none
                            else none
                          else
                            if w32 (bAnd (s 1 l3.toNat) 63) = 12 then
                              if 0 ≤ l3 + 1 ∧ l3 + 1 < (L : Int) then
                              if 0 ≤ l3 + 2 ∧ l3 + 2 < (L : Int) then
                              if 0 ≤ l3 + 3 ∧ l3 + 3 < (L : Int) then
                              (hx_value L (s 1 ((l3 + 1).toNat)) (s 1 ((l3 + 2).toNat)) (s 1 ((l3 + 3).toNat)) s).bind (fun r55 =>
                              if 0 ≤ l3 + 1 ∧ l3 + 1 < (L : Int) then
                              if 0 ≤ l3 + 2 ∧ l3 + 2 < (L : Int) then
                              if 0 ≤ l3 + 3 ∧ l3 + 3 < (L : Int) then
                              (md_value L (r55.2.2 1 ((l3 + 1).toNat)) (r55.2.2 1 ((l3 + 2).toNat)) (r55.2.2 1 ((l3 + 3).toNat)) r55.2.2).bind (fun r56 =>
                              if w32 (lCmp r55.1 r56.1) = 0 then
                                lw_law_b1 L (l3 + 7) r56.2.2
                              else
                                ok L 0 r56.2.2)
                              else none
                              else none
                              else none)
                              else none
                              else none
                              else none
                            else
                              if w32 (bAnd (s 1 l3.toNat) 63) = 13 then
                                if 0 ≤ l3 + 1 ∧ l3 + 1 < (L : Int) then
                                if 0 ≤ l3 + 2 ∧ l3 + 2 < (L : Int) then
                                if 0 ≤ l3 + 3 ∧ l3 + 3 < (L : Int) then
                                (hx_mean L (s 1 ((l3 + 1).toNat)) (s 1 ((l3 + 2).toNat)) (s 1 ((l3 + 3).toNat)) s).bind (fun r53 =>
                                if 0 ≤ l3 + 1 ∧ l3 + 1 < (L : Int) then
                                if 0 ≤ l3 + 2 ∧ l3 + 2 < (L : Int) then
                                if 0 ≤ l3 + 3 ∧ l3 + 3 < (L : Int) then
                                (md_mean L (r53.2.2 1 ((l3 + 1).toNat)) (r53.2.2 1 ((l3 + 2).toNat)) (r53.2.2 1 ((l3 + 3).toNat)) r53.2.2).bind (fun r54 =>
                                if w32 (lCmp r53.1 r54.1) = 0 then
                                  lw_law_b1 L (l3 + 7) r54.2.2
                                else
                                  ok L 0 r54.2.2)
                                else none
                                else none
                                else none)
                                else none
                                else none
                                else none
                              else
                                if w32 (bAnd (s 1 l3.toNat) 63) = 14 then
                                  if 0 ≤ l3 + 1 ∧ l3 + 1 < (L : Int) then
                                  if 0 ≤ l3 + 2 ∧ l3 + 2 < (L : Int) then
                                  if w32 (s 1 ((l3 + 2).toNat)) = 0 then
                                    lw_law_b22 L l3 (s 1 ((l3 + 1).toNat)) 0 s
                                  else
                                    lw_law_b22 L l3 (s 1 ((l3 + 1).toNat)) 1 s
                                  else none
                                  else none
                                else
                                  if w32 (bAnd (s 1 l3.toNat) 63) = 15 then
                                    if 0 ≤ l3 + 1 ∧ l3 + 1 < (L : Int) then
                                    if 0 ≤ l3 + 2 ∧ l3 + 2 < (L : Int) then
                                    if 0 ≤ l3 + 3 ∧ l3 + 3 < (L : Int) then
                                    if 0 ≤ l3 + 4 ∧ l3 + 4 < (L : Int) then
                                    (hx_lean L (s 1 ((l3 + 1).toNat)) (s 1 ((l3 + 2).toNat)) (s 1 ((l3 + 3).toNat)) (s 1 ((l3 + 4).toNat)) s).bind (fun r51 =>
                                    if 0 ≤ l3 + 1 ∧ l3 + 1 < (L : Int) then
                                    if 0 ≤ l3 + 2 ∧ l3 + 2 < (L : Int) then
                                    if 0 ≤ l3 + 3 ∧ l3 + 3 < (L : Int) then
                                    if 0 ≤ l3 + 4 ∧ l3 + 4 < (L : Int) then
                                    (md_lean L (r51.2.2 1 ((l3 + 1).toNat)) (r51.2.2 1 ((l3 + 2).toNat)) (r51.2.2 1 ((l3 + 3).toNat)) (r51.2.2 1 ((l3 + 4).toNat)) r51.2.2).bind (fun r52 =>
                                    if w32 (lCmp r51.1 r52.1) = 0 then
                                      lw_law_b1 L (l3 + 7) r52.2.2
                                    else
                                      ok L 0 r52.2.2)
                                    else none
                                    else none
                                    else none
                                    else none)
                                    else none
                                    else none
                                    else none
                                    else none
                                  else
                                    if w32 (bAnd (s 1 l3.toNat) 63) = 16 then
                                      if 0 ≤ l3 + 1 ∧ l3 + 1 < (L : Int) then
                                      if 0 ≤ l3 + 2 ∧ l3 + 2 < (L : Int) then
                                      if 0 ≤ l3 + 3 ∧ l3 + 3 < (L : Int) then
                                      if 0 ≤ l3 + 4 ∧ l3 + 4 < (L : Int) then
                                      (hx_right L (s 1 ((l3 + 1).toNat)) (s 1 ((l3 + 2).toNat)) (s 1 ((l3 + 3).toNat)) (s 1 ((l3 + 4).toNat)) s).bind (fun r49 =>
                                      if 0 ≤ l3 + 1 ∧ l3 + 1 < (L : Int) then
                                      if 0 ≤ l3 + 2 ∧ l3 + 2 < (L : Int) then
                                      if 0 ≤ l3 + 3 ∧ l3 + 3 < (L : Int) then
                                      if 0 ≤ l3 + 4 ∧ l3 + 4 < (L : Int) then
                                      (md_right L (r49.2.2 1 ((l3 + 1).toNat)) (r49.2.2 1 ((l3 + 2).toNat)) (r49.2.2 1 ((l3 + 3).toNat)) (r49.2.2 1 ((l3 + 4).toNat)) r49.2.2).bind (fun r50 =>
                                      if w32 (lCmp r49.1 r50.1) = 0 then
                                        lw_law_b1 L (l3 + 7) r50.2.2
                                      else
                                        ok L 0 r50.2.2)
                                      else none
                                      else none
                                      else none
                                      else none)
                                      else none
                                      else none
                                      else none
                                      else none
                                    else
                                      if w32 (bAnd (s 1 l3.toNat) 63) = 17 then
                                        if 0 ≤ l3 + 1 ∧ l3 + 1 < (L : Int) then
                                        if 0 ≤ l3 + 2 ∧ l3 + 2 < (L : Int) then
                                        if 0 ≤ l3 + 3 ∧ l3 + 3 < (L : Int) then
                                        (hx_shuffle L (s 1 ((l3 + 1).toNat)) (s 1 ((l3 + 2).toNat)) (s 1 ((l3 + 3).toNat)) s).bind (fun r47 =>
                                        if 0 ≤ l3 + 1 ∧ l3 + 1 < (L : Int) then
                                        if 0 ≤ l3 + 2 ∧ l3 + 2 < (L : Int) then
                                        if 0 ≤ l3 + 3 ∧ l3 + 3 < (L : Int) then
                                        (md_shuffle L (r47.2.2 1 ((l3 + 1).toNat)) (r47.2.2 1 ((l3 + 2).toNat)) (r47.2.2 1 ((l3 + 3).toNat)) r47.2.2).bind (fun r48 =>
                                        if w32 (lCmp r47.1 r48.1) = 0 then
                                          lw_law_b1 L (l3 + 7) r48.2.2
                                        else
                                          ok L 0 r48.2.2)
                                        else none
                                        else none
                                        else none)
                                        else none
                                        else none
                                        else none
                                      else
                                        if w32 (bAnd (s 1 l3.toNat) 63) = 18 then
                                          if 0 ≤ l3 + 1 ∧ l3 + 1 < (L : Int) then
                                          if 0 ≤ l3 + 2 ∧ l3 + 2 < (L : Int) then
                                          (hx_together L (s 1 ((l3 + 1).toNat)) (s 1 ((l3 + 2).toNat)) s).bind (fun r45 =>
                                          if 0 ≤ l3 + 1 ∧ l3 + 1 < (L : Int) then
                                          if 0 ≤ l3 + 2 ∧ l3 + 2 < (L : Int) then
                                          (md_together L (r45.2.2 1 ((l3 + 1).toNat)) (r45.2.2 1 ((l3 + 2).toNat)) r45.2.2).bind (fun r46 =>
                                          if w32 (lCmp r45.1 r46.1) = 0 then
                                            lw_law_b1 L (l3 + 7) r46.2.2
                                          else
                                            ok L 0 r46.2.2)
                                          else none
                                          else none)
                                          else none
                                          else none
                                        else
                                          if w32 (bAnd (s 1 l3.toNat) 63) = 19 then
                                            if 0 ≤ l3 + 1 ∧ l3 + 1 < (L : Int) then
                                            if 0 ≤ l3 + 2 ∧ l3 + 2 < (L : Int) then
                                            (hx_streak L (s 1 ((l3 + 1).toNat)) (s 1 ((l3 + 2).toNat)) s).bind (fun r43 =>
                                            if 0 ≤ l3 + 1 ∧ l3 + 1 < (L : Int) then
                                            if 0 ≤ l3 + 2 ∧ l3 + 2 < (L : Int) then
                                            (md_streak L (r43.2.2 1 ((l3 + 1).toNat)) (r43.2.2 1 ((l3 + 2).toNat)) r43.2.2).bind (fun r44 =>
                                            if w32 (lCmp r43.1 r44.1) = 0 then
                                              lw_law_b1 L (l3 + 7) r44.2.2
                                            else
                                              ok L 0 r44.2.2)
                                            else none
                                            else none)
                                            else none
                                            else none
                                          else
                                            if w32 (bAnd (s 1 l3.toNat) 63) = 20 then
                                              if 0 ≤ l3 + 1 ∧ l3 + 1 < (L : Int) then
                                              if 0 ≤ l3 + 2 ∧ l3 + 2 < (L : Int) then
                                              if 0 ≤ l3 + 3 ∧ l3 + 3 < (L : Int) then
                                              if 0 ≤ l3 + 4 ∧ l3 + 4 < (L : Int) then
                                              if 0 ≤ l3 + 5 ∧ l3 + 5 < (L : Int) then
                                              (hx_power L (s 1 ((l3 + 1).toNat)) (s 1 ((l3 + 2).toNat)) (s 1 ((l3 + 3).toNat)) (s 1 ((l3 + 4).toNat)) (s 1 ((l3 + 5).toNat)) s).bind (fun r41 =>
                                              if 0 ≤ l3 + 1 ∧ l3 + 1 < (L : Int) then
                                              if 0 ≤ l3 + 2 ∧ l3 + 2 < (L : Int) then
                                              if 0 ≤ l3 + 3 ∧ l3 + 3 < (L : Int) then
                                              if 0 ≤ l3 + 4 ∧ l3 + 4 < (L : Int) then
                                              if 0 ≤ l3 + 5 ∧ l3 + 5 < (L : Int) then
                                              (md_power_ L (r41.2.2 1 ((l3 + 1).toNat)) (r41.2.2 1 ((l3 + 2).toNat)) (r41.2.2 1 ((l3 + 3).toNat)) (r41.2.2 1 ((l3 + 4).toNat)) (r41.2.2 1 ((l3 + 5).toNat)) r41.2.2).bind (fun r42 =>
                                              if w32 (lCmp r41.1 r42.1) = 0 then
                                                lw_law_b1 L (l3 + 7) r42.2.2
                                              else
                                                ok L 0 r42.2.2)
                                              else none
                                              else none
                                              else none
                                              else none
                                              else none)
                                              else none
                                              else none
                                              else none
                                              else none
                                              else none
                                            else
                                              if w32 (bAnd (s 1 l3.toNat) 63) = 21 then
                                                if 0 ≤ l3 + 1 ∧ l3 + 1 < (L : Int) then
                                                if 0 ≤ l3 + 2 ∧ l3 + 2 < (L : Int) then
                                                if 0 ≤ l3 + 3 ∧ l3 + 3 < (L : Int) then
                                                if 0 ≤ l3 + 4 ∧ l3 + 4 < (L : Int) then
                                                (hx_need L (s 1 ((l3 + 1).toNat)) (s 1 ((l3 + 2).toNat)) (s 1 ((l3 + 3).toNat)) (s 1 ((l3 + 4).toNat)) s).bind (fun r39 =>
                                                if 0 ≤ l3 + 1 ∧ l3 + 1 < (L : Int) then
                                                if 0 ≤ l3 + 2 ∧ l3 + 2 < (L : Int) then
                                                if 0 ≤ l3 + 3 ∧ l3 + 3 < (L : Int) then
                                                if 0 ≤ l3 + 4 ∧ l3 + 4 < (L : Int) then
                                                (md_need L (r39.2.2 1 ((l3 + 1).toNat)) (r39.2.2 1 ((l3 + 2).toNat)) (r39.2.2 1 ((l3 + 3).toNat)) (r39.2.2 1 ((l3 + 4).toNat)) r39.2.2).bind (fun r40 =>
                                                if w32 r39.1 = w32 r40.1 then
                                                  lw_law_b1 L (l3 + 7) r40.2.2
                                                else
                                                  ok L 0 r40.2.2)
                                                else none
                                                else none
                                                else none
                                                else none)
                                                else none
                                                else none
                                                else none
                                                else none
                                              else
                                                if w32 (bAnd (s 1 l3.toNat) 63) = 22 then
                                                  if 0 ≤ l3 + 1 ∧ l3 + 1 < (L : Int) then
                                                  if 0 ≤ l3 + 2 ∧ l3 + 2 < (L : Int) then
                                                  if 0 ≤ l3 + 3 ∧ l3 + 3 < (L : Int) then
                                                  if 0 ≤ l3 + 4 ∧ l3 + 4 < (L : Int) then
                                                  (hx_strong L (s 1 ((l3 + 1).toNat)) (s 1 ((l3 + 2).toNat)) (s 1 ((l3 + 3).toNat)) (s 1 ((l3 + 4).toNat)) s).bind (fun r37 =>
                                                  if 0 ≤ l3 + 1 ∧ l3 + 1 < (L : Int) then
                                                  if 0 ≤ l3 + 2 ∧ l3 + 2 < (L : Int) then
                                                  if 0 ≤ l3 + 3 ∧ l3 + 3 < (L : Int) then
                                                  if 0 ≤ l3 + 4 ∧ l3 + 4 < (L : Int) then
                                                  (md_strong L (r37.2.2 1 ((l3 + 1).toNat)) (r37.2.2 1 ((l3 + 2).toNat)) (r37.2.2 1 ((l3 + 3).toNat)) (r37.2.2 1 ((l3 + 4).toNat)) r37.2.2).bind (fun r38 =>
                                                  if w32 r37.1 = w32 r38.1 then
                                                    lw_law_b1 L (l3 + 7) r38.2.2
                                                  else
                                                    ok L 0 r38.2.2)
                                                  else none
                                                  else none
                                                  else none
                                                  else none)
                                                  else none
                                                  else none
                                                  else none
                                                  else none
                                                else
                                                  if w32 (bAnd (s 1 l3.toNat) 63) = 23 then
                                                    if 0 ≤ l3 + 1 ∧ l3 + 1 < (L : Int) then
                                                    if 0 ≤ l3 + 2 ∧ l3 + 2 < (L : Int) then
                                                    if 0 ≤ l3 + 3 ∧ l3 + 3 < (L : Int) then
                                                    (hx_hards L (s 1 ((l3 + 1).toNat)) (s 1 ((l3 + 2).toNat)) (s 1 ((l3 + 3).toNat)) s).bind (fun r35 =>
                                                    if 0 ≤ l3 + 1 ∧ l3 + 1 < (L : Int) then
                                                    if 0 ≤ l3 + 2 ∧ l3 + 2 < (L : Int) then
                                                    if 0 ≤ l3 + 3 ∧ l3 + 3 < (L : Int) then
                                                    (md_hards L (r35.2.2 1 ((l3 + 1).toNat)) (r35.2.2 1 ((l3 + 2).toNat)) (r35.2.2 1 ((l3 + 3).toNat)) r35.2.2).bind (fun r36 =>
                                                    if w32 r35.1 = w32 r36.1 then
                                                      lw_law_b1 L (l3 + 7) r36.2.2
                                                    else
                                                      ok L 0 r36.2.2)
                                                    else none
                                                    else none
                                                    else none)
                                                    else none
                                                    else none
                                                    else none
                                                  else
                                                    if w32 (bAnd (s 1 l3.toNat) 63) = 24 then
                                                      if 0 ≤ l3 + 1 ∧ l3 + 1 < (L : Int) then
                                                      if 0 ≤ l3 + 2 ∧ l3 + 2 < (L : Int) then
                                                      (hx_off L (s 1 ((l3 + 1).toNat)) (s 1 ((l3 + 2).toNat)) s).bind (fun r33 =>
                                                      if 0 ≤ l3 + 1 ∧ l3 + 1 < (L : Int) then
                                                      if 0 ≤ l3 + 2 ∧ l3 + 2 < (L : Int) then
                                                      (md_off L (r33.2.2 1 ((l3 + 1).toNat)) (r33.2.2 1 ((l3 + 2).toNat)) r33.2.2).bind (fun r34 =>
                                                      if w32 (lCmp r33.1 r34.1) = 0 then
                                                        lw_law_b1 L (l3 + 7) r34.2.2
                                                      else
                                                        ok L 0 r34.2.2)
                                                      else none
                                                      else none)
                                                      else none
                                                      else none
                                                    else
                                                      if w32 (bAnd (s 1 l3.toNat) 63) = 25 then
                                                        if 0 ≤ l3 + 1 ∧ l3 + 1 < (L : Int) then
                                                        if 0 ≤ l3 + 2 ∧ l3 + 2 < (L : Int) then
                                                        (hx_chosen L (s 1 ((l3 + 1).toNat)) (s 1 ((l3 + 2).toNat)) s).bind (fun r31 =>
                                                        if 0 ≤ l3 + 1 ∧ l3 + 1 < (L : Int) then
                                                        if 0 ≤ l3 + 2 ∧ l3 + 2 < (L : Int) then
                                                        (md_chosen L (r31.2.2 1 ((l3 + 1).toNat)) (r31.2.2 1 ((l3 + 2).toNat)) r31.2.2).bind (fun r32 =>
                                                        if w32 (lCmp r31.1 r32.1) = 0 then
                                                          lw_law_b1 L (l3 + 7) r32.2.2
                                                        else
                                                          ok L 0 r32.2.2)
                                                        else none
                                                        else none)
                                                        else none
                                                        else none
                                                      else
                                                        if w32 (bAnd (s 1 l3.toNat) 63) = 26 then
                                                          if 0 ≤ l3 + 1 ∧ l3 + 1 < (L : Int) then
                                                          (hx_hundredths L (s 1 ((l3 + 1).toNat)) s).bind (fun r29 =>
                                                          if 0 ≤ l3 + 1 ∧ l3 + 1 < (L : Int) then
                                                          (md_hundredths L (r29.2.2 1 ((l3 + 1).toNat)) r29.2.2).bind (fun r30 =>
                                                          if w32 r29.1 = w32 r30.1 then
                                                            lw_law_b1 L (l3 + 7) r30.2.2
                                                          else
                                                            ok L 0 r30.2.2)
                                                          else none)
                                                          else none
                                                        else
                                                          if w32 (bAnd (s 1 l3.toNat) 63) = 27 then
                                                            if 0 ≤ l3 + 1 ∧ l3 + 1 < (L : Int) then
                                                            if 0 ≤ l3 + 2 ∧ l3 + 2 < (L : Int) then
                                                            (hx_groups L (s 1 ((l3 + 1).toNat)) (s 1 ((l3 + 2).toNat)) s).bind (fun r27 =>
                                                            if 0 ≤ l3 + 1 ∧ l3 + 1 < (L : Int) then
                                                            if 0 ≤ l3 + 2 ∧ l3 + 2 < (L : Int) then
                                                            (md_groups L (r27.2.2 1 ((l3 + 1).toNat)) (r27.2.2 1 ((l3 + 2).toNat)) r27.2.2).bind (fun r28 =>
                                                            if w32 r27.1 = w32 r28.1 then
                                                              lw_law_b1 L (l3 + 7) r28.2.2
                                                            else
                                                              ok L 0 r28.2.2)
                                                            else none
                                                            else none)
                                                            else none
                                                            else none
                                                          else
                                                            if w32 (bAnd (s 1 l3.toNat) 63) = 28 then
                                                              if 0 ≤ l3 + 1 ∧ l3 + 1 < (L : Int) then
                                                              (hx_above L (s 1 ((l3 + 1).toNat)) s).bind (fun r25 =>
                                                              if 0 ≤ l3 + 1 ∧ l3 + 1 < (L : Int) then
                                                              (md_above L (r25.2.2 1 ((l3 + 1).toNat)) r25.2.2).bind (fun r26 =>
                                                              if w32 r25.1 = w32 r26.1 then
                                                                lw_law_b1 L (l3 + 7) r26.2.2
                                                              else
                                                                ok L 0 r26.2.2)
                                                              else none)
                                                              else none
                                                            else
                                                              if w32 (bAnd (s 1 l3.toNat) 63) = 29 then
                                                                if 0 ≤ l3 + 1 ∧ l3 + 1 < (L : Int) then
                                                                if 0 ≤ l3 + 2 ∧ l3 + 2 < (L : Int) then
                                                                if 0 ≤ l3 + 3 ∧ l3 + 3 < (L : Int) then
                                                                if 0 ≤ l3 + 4 ∧ l3 + 4 < (L : Int) then
                                                                if 0 ≤ l3 + 5 ∧ l3 + 5 < (L : Int) then
                                                                (hx_hidden L (s 1 ((l3 + 1).toNat)) (s 1 ((l3 + 2).toNat)) (s 1 ((l3 + 3).toNat)) (s 1 ((l3 + 4).toNat)) (s 1 ((l3 + 5).toNat)) s).bind (fun r23 =>
                                                                if 0 ≤ l3 + 1 ∧ l3 + 1 < (L : Int) then
                                                                if 0 ≤ l3 + 2 ∧ l3 + 2 < (L : Int) then
                                                                if 0 ≤ l3 + 3 ∧ l3 + 3 < (L : Int) then
                                                                if 0 ≤ l3 + 4 ∧ l3 + 4 < (L : Int) then
                                                                if 0 ≤ l3 + 5 ∧ l3 + 5 < (L : Int) then
                                                                (md_hidden L (r23.2.2 1 ((l3 + 1).toNat)) (r23.2.2 1 ((l3 + 2).toNat)) (r23.2.2 1 ((l3 + 3).toNat)) (r23.2.2 1 ((l3 + 4).toNat)) (r23.2.2 1 ((l3 + 5).toNat)) r23.2.2).bind (fun r24 =>
                                                                if w32 (lCmp r23.1 r24.1) = 0 then
                                                                  lw_law_b1 L (l3 + 7) r24.2.2
                                                                else
                                                                  ok L 0 r24.2.2)
                                                                else none
                                                                else none
                                                                else none
                                                                else none
                                                                else none)
                                                                else none
                                                                else none
                                                                else none
                                                                else none
                                                                else none
                                                              else
                                                                if w32 (bAnd (s 1 l3.toNat) 63) = 30 then
                                                                  if 0 ≤ l3 + 1 ∧ l3 + 1 < (L : Int) then
                                                                  if 0 ≤ l3 + 2 ∧ l3 + 2 < (L : Int) then
                                                                  if 0 ≤ l3 + 3 ∧ l3 + 3 < (L : Int) then
                                                                  (hx_bets L (s 1 ((l3 + 1).toNat)) (s 1 ((l3 + 2).toNat)) (s 1 ((l3 + 3).toNat)) s).bind (fun r21 =>
                                                                  if 0 ≤ l3 + 1 ∧ l3 + 1 < (L : Int) then
                                                                  if 0 ≤ l3 + 2 ∧ l3 + 2 < (L : Int) then
                                                                  if 0 ≤ l3 + 3 ∧ l3 + 3 < (L : Int) then
                                                                  (md_bets L (r21.2.2 1 ((l3 + 1).toNat)) (r21.2.2 1 ((l3 + 2).toNat)) (r21.2.2 1 ((l3 + 3).toNat)) r21.2.2).bind (fun r22 =>
                                                                  if w32 r21.1 = w32 r22.1 then
                                                                    lw_law_b1 L (l3 + 7) r22.2.2
                                                                  else
                                                                    ok L 0 r22.2.2)
                                                                  else none
                                                                  else none
                                                                  else none)
                                                                  else none
                                                                  else none
                                                                  else none
                                                                else
                                                                  if w32 (bAnd (s 1 l3.toNat) 63) = 31 then
                                                                    if 0 ≤ l3 + 1 ∧ l3 + 1 < (L : Int) then
                                                                    if 0 ≤ l3 + 2 ∧ l3 + 2 < (L : Int) then
                                                                    if 0 ≤ l3 + 3 ∧ l3 + 3 < (L : Int) then
                                                                    (hx_odds L (s 1 ((l3 + 1).toNat)) (s 1 ((l3 + 2).toNat)) (s 1 ((l3 + 3).toNat)) s).bind (fun r19 =>
                                                                    if 0 ≤ l3 + 1 ∧ l3 + 1 < (L : Int) then
                                                                    if 0 ≤ l3 + 2 ∧ l3 + 2 < (L : Int) then
                                                                    if 0 ≤ l3 + 3 ∧ l3 + 3 < (L : Int) then
                                                                    (md_odds L (r19.2.2 1 ((l3 + 1).toNat)) (r19.2.2 1 ((l3 + 2).toNat)) (r19.2.2 1 ((l3 + 3).toNat)) r19.2.2).bind (fun r20 =>
                                                                    if w32 (lCmp r19.1 r20.1) = 0 then
                                                                      lw_law_b1 L (l3 + 7) r20.2.2
                                                                    else
                                                                      ok L 0 r20.2.2)
                                                                    else none
                                                                    else none
                                                                    else none)
                                                                    else none
                                                                    else none
                                                                    else none
                                                                  else
                                                                    if w32 (bAnd (s 1 l3.toNat) 63) = 32 then
                                                                      if 0 ≤ l3 + 1 ∧ l3 + 1 < (L : Int) then
                                                                      if 0 ≤ l3 + 2 ∧ l3 + 2 < (L : Int) then
                                                                      if 0 ≤ l3 + 3 ∧ l3 + 3 < (L : Int) then
                                                                      if 0 ≤ l3 + 4 ∧ l3 + 4 < (L : Int) then
                                                                      if 0 ≤ l3 + 5 ∧ l3 + 5 < (L : Int) then
                                                                      if 0 ≤ l3 + 6 ∧ l3 + 6 < (L : Int) then
                                                                      (hx_give L (s 1 ((l3 + 1).toNat)) (s 1 ((l3 + 2).toNat)) (s 1 ((l3 + 3).toNat)) (s 1 ((l3 + 4).toNat)) (s 1 ((l3 + 5).toNat)) (s 1 ((l3 + 6).toNat)) s).bind (fun r17 =>
                                                                      if 0 ≤ l3 + 1 ∧ l3 + 1 < (L : Int) then
                                                                      if 0 ≤ l3 + 2 ∧ l3 + 2 < (L : Int) then
                                                                      if 0 ≤ l3 + 3 ∧ l3 + 3 < (L : Int) then
                                                                      if 0 ≤ l3 + 4 ∧ l3 + 4 < (L : Int) then
                                                                      if 0 ≤ l3 + 5 ∧ l3 + 5 < (L : Int) then
                                                                      if 0 ≤ l3 + 6 ∧ l3 + 6 < (L : Int) then
                                                                      (md_give L (r17.2.2 1 ((l3 + 1).toNat)) (r17.2.2 1 ((l3 + 2).toNat)) (r17.2.2 1 ((l3 + 3).toNat)) (r17.2.2 1 ((l3 + 4).toNat)) (r17.2.2 1 ((l3 + 5).toNat)) (r17.2.2 1 ((l3 + 6).toNat)) r17.2.2).bind (fun r18 =>
                                                                      if w32 (lCmp r17.1 r18.1) = 0 then
                                                                        lw_law_b1 L (l3 + 7) r18.2.2
                                                                      else
                                                                        ok L 0 r18.2.2)
                                                                      else none
                                                                      else none
                                                                      else none
                                                                      else none
                                                                      else none
                                                                      else none)
                                                                      else none
                                                                      else none
                                                                      else none
                                                                      else none
                                                                      else none
                                                                      else none
                                                                    else
                                                                      if w32 (bAnd (s 1 l3.toNat) 63) = 33 then
                                                                        if 0 ≤ l3 + 1 ∧ l3 + 1 < (L : Int) then
                                                                        if 0 ≤ l3 + 2 ∧ l3 + 2 < (L : Int) then
                                                                        if 0 ≤ l3 + 3 ∧ l3 + 3 < (L : Int) then
                                                                        if 0 ≤ l3 + 4 ∧ l3 + 4 < (L : Int) then
                                                                        if 0 ≤ l3 + 5 ∧ l3 + 5 < (L : Int) then
                                                                        (hx_worlds L (s 1 ((l3 + 1).toNat)) (s 1 ((l3 + 2).toNat)) (s 1 ((l3 + 3).toNat)) (s 1 ((l3 + 4).toNat)) (s 1 ((l3 + 5).toNat)) s).bind (fun r15 =>
                                                                        if 0 ≤ l3 + 1 ∧ l3 + 1 < (L : Int) then
                                                                        if 0 ≤ l3 + 2 ∧ l3 + 2 < (L : Int) then
                                                                        if 0 ≤ l3 + 3 ∧ l3 + 3 < (L : Int) then
                                                                        if 0 ≤ l3 + 4 ∧ l3 + 4 < (L : Int) then
                                                                        if 0 ≤ l3 + 5 ∧ l3 + 5 < (L : Int) then
                                                                        (md_worlds L (r15.2.2 1 ((l3 + 1).toNat)) (r15.2.2 1 ((l3 + 2).toNat)) (r15.2.2 1 ((l3 + 3).toNat)) (r15.2.2 1 ((l3 + 4).toNat)) (r15.2.2 1 ((l3 + 5).toNat)) r15.2.2).bind (fun r16 =>
                                                                        if w32 (lCmp r15.1 r16.1) = 0 then
                                                                          lw_law_b1 L (l3 + 7) r16.2.2
                                                                        else
                                                                          ok L 0 r16.2.2)
                                                                        else none
                                                                        else none
                                                                        else none
                                                                        else none
                                                                        else none)
                                                                        else none
                                                                        else none
                                                                        else none
                                                                        else none
                                                                        else none
                                                                      else
                                                                        if w32 (bAnd (s 1 l3.toNat) 63) = 34 then
                                                                          if 0 ≤ l3 + 1 ∧ l3 + 1 < (L : Int) then
                                                                          if 0 ≤ l3 + 2 ∧ l3 + 2 < (L : Int) then
                                                                          if 0 ≤ l3 + 3 ∧ l3 + 3 < (L : Int) then
                                                                          if 0 ≤ l3 + 4 ∧ l3 + 4 < (L : Int) then
                                                                          (hx_foretold L (s 1 ((l3 + 1).toNat)) (s 1 ((l3 + 2).toNat)) (s 1 ((l3 + 3).toNat)) (s 1 ((l3 + 4).toNat)) s).bind (fun r13 =>
                                                                          if 0 ≤ l3 + 1 ∧ l3 + 1 < (L : Int) then
                                                                          if 0 ≤ l3 + 2 ∧ l3 + 2 < (L : Int) then
                                                                          if 0 ≤ l3 + 3 ∧ l3 + 3 < (L : Int) then
                                                                          if 0 ≤ l3 + 4 ∧ l3 + 4 < (L : Int) then
                                                                          (md_foretold L (r13.2.2 1 ((l3 + 1).toNat)) (r13.2.2 1 ((l3 + 2).toNat)) (r13.2.2 1 ((l3 + 3).toNat)) (r13.2.2 1 ((l3 + 4).toNat)) r13.2.2).bind (fun r14 =>
                                                                          if w32 r13.1 = w32 r14.1 then
                                                                            lw_law_b1 L (l3 + 7) r14.2.2
                                                                          else
                                                                            ok L 0 r14.2.2)
                                                                          else none
                                                                          else none
                                                                          else none
                                                                          else none)
                                                                          else none
                                                                          else none
                                                                          else none
                                                                          else none
                                                                        else
                                                                          if w32 (bAnd (s 1 l3.toNat) 63) = 35 then
                                                                            if 0 ≤ l3 + 1 ∧ l3 + 1 < (L : Int) then
                                                                            if 0 ≤ l3 + 2 ∧ l3 + 2 < (L : Int) then
                                                                            (hx_heat L (s 1 ((l3 + 1).toNat)) (s 1 ((l3 + 2).toNat)) s).bind (fun r11 =>
                                                                            if 0 ≤ l3 + 1 ∧ l3 + 1 < (L : Int) then
                                                                            if 0 ≤ l3 + 2 ∧ l3 + 2 < (L : Int) then
                                                                            (md_heat L (r11.2.2 1 ((l3 + 1).toNat)) (r11.2.2 1 ((l3 + 2).toNat)) r11.2.2).bind (fun r12 =>
                                                                            if w32 r11.1 = w32 r12.1 then
                                                                              lw_law_b1 L (l3 + 7) r12.2.2
                                                                            else
                                                                              ok L 0 r12.2.2)
                                                                            else none
                                                                            else none)
                                                                            else none
                                                                            else none
                                                                          else
                                                                            if w32 (bAnd (s 1 l3.toNat) 63) = 36 then
                                                                              if 0 ≤ l3 + 1 ∧ l3 + 1 < (L : Int) then
                                                                              (hx_pooled L (s 1 ((l3 + 1).toNat)) s).bind (fun r9 =>
                                                                              if 0 ≤ l3 + 1 ∧ l3 + 1 < (L : Int) then
                                                                              (md_pooled L (r9.2.2 1 ((l3 + 1).toNat)) r9.2.2).bind (fun r10 =>
                                                                              if w32 r9.1 = w32 r10.1 then
                                                                                lw_law_b1 L (l3 + 7) r10.2.2
                                                                              else
                                                                                ok L 0 r10.2.2)
                                                                              else none)
                                                                              else none
                                                                            else
                                                                              if w32 (bAnd (s 1 l3.toNat) 63) = 37 then
                                                                                if 0 ≤ l3 + 1 ∧ l3 + 1 < (L : Int) then
                                                                                if 0 ≤ l3 + 2 ∧ l3 + 2 < (L : Int) then
                                                                                if 0 ≤ l3 + 3 ∧ l3 + 3 < (L : Int) then
                                                                                if w32 (s 1 ((l3 + 3).toNat)) = 0 then
                                                                                  lw_law_b49 L l3 (s 1 ((l3 + 1).toNat)) (s 1 ((l3 + 2).toNat)) 0 s
                                                                                else
                                                                                  lw_law_b49 L l3 (s 1 ((l3 + 1).toNat)) (s 1 ((l3 + 2).toNat)) 1 s
                                                                                else none
                                                                                else none
                                                                                else none
                                                                              else
                                                                                if w32 (bAnd (s 1 l3.toNat) 63) = 38 then
                                                                                  if 0 ≤ l3 + 1 ∧ l3 + 1 < (L : Int) then
                                                                                  if 0 ≤ l3 + 2 ∧ l3 + 2 < (L : Int) then
                                                                                  if 0 ≤ l3 + 3 ∧ l3 + 3 < (L : Int) then
                                                                                  (hx_say L (s 1 ((l3 + 1).toNat)) (s 1 ((l3 + 2).toNat)) (s 1 ((l3 + 3).toNat)) s).bind (fun r7 =>
                                                                                  if 0 ≤ l3 + 1 ∧ l3 + 1 < (L : Int) then
                                                                                  if 0 ≤ l3 + 2 ∧ l3 + 2 < (L : Int) then
                                                                                  if 0 ≤ l3 + 3 ∧ l3 + 3 < (L : Int) then
                                                                                  (md_say L (r7.2.2 1 ((l3 + 1).toNat)) (r7.2.2 1 ((l3 + 2).toNat)) (r7.2.2 1 ((l3 + 3).toNat)) r7.2.2).bind (fun r8 =>
                                                                                  if w32 r7.1 = w32 r8.1 then
                                                                                    lw_law_b1 L (l3 + 7) r8.2.2
                                                                                  else
                                                                                    ok L 0 r8.2.2)
                                                                                  else none
                                                                                  else none
                                                                                  else none)
                                                                                  else none
                                                                                  else none
                                                                                  else none
                                                                                else
                                                                                  if w32 (bAnd (s 1 l3.toNat) 63) = 39 then
                                                                                    (hx_image L s).bind (fun r5 =>
                                                                                    (md_image L r5.2.2).bind (fun r6 =>
                                                                                    if w32 r5.1 = w32 r6.1 then
                                                                                      lw_law_b1 L (l3 + 7) r6.2.2
                                                                                    else
                                                                                      ok L 0 r6.2.2))
                                                                                  else
                                                                                    if w32 (bAnd (s 1 l3.toNat) 63) = 40 then
                                                                                      if 0 ≤ l3 + 1 ∧ l3 + 1 < (L : Int) then
                                                                                      (hx_back L (s 1 ((l3 + 1).toNat)) s).bind (fun r3 =>
                                                                                      if 0 ≤ l3 + 1 ∧ l3 + 1 < (L : Int) then
                                                                                      (md_back L (r3.2.2 1 ((l3 + 1).toNat)) r3.2.2).bind (fun r4 =>
                                                                                      if w32 r3.1 = w32 r4.1 then
                                                                                        lw_law_b1 L (l3 + 7) r4.2.2
                                                                                      else
                                                                                        ok L 0 r4.2.2)
                                                                                      else none)
                                                                                      else none
                                                                                    else
                                                                                      if w32 (bAnd (s 1 l3.toNat) 63) = 41 then
                                                                                        if 0 ≤ l3 + 1 ∧ l3 + 1 < (L : Int) then
                                                                                        (hx_count L (s 1 ((l3 + 1).toNat)) s).bind (fun r1 =>
                                                                                        if 0 ≤ l3 + 1 ∧ l3 + 1 < (L : Int) then
                                                                                        (md_count L (r1.2.2 1 ((l3 + 1).toNat)) r1.2.2).bind (fun r2 =>
                                                                                        if w32 r1.1 = w32 r2.1 then
                                                                                          lw_law_b1 L (l3 + 7) r2.2.2
                                                                                        else
                                                                                          ok L 0 r2.2.2)
                                                                                        else none)
                                                                                        else none
                                                                                      else
                                                                                        lw_law_b1 L (l3 + 7) s
    else none :=
  (hh_Ev_eq pb_lw_law).trans rfl
set_option maxRecDepth 20000 in
theorem lw_law_b12_eq (L : Nat) (l3 : Int) (k1 : Int) (k2 : Int) (s : hh_Sv) : lw_law_b12 L l3 k1 k2 s =
  if 0 ≤ l3 + 3 ∧ l3 + 3 < (L : Int) then
  if 0 ≤ l3 + 4 ∧ l3 + 4 < (L : Int) then
  (hx_thrown L k1 k2 (s 1 ((l3 + 3).toNat)) (s 1 ((l3 + 4).toNat)) s).bind (fun r1 =>
  if 0 ≤ l3 + 1 ∧ l3 + 1 < (L : Int) then
  if 0 ≤ l3 + 2 ∧ l3 + 2 < (L : Int) then
  if w32 (r1.2.2 1 ((l3 + 2).toNat)) = 0 then
    lw_law_b14 L l3 r1.1 (r1.2.2 1 ((l3 + 1).toNat)) 0 r1.2.2
  else
    lw_law_b14 L l3 r1.1 (r1.2.2 1 ((l3 + 1).toNat)) 1 r1.2.2
  else none
  else none)
  else none
  else none :=
  (hh_Ev_eq pb_lw_law).trans rfl
set_option maxRecDepth 20000 in
theorem lw_law_b14_eq (L : Nat) (l3 : Int) (k0 : Int) (k2 : Int) (k3 : Int) (s : hh_Sv) : lw_law_b14 L l3 k0 k2 k3 s =
  if 0 ≤ l3 + 3 ∧ l3 + 3 < (L : Int) then
  if 0 ≤ l3 + 4 ∧ l3 + 4 < (L : Int) then
  (md_thrown L k2 k3 (s 1 ((l3 + 3).toNat)) (s 1 ((l3 + 4).toNat)) s).bind (fun r1 =>
  if w32 k0 = w32 r1.1 then
    lw_law_b1 L (l3 + 7) r1.2.2
  else
    ok L 0 r1.2.2)
  else none
  else none :=
  (hh_Ev_eq pb_lw_law).trans rfl
set_option maxRecDepth 20000 in
theorem lw_law_b22_eq (L : Nat) (l3 : Int) (k1 : Int) (k2 : Int) (s : hh_Sv) : lw_law_b22 L l3 k1 k2 s =
  if 0 ≤ l3 + 3 ∧ l3 + 3 < (L : Int) then
  if 0 ≤ l3 + 4 ∧ l3 + 4 < (L : Int) then
  (hx_joined L k1 k2 (s 1 ((l3 + 3).toNat)) (s 1 ((l3 + 4).toNat)) s).bind (fun r1 =>
  if 0 ≤ l3 + 1 ∧ l3 + 1 < (L : Int) then
  if 0 ≤ l3 + 2 ∧ l3 + 2 < (L : Int) then
  if w32 (r1.2.2 1 ((l3 + 2).toNat)) = 0 then
    lw_law_b24 L l3 r1.1 (r1.2.2 1 ((l3 + 1).toNat)) 0 r1.2.2
  else
    lw_law_b24 L l3 r1.1 (r1.2.2 1 ((l3 + 1).toNat)) 1 r1.2.2
  else none
  else none)
  else none
  else none :=
  (hh_Ev_eq pb_lw_law).trans rfl
set_option maxRecDepth 20000 in
theorem lw_law_b24_eq (L : Nat) (l3 : Int) (k0 : Int) (k2 : Int) (k3 : Int) (s : hh_Sv) : lw_law_b24 L l3 k0 k2 k3 s =
  if 0 ≤ l3 + 3 ∧ l3 + 3 < (L : Int) then
  if 0 ≤ l3 + 4 ∧ l3 + 4 < (L : Int) then
  (md_joined L k2 k3 (s 1 ((l3 + 3).toNat)) (s 1 ((l3 + 4).toNat)) s).bind (fun r1 =>
  if w32 k0 = w32 r1.1 then
    lw_law_b1 L (l3 + 7) r1.2.2
  else
    ok L 0 r1.2.2)
  else none
  else none :=
  (hh_Ev_eq pb_lw_law).trans rfl
set_option maxRecDepth 20000 in
theorem lw_law_b49_eq (L : Nat) (l3 : Int) (k1 : Int) (k2 : Int) (k3 : Int) (s : hh_Sv) : lw_law_b49 L l3 k1 k2 k3 s =
  if 0 ≤ l3 + 4 ∧ l3 + 4 < (L : Int) then
  if 0 ≤ l3 + 5 ∧ l3 + 5 < (L : Int) then
  (hx_season L k1 k2 k3 (s 1 ((l3 + 4).toNat)) (s 1 ((l3 + 5).toNat)) s).bind (fun r1 =>
  if 0 ≤ l3 + 1 ∧ l3 + 1 < (L : Int) then
  if 0 ≤ l3 + 2 ∧ l3 + 2 < (L : Int) then
  if 0 ≤ l3 + 3 ∧ l3 + 3 < (L : Int) then
  if w32 (r1.2.2 1 ((l3 + 3).toNat)) = 0 then
    lw_law_b51 L l3 r1.1 (r1.2.2 1 ((l3 + 1).toNat)) (r1.2.2 1 ((l3 + 2).toNat)) 0 r1.2.2
  else
    lw_law_b51 L l3 r1.1 (r1.2.2 1 ((l3 + 1).toNat)) (r1.2.2 1 ((l3 + 2).toNat)) 1 r1.2.2
  else none
  else none
  else none)
  else none
  else none :=
  (hh_Ev_eq pb_lw_law).trans rfl
set_option maxRecDepth 20000 in
theorem lw_law_b51_eq (L : Nat) (l3 : Int) (k0 : Int) (k2 : Int) (k3 : Int) (k4 : Int) (s : hh_Sv) : lw_law_b51 L l3 k0 k2 k3 k4 s =
  if 0 ≤ l3 + 4 ∧ l3 + 4 < (L : Int) then
  if 0 ≤ l3 + 5 ∧ l3 + 5 < (L : Int) then
  (md_season L k2 k3 k4 (s 1 ((l3 + 4).toNat)) (s 1 ((l3 + 5).toNat)) s).bind (fun r1 =>
  if w32 k0 = w32 r1.1 then
    lw_law_b1 L (l3 + 7) r1.2.2
  else
    ok L 0 r1.2.2)
  else none
  else none :=
  (hh_Ev_eq pb_lw_law).trans rfl
