section VSC
variable {g : GG} {md : MD} {d kc ks n : Nat} {r : HR} {I : HI} {L : HL} {pc : Nat} {ls : List (Option Value)} {st : List Value} {P : PP}
theorem V_sld {i : Int32} {sN pc' : Nat} {sS : Nat → Int32} (hd : decode md.2.1 pc = .ok (.iaload, 1)) (hs : gN g = sN ∧ gS g = sS) (hi : inb i sN = true) (hp : pc + 1 = pc') (h : V g md d kc ks n r I L pc' ls (.int (sS i.toNatClampNeg) :: st) P) : V g md d kc ks n r I L pc ls (.int i :: .retAddr 4 :: st) P := by
  obtain ⟨rfl, rfl⟩ := hs
  subst hp
  intro p e s m args below meth c' H lc locs cells slots mc ms hF hR hS hl hc hs' hz
  have hE := hF.2.2.2.2.2.2.2.2.2.1
  have hX := hE.2.2.2.2.2.1
  have hbl : gX g 4 < s.heap.size := by
    obtain ⟨scr, h1, -⟩ := hX
    exact (Array.getElem?_eq_some_iff.mp h1).1
  exact va_sld hF.1 hF.2.1 hX hbl hE.2.2.2.2.2.2.1 hS (inb_iff.mp hi) hd (h p e s m args below meth c' H lc locs cells slots mc ms hF hR hS hl hc hs' hz)
theorem V_slen {sN pc' : Nat} {sS : Nat → Int32} (hd : decode md.2.1 pc = .ok (.arraylength, 1)) (hs : gN g = sN ∧ gS g = sS) (hp : pc + 1 = pc') (h : V g md d kc ks n r I L pc' ls (.int (Int32.ofNat sN) :: st) P) : V g md d kc ks n r I L pc ls (.retAddr 4 :: st) P := by
  obtain ⟨rfl, rfl⟩ := hs
  subst hp
  intro p e s m args below meth c' H lc locs cells slots mc ms hF hR hS hl hc hs' hz
  have hE := hF.2.2.2.2.2.2.2.2.2.1
  have hX := hE.2.2.2.2.2.1
  have hbl : gX g 4 < s.heap.size := by
    obtain ⟨scr, h1, -⟩ := hX
    exact (Array.getElem?_eq_some_iff.mp h1).1
  exact va_slen hF.1 hF.2.1 hX hbl hE.2.2.2.2.2.2.1 hS hd (h p e s m args below meth c' H lc locs cells slots mc ms hF hR hS hl hc hs' hz)
end VSC
theorem ic_6 : Int32.ofInt 6 = (6 : Int32) := by decide
noncomputable def fL_law_18 (sN : Nat) (sS : Nat → Int32) : Nat → Int32 → Nat → Nat → Nat → Nat → Nat → HI → HL → Option Bool
  | 0, _, _, _, _, _, _, _, _ => none
  | fu + 1, y3, ztw, zdr, zsk, ztl, zff, I, L =>
    if ((Int32.ofNat sN) - (6 : Int32)) < y3 then
      some true
    else
      if inb y3 sN = true then
        if ((sS y3.toNatClampNeg) &&& (63 : Int32)) = (0 : Int32) then
          if inb (y3 + (1 : Int32)) sN = true then
            if inb (y3 + (2 : Int32)) sN = true then
              if inb (y3 + (3 : Int32)) sN = true then
                if inb (y3 + (4 : Int32)) sN = true then
                  if inb (y3 + (5 : Int32)) sN = true then
                    Option.bind (fX11_feed (sS (y3 + (1 : Int32)).toNatClampNeg) (sS (y3 + (2 : Int32)).toNatClampNeg) (sS (y3 + (3 : Int32)).toNatClampNeg) (sS (y3 + (4 : Int32)).toNatClampNeg) (sS (y3 + (5 : Int32)).toNatClampNeg) I) fun q8 =>
                    if inb (y3 + (1 : Int32)) sN = true then
                      if inb (y3 + (2 : Int32)) sN = true then
                        if inb (y3 + (3 : Int32)) sN = true then
                          if inb (y3 + (4 : Int32)) sN = true then
                            if inb (y3 + (5 : Int32)) sN = true then
                              Option.bind (fX12_feed (sS (y3 + (1 : Int32)).toNatClampNeg) (sS (y3 + (2 : Int32)).toNatClampNeg) (sS (y3 + (3 : Int32)).toNatClampNeg) (sS (y3 + (4 : Int32)).toNatClampNeg) (sS (y3 + (5 : Int32)).toNatClampNeg) q8.2) fun q14 =>
                              if q8.1 = q14.1 then
                                fL_law_18 sN sS fu (y3 + (6 : Int32)) ztw zdr zsk ztl zff q14.2 L
                              else
                                some false
                            else none
                          else none
                        else none
                      else none
                    else none
                  else none
                else none
              else none
            else none
          else none
        else
          if ((sS y3.toNatClampNeg) &&& (63 : Int32)) = (1 : Int32) then
            if inb (y3 + (1 : Int32)) sN = true then
              obn (fX11_end (sS (y3 + (1 : Int32)).toNatClampNeg) I) fun q17 =>
              if inb (y3 + (1 : Int32)) sN = true then
                obn (fX12_end (sS (y3 + (1 : Int32)).toNatClampNeg) q17.2) fun q19 =>
                if q17.1 = q19.1 then
                  fL_law_18 sN sS fu (y3 + (6 : Int32)) ztw zdr zsk ztl zff q19.2 L
                else
                  some false
              else none
            else none
          else
            if ((sS y3.toNatClampNeg) &&& (63 : Int32)) = (2 : Int32) then
              Option.bind (fX11_quarter ztw zdr zsk ztl zff I L) fun q21 =>
              if (isQ q21.2.1 ∧ isQ q21.2.2.1 ∧ isQ q21.2.2.2.1 ∧ isQ q21.2.2.2.2.1) then
                Option.bind (fX12_quarter  q21.2.2.2.2.2.2.1 q21.2.2.2.2.2.2.2) fun q23 =>
                if q21.1 = q23.1 then
                  fL_law_18 sN sS fu (y3 + (6 : Int32)) q21.2.1 q21.2.2.1 q21.2.2.2.1 q21.2.2.2.2.1 q21.2.2.2.2.2.1 q23.2.1 q23.2.2
                else
                  some false
              else none
            else
              if ((sS y3.toNatClampNeg) &&& (63 : Int32)) = (3 : Int32) then
                if inb (y3 + (1 : Int32)) sN = true then
                  if inb (y3 + (1 : Int32)) sN = true then
                    if (fX11_fault (sS (y3 + (1 : Int32)).toNatClampNeg) I) = (fX12_fault (sS (y3 + (1 : Int32)).toNatClampNeg) I) then
                      fL_law_18 sN sS fu (y3 + (6 : Int32)) ztw zdr zsk ztl zff I L
                    else
                      some false
                  else none
                else none
              else
                if ((sS y3.toNatClampNeg) &&& (63 : Int32)) = (4 : Int32) then
                  if inb (y3 + (1 : Int32)) sN = true then
                    if inb (y3 + (2 : Int32)) sN = true then
                      Option.bind (fX11_door ztw (sS (y3 + (1 : Int32)).toNatClampNeg) (sS (y3 + (2 : Int32)).toNatClampNeg) I) fun q30 =>
                      if inb (y3 + (1 : Int32)) sN = true then
                        if inb (y3 + (2 : Int32)) sN = true then
                          Option.bind (fX12_door (sS (y3 + (1 : Int32)).toNatClampNeg) (sS (y3 + (2 : Int32)).toNatClampNeg) I) fun q33 =>
                          if q30 = q33.1 then
                            fL_law_18 sN sS fu (y3 + (6 : Int32)) ztw zdr zsk ztl zff q33.2 L
                          else
                            some false
                        else none
                      else none
                    else none
                  else none
                else
                  if ((sS y3.toNatClampNeg) &&& (63 : Int32)) = (5 : Int32) then
                    if inb (y3 + (1 : Int32)) sN = true then
                      if inb (y3 + (2 : Int32)) sN = true then
                        Option.bind (fX11_lamp ztw (sS (y3 + (1 : Int32)).toNatClampNeg) (sS (y3 + (2 : Int32)).toNatClampNeg) I) fun q37 =>
                        if inb (y3 + (1 : Int32)) sN = true then
                          if inb (y3 + (2 : Int32)) sN = true then
                            Option.bind (fX12_lamp (sS (y3 + (1 : Int32)).toNatClampNeg) (sS (y3 + (2 : Int32)).toNatClampNeg) I) fun q40 =>
                            if q37 = q40.1 then
                              fL_law_18 sN sS fu (y3 + (6 : Int32)) ztw zdr zsk ztl zff q40.2 L
                            else
                              some false
                          else none
                        else none
                      else none
                    else none
                  else
                    if ((sS y3.toNatClampNeg) &&& (63 : Int32)) = (6 : Int32) then
                      if inb (y3 + (1 : Int32)) sN = true then
                        if inb (y3 + (2 : Int32)) sN = true then
                          Option.bind (fX11_person ztw (sS (y3 + (1 : Int32)).toNatClampNeg) (sS (y3 + (2 : Int32)).toNatClampNeg) I) fun q44 =>
                          if inb (y3 + (1 : Int32)) sN = true then
                            if inb (y3 + (2 : Int32)) sN = true then
                              Option.bind (fX12_person (sS (y3 + (1 : Int32)).toNatClampNeg) (sS (y3 + (2 : Int32)).toNatClampNeg) I) fun q47 =>
                              if q44 = q47 then
                                fL_law_18 sN sS fu (y3 + (6 : Int32)) ztw zdr zsk ztl zff I L
                              else
                                some false
                            else none
                          else none
                        else none
                      else none
                    else
                      if ((sS y3.toNatClampNeg) &&& (63 : Int32)) = (7 : Int32) then
                        if inb (y3 + (1 : Int32)) sN = true then
                          if inb (y3 + (2 : Int32)) sN = true then
                            Option.bind (fX11_shade ztw (sS (y3 + (1 : Int32)).toNatClampNeg) (sS (y3 + (2 : Int32)).toNatClampNeg) I) fun q51 =>
                            if inb (y3 + (1 : Int32)) sN = true then
                              if inb (y3 + (2 : Int32)) sN = true then
                                Option.bind (fX12_shade (sS (y3 + (1 : Int32)).toNatClampNeg) (sS (y3 + (2 : Int32)).toNatClampNeg) q51.2) fun q54 =>
                                if q51.1 = q54.1 then
                                  fL_law_18 sN sS fu (y3 + (6 : Int32)) ztw zdr zsk ztl zff q54.2 L
                                else
                                  some false
                              else none
                            else none
                          else none
                        else none
                      else
                        if ((sS y3.toNatClampNeg) &&& (63 : Int32)) = (8 : Int32) then
                          if inb (y3 + (1 : Int32)) sN = true then
                            if inb (y3 + (2 : Int32)) sN = true then
                              Option.bind (fX11_shadow ztw zsk (sS (y3 + (1 : Int32)).toNatClampNeg) (sS (y3 + (2 : Int32)).toNatClampNeg) I L) fun q58 =>
                              if inb (y3 + (1 : Int32)) sN = true then
                                if inb (y3 + (2 : Int32)) sN = true then
                                  Option.bind (fX12_shadow (sS (y3 + (1 : Int32)).toNatClampNeg) (sS (y3 + (2 : Int32)).toNatClampNeg) q58.2.1 q58.2.2) fun q61 =>
                                  if q58.1 = q61.1 then
                                    fL_law_18 sN sS fu (y3 + (6 : Int32)) ztw zdr zsk ztl zff q61.2 q58.2.2
                                  else
                                    some false
                                else none
                              else none
                            else none
                          else none
                        else
                          if ((sS y3.toNatClampNeg) &&& (63 : Int32)) = (9 : Int32) then
                            if inb (y3 + (1 : Int32)) sN = true then
                              if inb (y3 + (2 : Int32)) sN = true then
                                Option.bind (
                                  if (sS (y3 + (2 : Int32)).toNatClampNeg) = 0 then
                                    some false
                                  else
                                    some true
                                ) fun q65 =>
                                Option.bind (fX11_shades ztw zsk (sS (y3 + (1 : Int32)).toNatClampNeg) (b2i q65) I L) fun q66 =>
                                if inb (y3 + (1 : Int32)) sN = true then
                                  if inb (y3 + (2 : Int32)) sN = true then
                                    Option.bind (
                                      if (sS (y3 + (2 : Int32)).toNatClampNeg) = 0 then
                                        some false
                                      else
                                        some true
                                    ) fun q69 =>
                                    Option.bind (fX12_shades (sS (y3 + (1 : Int32)).toNatClampNeg) (b2i q69) q66.2.1 q66.2.2) fun q70 =>
                                    if q66.1 = q70.1 then
                                      fL_law_18 sN sS fu (y3 + (6 : Int32)) ztw zdr zsk ztl zff q70.2.1 q70.2.2
                                    else
                                      some false
                                  else none
                                else none
                              else none
                            else none
                          else
                            if ((sS y3.toNatClampNeg) &&& (63 : Int32)) = (10 : Int32) then
                              if inb (y3 + (1 : Int32)) sN = true then
                                if inb (y3 + (2 : Int32)) sN = true then
                                  Option.bind (fX11_moves ztw zsk (sS (y3 + (1 : Int32)).toNatClampNeg) (sS (y3 + (2 : Int32)).toNatClampNeg) I L) fun q74 =>
                                  if inb (y3 + (1 : Int32)) sN = true then
                                    if inb (y3 + (2 : Int32)) sN = true then
                                      Option.bind (fX12_moves (sS (y3 + (1 : Int32)).toNatClampNeg) (sS (y3 + (2 : Int32)).toNatClampNeg) q74.2.1 q74.2.2) fun q77 =>
                                      if q74.1 = q77.1 then
                                        fL_law_18 sN sS fu (y3 + (6 : Int32)) ztw zdr zsk ztl zff q77.2.1 q77.2.2
                                      else
                                        some false
                                    else none
                                  else none
                                else none
                              else none
                            else
                              if ((sS y3.toNatClampNeg) &&& (63 : Int32)) = (11 : Int32) then
                                if inb (y3 + (1 : Int32)) sN = true then
                                  if inb (y3 + (2 : Int32)) sN = true then
                                    Option.bind (fX11_go ztw zsk (sS (y3 + (1 : Int32)).toNatClampNeg) (sS (y3 + (2 : Int32)).toNatClampNeg) I L) fun q81 =>
                                    if inb (y3 + (1 : Int32)) sN = true then
                                      if inb (y3 + (2 : Int32)) sN = true then
                                        Option.bind (fX12_go (sS (y3 + (1 : Int32)).toNatClampNeg) (sS (y3 + (2 : Int32)).toNatClampNeg) q81.2.1 q81.2.2) fun q84 =>
                                        if q81.1 = q84.1 then
                                          fL_law_18 sN sS fu (y3 + (6 : Int32)) ztw zdr zsk ztl zff q84.2.1 q84.2.2
                                        else
                                          some false
                                      else none
                                    else none
                                  else none
                                else none
                              else
                                if ((sS y3.toNatClampNeg) &&& (63 : Int32)) = (12 : Int32) then
                                  Option.bind (fX11_hour  I L) fun q86 =>
                                  Option.bind (fX12_hour  q86.2.1) fun q87 =>
                                  if q86.1 = q87.1 then
                                    fL_law_18 sN sS fu (y3 + (6 : Int32)) ztw zdr zsk ztl zff q87.2 q86.2.2
                                  else
                                    some false
                                else
                                  if ((sS y3.toNatClampNeg) &&& (63 : Int32)) = (13 : Int32) then
                                    if inb (y3 + (1 : Int32)) sN = true then
                                      Option.bind (fX11_shut ztw (sS (y3 + (1 : Int32)).toNatClampNeg) I L) fun q90 =>
                                      if inb (y3 + (1 : Int32)) sN = true then
                                        Option.bind (fX12_shut (sS (y3 + (1 : Int32)).toNatClampNeg) q90.2.1) fun q92 =>
                                        if q90.1 = q92.1 then
                                          fL_law_18 sN sS fu (y3 + (6 : Int32)) ztw zdr zsk ztl zff q92.2 q90.2.2
                                        else
                                          some false
                                      else none
                                    else none
                                  else
                                    if ((sS y3.toNatClampNeg) &&& (63 : Int32)) = (14 : Int32) then
                                      if inb (y3 + (1 : Int32)) sN = true then
                                        Option.bind (fX11_out ztw (sS (y3 + (1 : Int32)).toNatClampNeg) I L) fun q95 =>
                                        if inb (y3 + (1 : Int32)) sN = true then
                                          Option.bind (fX12_out (sS (y3 + (1 : Int32)).toNatClampNeg) q95.2.1) fun q97 =>
                                          if q95.1 = q97.1 then
                                            fL_law_18 sN sS fu (y3 + (6 : Int32)) ztw zdr zsk ztl zff q97.2 q95.2.2
                                          else
                                            some false
                                        else none
                                      else none
                                    else
                                      if ((sS y3.toNatClampNeg) &&& (63 : Int32)) = (15 : Int32) then
                                        Option.bind (fX11_eclipse  I L) fun q99 =>
                                        Option.bind (fX12_eclipse  q99.2.1) fun q100 =>
                                        if (b2i q99.1) = (b2i q100.1) then
                                          fL_law_18 sN sS fu (y3 + (6 : Int32)) ztw zdr zsk ztl zff q100.2 q99.2.2
                                        else
                                          some false
                                      else
                                        if ((sS y3.toNatClampNeg) &&& (63 : Int32)) = (16 : Int32) then
                                          Option.bind (fX11_undo  I L) fun q102 =>
                                          Option.bind (fX12_undo  q102.2) fun q103 =>
                                          if (b2i q102.1) = (b2i q103.1) then
                                            fL_law_18 sN sS fu (y3 + (6 : Int32)) ztw zdr zsk ztl zff q103.2 L
                                          else
                                            some false
                                        else
                                          if ((sS y3.toNatClampNeg) &&& (63 : Int32)) = (17 : Int32) then
                                            Option.bind (fX11_redo  I L) fun q105 =>
                                            Option.bind (fX12_redo  q105.2) fun q106 =>
                                            if (b2i q105.1) = (b2i q106.1) then
                                              fL_law_18 sN sS fu (y3 + (6 : Int32)) ztw zdr zsk ztl zff q106.2 L
                                            else
                                              some false
                                          else
                                            if ((sS y3.toNatClampNeg) &&& (63 : Int32)) = (18 : Int32) then
                                              if inb (y3 + (1 : Int32)) sN = true then
                                                if inb (y3 + (2 : Int32)) sN = true then
                                                  Option.bind (fX11_soonest ztw zsk (sS (y3 + (1 : Int32)).toNatClampNeg) (sS (y3 + (2 : Int32)).toNatClampNeg) I L) fun q110 =>
                                                  if inb (y3 + (1 : Int32)) sN = true then
                                                    if inb (y3 + (2 : Int32)) sN = true then
                                                      Option.bind (fX12_soonest (sS (y3 + (1 : Int32)).toNatClampNeg) (sS (y3 + (2 : Int32)).toNatClampNeg) q110.2.1 q110.2.2) fun q113 =>
                                                      if q110.1 = q113.1 then
                                                        fL_law_18 sN sS fu (y3 + (6 : Int32)) ztw zdr zsk ztl zff q113.2.1 q113.2.2
                                                      else
                                                        some false
                                                    else none
                                                  else none
                                                else none
                                              else none
                                            else
                                              if ((sS y3.toNatClampNeg) &&& (63 : Int32)) = (19 : Int32) then
                                                if inb (y3 + (1 : Int32)) sN = true then
                                                  if inb (y3 + (2 : Int32)) sN = true then
                                                    Option.bind (fX11_reach ztw zsk (sS (y3 + (1 : Int32)).toNatClampNeg) (sS (y3 + (2 : Int32)).toNatClampNeg) I L) fun q117 =>
                                                    if inb (y3 + (1 : Int32)) sN = true then
                                                      if inb (y3 + (2 : Int32)) sN = true then
                                                        Option.bind (fX12_reach (sS (y3 + (1 : Int32)).toNatClampNeg) (sS (y3 + (2 : Int32)).toNatClampNeg) q117.2.1 q117.2.2) fun q120 =>
                                                        if q117.1 = q120.1 then
                                                          fL_law_18 sN sS fu (y3 + (6 : Int32)) ztw zdr zsk ztl zff q120.2.1 q120.2.2
                                                        else
                                                          some false
                                                      else none
                                                    else none
                                                  else none
                                                else none
                                              else
                                                if ((sS y3.toNatClampNeg) &&& (63 : Int32)) = (20 : Int32) then
                                                  if inb (y3 + (1 : Int32)) sN = true then
                                                    if inb (y3 + (2 : Int32)) sN = true then
                                                      if inb (y3 + (3 : Int32)) sN = true then
                                                        Option.bind (fX11_meet ztw zsk (sS (y3 + (1 : Int32)).toNatClampNeg) (sS (y3 + (2 : Int32)).toNatClampNeg) (sS (y3 + (3 : Int32)).toNatClampNeg) I L) fun q125 =>
                                                        if inb (y3 + (1 : Int32)) sN = true then
                                                          if inb (y3 + (2 : Int32)) sN = true then
                                                            if inb (y3 + (3 : Int32)) sN = true then
                                                              Option.bind (fX12_meet (sS (y3 + (1 : Int32)).toNatClampNeg) (sS (y3 + (2 : Int32)).toNatClampNeg) (sS (y3 + (3 : Int32)).toNatClampNeg) q125.2.1 q125.2.2) fun q129 =>
                                                              if q125.1 = q129.1 then
                                                                fL_law_18 sN sS fu (y3 + (6 : Int32)) ztw zdr zsk ztl zff q129.2.1 q129.2.2
                                                              else
                                                                some false
                                                            else none
                                                          else none
                                                        else none
                                                      else none
                                                    else none
                                                  else none
                                                else
                                                  if ((sS y3.toNatClampNeg) &&& (63 : Int32)) = (21 : Int32) then
                                                    if inb (y3 + (1 : Int32)) sN = true then
                                                      if inb (y3 + (2 : Int32)) sN = true then
                                                        Option.bind (fX11_barred ztw zsk (sS (y3 + (1 : Int32)).toNatClampNeg) (sS (y3 + (2 : Int32)).toNatClampNeg) I L) fun q133 =>
                                                        if inb (y3 + (1 : Int32)) sN = true then
                                                          if inb (y3 + (2 : Int32)) sN = true then
                                                            Option.bind (fX12_barred (sS (y3 + (1 : Int32)).toNatClampNeg) (sS (y3 + (2 : Int32)).toNatClampNeg) q133.2.1 q133.2.2) fun q136 =>
                                                            if q133.1 = q136.1 then
                                                              fL_law_18 sN sS fu (y3 + (6 : Int32)) ztw zdr zsk ztl zff q136.2.1 q136.2.2
                                                            else
                                                              some false
                                                          else none
                                                        else none
                                                      else none
                                                    else none
                                                  else
                                                    if ((sS y3.toNatClampNeg) &&& (63 : Int32)) = (22 : Int32) then
                                                      if inb (y3 + (1 : Int32)) sN = true then
                                                        if inb (y3 + (2 : Int32)) sN = true then
                                                          Option.bind (fX11_longest ztw zsk (sS (y3 + (1 : Int32)).toNatClampNeg) (sS (y3 + (2 : Int32)).toNatClampNeg) I L) fun q140 =>
                                                          if inb (y3 + (1 : Int32)) sN = true then
                                                            if inb (y3 + (2 : Int32)) sN = true then
                                                              Option.bind (fX12_longest (sS (y3 + (1 : Int32)).toNatClampNeg) (sS (y3 + (2 : Int32)).toNatClampNeg) q140.2.1 q140.2.2) fun q143 =>
                                                              if q140.1 = q143.1 then
                                                                fL_law_18 sN sS fu (y3 + (6 : Int32)) ztw zdr zsk ztl zff q143.2 q140.2.2
                                                              else
                                                                some false
                                                            else none
                                                          else none
                                                        else none
                                                      else none
                                                    else
                                                      if ((sS y3.toNatClampNeg) &&& (63 : Int32)) = (23 : Int32) then
                                                        if inb (y3 + (1 : Int32)) sN = true then
                                                          if inb (y3 + (2 : Int32)) sN = true then
                                                            if inb (y3 + (3 : Int32)) sN = true then
                                                              Option.bind (fX11_cross ztw zsk (sS (y3 + (1 : Int32)).toNatClampNeg) (sS (y3 + (2 : Int32)).toNatClampNeg) (sS (y3 + (3 : Int32)).toNatClampNeg) I L) fun q148 =>
                                                              if inb (y3 + (1 : Int32)) sN = true then
                                                                if inb (y3 + (2 : Int32)) sN = true then
                                                                  if inb (y3 + (3 : Int32)) sN = true then
                                                                    Option.bind (fX12_cross (sS (y3 + (1 : Int32)).toNatClampNeg) (sS (y3 + (2 : Int32)).toNatClampNeg) (sS (y3 + (3 : Int32)).toNatClampNeg) q148.2.1 q148.2.2) fun q152 =>
                                                                    if q148.1 = q152.1 then
                                                                      fL_law_18 sN sS fu (y3 + (6 : Int32)) ztw zdr zsk ztl zff q152.2 q148.2.2
                                                                    else
                                                                      some false
                                                                  else none
                                                                else none
                                                              else none
                                                            else none
                                                          else none
                                                        else none
                                                      else
                                                        if ((sS y3.toNatClampNeg) &&& (63 : Int32)) = (24 : Int32) then
                                                          if inb (y3 + (1 : Int32)) sN = true then
                                                            Option.bind (fX11_rooms zsk (sS (y3 + (1 : Int32)).toNatClampNeg) I L) fun q155 =>
                                                            if inb (y3 + (1 : Int32)) sN = true then
                                                              Option.bind (fX12_rooms (sS (y3 + (1 : Int32)).toNatClampNeg) q155.2.1 q155.2.2) fun q157 =>
                                                              if q155.1 = q157.1 then
                                                                fL_law_18 sN sS fu (y3 + (6 : Int32)) ztw zdr zsk ztl zff q157.2.1 q157.2.2
                                                              else
                                                                some false
                                                            else none
                                                          else none
                                                        else
                                                          if ((sS y3.toNatClampNeg) &&& (63 : Int32)) = (25 : Int32) then
                                                            if inb (y3 + (1 : Int32)) sN = true then
                                                              if inb (y3 + (2 : Int32)) sN = true then
                                                                if inb (y3 + (3 : Int32)) sN = true then
                                                                  Option.bind (fX11_hears ztw zsk (sS (y3 + (1 : Int32)).toNatClampNeg) (sS (y3 + (2 : Int32)).toNatClampNeg) (sS (y3 + (3 : Int32)).toNatClampNeg) I L) fun q162 =>
                                                                  if inb (y3 + (1 : Int32)) sN = true then
                                                                    if inb (y3 + (2 : Int32)) sN = true then
                                                                      if inb (y3 + (3 : Int32)) sN = true then
                                                                        Option.bind (fX12_hears (sS (y3 + (1 : Int32)).toNatClampNeg) (sS (y3 + (2 : Int32)).toNatClampNeg) (sS (y3 + (3 : Int32)).toNatClampNeg) q162.2.1 q162.2.2) fun q166 =>
                                                                        if q162.1 = q166.1 then
                                                                          fL_law_18 sN sS fu (y3 + (6 : Int32)) ztw zdr zsk ztl zff q166.2.1 q166.2.2
                                                                        else
                                                                          some false
                                                                      else none
                                                                    else none
                                                                  else none
                                                                else none
                                                              else none
                                                            else none
                                                          else
                                                            if ((sS y3.toNatClampNeg) &&& (63 : Int32)) = (26 : Int32) then
                                                              if inb (y3 + (1 : Int32)) sN = true then
                                                                if inb (y3 + (2 : Int32)) sN = true then
                                                                  if inb (y3 + (3 : Int32)) sN = true then
                                                                    if inb (y3 + (4 : Int32)) sN = true then
                                                                      Option.bind (fX11_keep ztw zsk (sS (y3 + (1 : Int32)).toNatClampNeg) (sS (y3 + (2 : Int32)).toNatClampNeg) (sS (y3 + (3 : Int32)).toNatClampNeg) (sS (y3 + (4 : Int32)).toNatClampNeg) I L) fun q172 =>
                                                                      if inb (y3 + (1 : Int32)) sN = true then
                                                                        if inb (y3 + (2 : Int32)) sN = true then
                                                                          if inb (y3 + (3 : Int32)) sN = true then
                                                                            if inb (y3 + (4 : Int32)) sN = true then
                                                                              Option.bind (fX12_keep (sS (y3 + (1 : Int32)).toNatClampNeg) (sS (y3 + (2 : Int32)).toNatClampNeg) (sS (y3 + (3 : Int32)).toNatClampNeg) (sS (y3 + (4 : Int32)).toNatClampNeg) q172.2.1 q172.2.2) fun q177 =>
                                                                              if q172.1 = q177.1 then
                                                                                fL_law_18 sN sS fu (y3 + (6 : Int32)) ztw zdr zsk ztl zff q177.2.1 q177.2.2
                                                                              else
                                                                                some false
                                                                            else none
                                                                          else none
                                                                        else none
                                                                      else none
                                                                    else none
                                                                  else none
                                                                else none
                                                              else none
                                                            else
                                                              if ((sS y3.toNatClampNeg) &&& (63 : Int32)) = (27 : Int32) then
                                                                if inb (y3 + (1 : Int32)) sN = true then
                                                                  if inb (y3 + (2 : Int32)) sN = true then
                                                                    if inb (y3 + (3 : Int32)) sN = true then
                                                                      if inb (y3 + (4 : Int32)) sN = true then
                                                                        Option.bind (fX11_free ztw zsk (sS (y3 + (1 : Int32)).toNatClampNeg) (sS (y3 + (2 : Int32)).toNatClampNeg) (sS (y3 + (3 : Int32)).toNatClampNeg) (sS (y3 + (4 : Int32)).toNatClampNeg) I L) fun q183 =>
                                                                        if inb (y3 + (1 : Int32)) sN = true then
                                                                          if inb (y3 + (2 : Int32)) sN = true then
                                                                            if inb (y3 + (3 : Int32)) sN = true then
                                                                              if inb (y3 + (4 : Int32)) sN = true then
                                                                                Option.bind (fX12_free (sS (y3 + (1 : Int32)).toNatClampNeg) (sS (y3 + (2 : Int32)).toNatClampNeg) (sS (y3 + (3 : Int32)).toNatClampNeg) (sS (y3 + (4 : Int32)).toNatClampNeg) q183.2.1 q183.2.2) fun q188 =>
                                                                                if q183.1 = q188.1 then
                                                                                  fL_law_18 sN sS fu (y3 + (6 : Int32)) ztw zdr zsk ztl zff q188.2.1 q188.2.2
                                                                                else
                                                                                  some false
                                                                              else none
                                                                            else none
                                                                          else none
                                                                        else none
                                                                      else none
                                                                    else none
                                                                  else none
                                                                else none
                                                              else
                                                                if ((sS y3.toNatClampNeg) &&& (63 : Int32)) = (28 : Int32) then
                                                                  if inb (y3 + (1 : Int32)) sN = true then
                                                                    if inb (y3 + (2 : Int32)) sN = true then
                                                                      if inb (y3 + (3 : Int32)) sN = true then
                                                                        if inb (y3 + (4 : Int32)) sN = true then
                                                                          Option.bind (fX11_surest ztw zsk (sS (y3 + (1 : Int32)).toNatClampNeg) (sS (y3 + (2 : Int32)).toNatClampNeg) (sS (y3 + (3 : Int32)).toNatClampNeg) (sS (y3 + (4 : Int32)).toNatClampNeg) I L) fun q194 =>
                                                                          if inb (y3 + (1 : Int32)) sN = true then
                                                                            if inb (y3 + (2 : Int32)) sN = true then
                                                                              if inb (y3 + (3 : Int32)) sN = true then
                                                                                if inb (y3 + (4 : Int32)) sN = true then
                                                                                  Option.bind (fX12_surest (sS (y3 + (1 : Int32)).toNatClampNeg) (sS (y3 + (2 : Int32)).toNatClampNeg) (sS (y3 + (3 : Int32)).toNatClampNeg) (sS (y3 + (4 : Int32)).toNatClampNeg) q194.2.1 q194.2.2) fun q199 =>
                                                                                  if q194.1 = q199.1 then
                                                                                    fL_law_18 sN sS fu (y3 + (6 : Int32)) ztw zdr zsk ztl zff q199.2.1 q199.2.2
                                                                                  else
                                                                                    some false
                                                                                else none
                                                                              else none
                                                                            else none
                                                                          else none
                                                                        else none
                                                                      else none
                                                                    else none
                                                                  else none
                                                                else
                                                                  if ((sS y3.toNatClampNeg) &&& (63 : Int32)) = (29 : Int32) then
                                                                    if inb (y3 + (1 : Int32)) sN = true then
                                                                      if inb (y3 + (2 : Int32)) sN = true then
                                                                        if inb (y3 + (3 : Int32)) sN = true then
                                                                          if inb (y3 + (4 : Int32)) sN = true then
                                                                            Option.bind (fX11_dates ztw zsk (sS (y3 + (1 : Int32)).toNatClampNeg) (sS (y3 + (2 : Int32)).toNatClampNeg) (sS (y3 + (3 : Int32)).toNatClampNeg) (sS (y3 + (4 : Int32)).toNatClampNeg) I L) fun q205 =>
                                                                            if inb (y3 + (1 : Int32)) sN = true then
                                                                              if inb (y3 + (2 : Int32)) sN = true then
                                                                                if inb (y3 + (3 : Int32)) sN = true then
                                                                                  if inb (y3 + (4 : Int32)) sN = true then
                                                                                    Option.bind (fX12_dates (sS (y3 + (1 : Int32)).toNatClampNeg) (sS (y3 + (2 : Int32)).toNatClampNeg) (sS (y3 + (3 : Int32)).toNatClampNeg) (sS (y3 + (4 : Int32)).toNatClampNeg) q205.2.1 q205.2.2) fun q210 =>
                                                                                    if q205.1 = q210.1 then
                                                                                      fL_law_18 sN sS fu (y3 + (6 : Int32)) ztw zdr zsk ztl zff q210.2.1 q210.2.2
                                                                                    else
                                                                                      some false
                                                                                  else none
                                                                                else none
                                                                              else none
                                                                            else none
                                                                          else none
                                                                        else none
                                                                      else none
                                                                    else none
                                                                  else
                                                                    if ((sS y3.toNatClampNeg) &&& (63 : Int32)) = (30 : Int32) then
                                                                      if inb (y3 + (1 : Int32)) sN = true then
                                                                        Option.bind (fX11_lies (sS (y3 + (1 : Int32)).toNatClampNeg) I) fun q213 =>
                                                                        if inb (y3 + (1 : Int32)) sN = true then
                                                                          Option.bind (fX12_lies (sS (y3 + (1 : Int32)).toNatClampNeg) I) fun q215 =>
                                                                          if q213 = q215 then
                                                                            fL_law_18 sN sS fu (y3 + (6 : Int32)) ztw zdr zsk ztl zff I L
                                                                          else
                                                                            some false
                                                                        else none
                                                                      else none
                                                                    else
                                                                      if ((sS y3.toNatClampNeg) &&& (63 : Int32)) = (31 : Int32) then
                                                                        if inb (y3 + (1 : Int32)) sN = true then
                                                                          if inb (y3 + (2 : Int32)) sN = true then
                                                                            if inb (y3 + (3 : Int32)) sN = true then
                                                                              Option.bind (
                                                                                if (sS (y3 + (3 : Int32)).toNatClampNeg) = 0 then
                                                                                  some false
                                                                                else
                                                                                  some true
                                                                              ) fun q220 =>
                                                                              Option.bind (fX11_look ztw (sS (y3 + (1 : Int32)).toNatClampNeg) (sS (y3 + (2 : Int32)).toNatClampNeg) (b2i q220) I L) fun q221 =>
                                                                              if inb (y3 + (1 : Int32)) sN = true then
                                                                                if inb (y3 + (2 : Int32)) sN = true then
                                                                                  if inb (y3 + (3 : Int32)) sN = true then
                                                                                    Option.bind (
                                                                                      if (sS (y3 + (3 : Int32)).toNatClampNeg) = 0 then
                                                                                        some false
                                                                                      else
                                                                                        some true
                                                                                    ) fun q225 =>
                                                                                    Option.bind (fX12_look (sS (y3 + (1 : Int32)).toNatClampNeg) (sS (y3 + (2 : Int32)).toNatClampNeg) (b2i q225) q221.2 L) fun q226 =>
                                                                                    if q221.1 = q226.1 then
                                                                                      fL_law_18 sN sS fu (y3 + (6 : Int32)) ztw zdr zsk ztl zff q226.2 L
                                                                                    else
                                                                                      some false
                                                                                  else none
                                                                                else none
                                                                              else none
                                                                            else none
                                                                          else none
                                                                        else none
                                                                      else
                                                                        if ((sS y3.toNatClampNeg) &&& (63 : Int32)) = (32 : Int32) then
                                                                          if inb (y3 + (1 : Int32)) sN = true then
                                                                            Option.bind (fX11_untell (sS (y3 + (1 : Int32)).toNatClampNeg) I) fun q229 =>
                                                                            if inb (y3 + (1 : Int32)) sN = true then
                                                                              Option.bind (fX12_untell (sS (y3 + (1 : Int32)).toNatClampNeg) q229.2) fun q231 =>
                                                                              if (b2i q229.1) = (b2i q231.1) then
                                                                                fL_law_18 sN sS fu (y3 + (6 : Int32)) ztw zdr zsk ztl zff q231.2 L
                                                                              else
                                                                                some false
                                                                            else none
                                                                          else none
                                                                        else
                                                                          if ((sS y3.toNatClampNeg) &&& (63 : Int32)) = (33 : Int32) then
                                                                            if inb (y3 + (1 : Int32)) sN = true then
                                                                              obn (fX11_later (sS (y3 + (1 : Int32)).toNatClampNeg) I) fun q234 =>
                                                                              if inb (y3 + (1 : Int32)) sN = true then
                                                                                obn (fX12_later (sS (y3 + (1 : Int32)).toNatClampNeg) q234.2) fun q236 =>
                                                                                if q234.1 = q236.1 then
                                                                                  fL_law_18 sN sS fu (y3 + (6 : Int32)) ztw zdr zsk ztl zff q236.2 L
                                                                                else
                                                                                  some false
                                                                              else none
                                                                            else none
                                                                          else
                                                                            if ((sS y3.toNatClampNeg) &&& (63 : Int32)) = (34 : Int32) then
                                                                              if inb (y3 + (1 : Int32)) sN = true then
                                                                                Option.bind (fX11_fit ztw (sS (y3 + (1 : Int32)).toNatClampNeg) I L) fun q239 =>
                                                                                if inb (y3 + (1 : Int32)) sN = true then
                                                                                  Option.bind (fX12_fit (sS (y3 + (1 : Int32)).toNatClampNeg) q239.2.1 q239.2.2) fun q241 =>
                                                                                  if q239.1 = q241.1 then
                                                                                    fL_law_18 sN sS fu (y3 + (6 : Int32)) ztw zdr zsk ztl zff q241.2.1 q241.2.2
                                                                                  else
                                                                                    some false
                                                                                else none
                                                                              else none
                                                                            else
                                                                              if ((sS y3.toNatClampNeg) &&& (63 : Int32)) = (35 : Int32) then
                                                                                if inb (y3 + (1 : Int32)) sN = true then
                                                                                  Option.bind (fX11_places ztw (sS (y3 + (1 : Int32)).toNatClampNeg) I L) fun q244 =>
                                                                                  if inb (y3 + (1 : Int32)) sN = true then
                                                                                    Option.bind (fX12_places (sS (y3 + (1 : Int32)).toNatClampNeg) q244.2.1 q244.2.2) fun q246 =>
                                                                                    if q244.1 = q246.1 then
                                                                                      fL_law_18 sN sS fu (y3 + (6 : Int32)) ztw zdr zsk ztl zff q246.2.1 q246.2.2
                                                                                    else
                                                                                      some false
                                                                                  else none
                                                                                else none
                                                                              else
                                                                                if ((sS y3.toNatClampNeg) &&& (63 : Int32)) = (36 : Int32) then
                                                                                  if inb (y3 + (1 : Int32)) sN = true then
                                                                                    Option.bind (fX11_heights ztw (sS (y3 + (1 : Int32)).toNatClampNeg) I L) fun q249 =>
                                                                                    if inb (y3 + (1 : Int32)) sN = true then
                                                                                      Option.bind (fX12_heights (sS (y3 + (1 : Int32)).toNatClampNeg) q249.2.1 q249.2.2) fun q251 =>
                                                                                      if q249.1 = q251.1 then
                                                                                        fL_law_18 sN sS fu (y3 + (6 : Int32)) ztw zdr zsk ztl zff q251.2.1 q251.2.2
                                                                                      else
                                                                                        some false
                                                                                    else none
                                                                                  else none
                                                                                else
                                                                                  if ((sS y3.toNatClampNeg) &&& (63 : Int32)) = (37 : Int32) then
                                                                                    if inb (y3 + (1 : Int32)) sN = true then
                                                                                      if inb (y3 + (2 : Int32)) sN = true then
                                                                                        Option.bind (fX11_ask ztw (sS (y3 + (1 : Int32)).toNatClampNeg) (sS (y3 + (2 : Int32)).toNatClampNeg) I L) fun q255 =>
                                                                                        if inb (y3 + (1 : Int32)) sN = true then
                                                                                          if inb (y3 + (2 : Int32)) sN = true then
                                                                                            Option.bind (fX12_ask (sS (y3 + (1 : Int32)).toNatClampNeg) (sS (y3 + (2 : Int32)).toNatClampNeg) q255.2.1 q255.2.2) fun q258 =>
                                                                                            if q255.1 = q258.1 then
                                                                                              fL_law_18 sN sS fu (y3 + (6 : Int32)) ztw zdr zsk ztl zff q258.2.1 q258.2.2
                                                                                            else
                                                                                              some false
                                                                                          else none
                                                                                        else none
                                                                                      else none
                                                                                    else none
                                                                                  else
                                                                                    if ((sS y3.toNatClampNeg) &&& (63 : Int32)) = (38 : Int32) then
                                                                                      if inb (y3 + (1 : Int32)) sN = true then
                                                                                        Option.bind (fX11_image (sS (y3 + (1 : Int32)).toNatClampNeg) I L) fun q261 =>
                                                                                        if inb (y3 + (1 : Int32)) sN = true then
                                                                                          Option.bind (fX12_image (sS (y3 + (1 : Int32)).toNatClampNeg) q261.2.1) fun q263 =>
                                                                                          if q261.1 = q263.1 then
                                                                                            fL_law_18 sN sS fu (y3 + (6 : Int32)) ztw zdr zsk ztl zff q263.2 q261.2.2
                                                                                          else
                                                                                            some false
                                                                                        else none
                                                                                      else none
                                                                                    else
                                                                                      if ((sS y3.toNatClampNeg) &&& (63 : Int32)) = (39 : Int32) then
                                                                                        if inb (y3 + (1 : Int32)) sN = true then
                                                                                          Option.bind (fX11_back (sS (y3 + (1 : Int32)).toNatClampNeg) I L) fun q266 =>
                                                                                          if inb (y3 + (1 : Int32)) sN = true then
                                                                                            Option.bind (fX12_back (sS (y3 + (1 : Int32)).toNatClampNeg) q266.2.1) fun q268 =>
                                                                                            if q266.1 = q268.1 then
                                                                                              fL_law_18 sN sS fu (y3 + (6 : Int32)) ztw zdr zsk ztl zff q268.2 q266.2.2
                                                                                            else
                                                                                              some false
                                                                                          else none
                                                                                        else none
                                                                                      else
                                                                                        if ((sS y3.toNatClampNeg) &&& (63 : Int32)) = (40 : Int32) then
                                                                                          if inb (y3 + (1 : Int32)) sN = true then
                                                                                            if inb (y3 + (1 : Int32)) sN = true then
                                                                                              Option.bind (fX12_about (sS (y3 + (1 : Int32)).toNatClampNeg) I) fun q272 =>
                                                                                              if (fX11_about ztw (sS (y3 + (1 : Int32)).toNatClampNeg) I L) = q272 then
                                                                                                fL_law_18 sN sS fu (y3 + (6 : Int32)) ztw zdr zsk ztl zff I L
                                                                                              else
                                                                                                some false
                                                                                            else none
                                                                                          else none
                                                                                        else
                                                                                          fL_law_18 sN sS fu (y3 + (6 : Int32)) ztw zdr zsk ztl zff I L
      else none
set_option maxRecDepth 100000 in
set_option maxHeartbeats 40000000 in
theorem lL_law_18 {g : GG} {n d : Nat} {sN : Nat} {sS : Nat → Int32} (hs : gN g = sN ∧ gS g = sS) (hn : 116 ≤ n) {P : PP} : ∀ (fu : Nat) (y3 : Int32) (ztw zdr zsk ztl zff : Nat) (I : HI) (L : HL) (res : Bool), RG ztw zdr zsk ztl zff → fL_law_18 sN sS fu y3 ztw zdr zsk ztl zff I L = some res → (∀ ztw zdr zsk ztl zff I L, P (some (.int (b2i res))) n (RT ztw zdr zsk ztl zff) I L) → V g mL_law (d + 173) 0 0 n (RT ztw zdr zsk ztl zff) I L 18 [some (.retAddr 4), some (.ref 0), some (.ref 73), some (.int y3)] [] P := by
  intro fu
  induction fu with
  | zero => intro y3 ztw zdr zsk ztl zff I L res hG hf; cases (show none = some res from hf)
  | succ fu ih =>
    intro y3 ztw zdr zsk ztl zff I L res hG hf K
    refine V_iload_n (pc := 18) dL_law_18 rfl rfl rfl ?_
    refine V_aload_nX (pc := 19) dL_law_19 rfl rfl rfl ?_
    refine V_slen (pc := 20) dL_law_20 hs rfl ?_
    refine V_bipush (pc := 21) dL_law_21 bp_6 rfl ?_
    refine V_isub (pc := 23) dL_law_23 rfl ?_
    refine V_icmp_gt (pc := 24) (tgt := 1520) dL_law_24 (by decide) rfl (fun hc => ?_) (fun hc => ?_)
    · replace hf := (if_pos hc).symm.trans hf
      refine V_iconst (pc := 1520) dL_law_1520 ic_1 rfl ?_
      cases hf
      exact V_zretE (pc := 1521) dL_law_1521 rfl (show (1 : Int32) = b2i true from rfl) (K _ _ _ _ _ _ _)
    · replace hf := (if_neg hc).symm.trans hf
      refine V_aload_nX (pc := 27) dL_law_27 rfl rfl rfl ?_
      refine V_iload_n (pc := 28) dL_law_28 rfl rfl rfl ?_
      obtain ⟨hc1, hf⟩ := pif hf
      refine V_sld (pc := 29) dL_law_29 hs hc1 rfl ?_
      refine V_bipush (pc := 30) dL_law_30 bp_63 rfl ?_
      refine V_iand (pc := 32) dL_law_32 rfl ?_
      by_cases hc2 : ((sS y3.toNatClampNeg) &&& (63 : Int32)) = (0 : Int32)
      · replace hf := (if_pos hc2).symm.trans hf
        refine V_tsIn (pc := 33) (tgt := 212) dL_law_33 (by rw [hc2]; decide) (by rw [hc2]; decide) (by rw [hc2]; first | done | rfl) (by decide) ?_
        refine V_aload_n (pc := 212) dL_law_212 rfl rfl rfl ?_
        refine V_aload_nX (pc := 213) dL_law_213 rfl rfl rfl ?_
        refine V_iload_n (pc := 214) dL_law_214 rfl rfl rfl ?_
        refine V_iconst (pc := 215) dL_law_215 ic_1 rfl ?_
        refine V_iadd (pc := 216) dL_law_216 rfl ?_
        obtain ⟨hc3, hf⟩ := pif hf
        refine V_sld (pc := 217) dL_law_217 hs hc3 rfl ?_
        refine V_aload_nX (pc := 218) dL_law_218 rfl rfl rfl ?_
        refine V_iload_n (pc := 219) dL_law_219 rfl rfl rfl ?_
        refine V_iconst (pc := 220) dL_law_220 ic_2 rfl ?_
        refine V_iadd (pc := 221) dL_law_221 rfl ?_
        obtain ⟨hc4, hf⟩ := pif hf
        refine V_sld (pc := 222) dL_law_222 hs hc4 rfl ?_
        refine V_aload_nX (pc := 223) dL_law_223 rfl rfl rfl ?_
        refine V_iload_n (pc := 224) dL_law_224 rfl rfl rfl ?_
        refine V_iconst (pc := 225) dL_law_225 ic_3 rfl ?_
        refine V_iadd (pc := 226) dL_law_226 rfl ?_
        obtain ⟨hc5, hf⟩ := pif hf
        refine V_sld (pc := 227) dL_law_227 hs hc5 rfl ?_
        refine V_aload_nX (pc := 228) dL_law_228 rfl rfl rfl ?_
        refine V_iload_n (pc := 229) dL_law_229 rfl rfl rfl ?_
        refine V_iconst (pc := 230) dL_law_230 ic_4 rfl ?_
        refine V_iadd (pc := 231) dL_law_231 rfl ?_
        obtain ⟨hc6, hf⟩ := pif hf
        refine V_sld (pc := 232) dL_law_232 hs hc6 rfl ?_
        refine V_aload_nX (pc := 233) dL_law_233 rfl rfl rfl ?_
        refine V_iload_n (pc := 234) dL_law_234 rfl rfl rfl ?_
        refine V_iconst (pc := 235) dL_law_235 ic_5 rfl ?_
        refine V_iadd (pc := 236) dL_law_236 rfl ?_
        obtain ⟨hc7, hf⟩ := pif hf
        refine V_sld (pc := 237) dL_law_237 hs hc7 rfl ?_
        obtain ⟨q8, hq8, hf⟩ := bnd hf
        refine V_cVi (md' := mX11_feed) (pc := 238) dL_law_238 mlL_13 mVX11_feed (tX11_feed ⟨hG.1, hG.2.1, hG.2.2.1, hG.2.2.2⟩ hn hq8) rfl (by omega) (congrArg Prod.fst sh_0) rfl (Nat.le_of_ble_eq_true rfl) rfl ?_
        refine V_aload_n (pc := 241) dL_law_241 rfl rfl rfl ?_
        refine V_aload_nX (pc := 242) dL_law_242 rfl rfl rfl ?_
        refine V_iload_n (pc := 243) dL_law_243 rfl rfl rfl ?_
        refine V_iconst (pc := 244) dL_law_244 ic_1 rfl ?_
        refine V_iadd (pc := 245) dL_law_245 rfl ?_
        obtain ⟨hc9, hf⟩ := pif hf
        refine V_sld (pc := 246) dL_law_246 hs hc9 rfl ?_
        refine V_aload_nX (pc := 247) dL_law_247 rfl rfl rfl ?_
        refine V_iload_n (pc := 248) dL_law_248 rfl rfl rfl ?_
        refine V_iconst (pc := 249) dL_law_249 ic_2 rfl ?_
        refine V_iadd (pc := 250) dL_law_250 rfl ?_
        obtain ⟨hc10, hf⟩ := pif hf
        refine V_sld (pc := 251) dL_law_251 hs hc10 rfl ?_
        refine V_aload_nX (pc := 252) dL_law_252 rfl rfl rfl ?_
        refine V_iload_n (pc := 253) dL_law_253 rfl rfl rfl ?_
        refine V_iconst (pc := 254) dL_law_254 ic_3 rfl ?_
        refine V_iadd (pc := 255) dL_law_255 rfl ?_
        obtain ⟨hc11, hf⟩ := pif hf
        refine V_sld (pc := 256) dL_law_256 hs hc11 rfl ?_
        refine V_aload_nX (pc := 257) dL_law_257 rfl rfl rfl ?_
        refine V_iload_n (pc := 258) dL_law_258 rfl rfl rfl ?_
        refine V_iconst (pc := 259) dL_law_259 ic_4 rfl ?_
        refine V_iadd (pc := 260) dL_law_260 rfl ?_
        obtain ⟨hc12, hf⟩ := pif hf
        refine V_sld (pc := 261) dL_law_261 hs hc12 rfl ?_
        refine V_aload_nX (pc := 262) dL_law_262 rfl rfl rfl ?_
        refine V_iload_n (pc := 263) dL_law_263 rfl rfl rfl ?_
        refine V_iconst (pc := 264) dL_law_264 ic_5 rfl ?_
        refine V_iadd (pc := 265) dL_law_265 rfl ?_
        obtain ⟨hc13, hf⟩ := pif hf
        refine V_sld (pc := 266) dL_law_266 hs hc13 rfl ?_
        obtain ⟨q14, hq14, hf⟩ := bnd hf
        refine V_cVi (md' := mX12_feed) (pc := 267) dL_law_267 mlL_17 mVX12_feed (tX12_feed ⟨hG.1, hG.2.1, hG.2.2.1, hG.2.2.2⟩ hn hq14) rfl (by omega) (congrArg Prod.fst sh_73) rfl (Nat.le_of_ble_eq_true rfl) rfl ?_
        refine V_icmp_eq (pc := 270) (tgt := 1514) dL_law_270 (by decide) rfl (fun hc => ?_) (fun hc => ?_)
        · replace hf := (if_pos hc).symm.trans hf
          refine V_iinc (ls' := [some _, some _, some _, some _]) (pc := 1514) dL_law_1514 rfl (Nat.le_of_ble_eq_true rfl) (congrArg _ ic_6) rfl rfl ?_
          refine V_goto (pc := 1517) (tgt := 18) dL_law_1517 (by decide) ?_
          exact V_wk (ih _ _ _ _ _ _ _ _ _ ⟨hG.1, hG.2.1, hG.2.2.1, hG.2.2.2⟩ hf K) ⟨rfl, ⟨rfl, ⟨rfl, ⟨rfl, trivial⟩⟩⟩⟩
        · replace hf := (if_neg hc).symm.trans hf
          refine V_iconst (pc := 273) dL_law_273 ic_0 rfl ?_
          cases hf
          exact V_zretE (pc := 274) dL_law_274 rfl (show (0 : Int32) = b2i false from rfl) (K _ _ _ _ _ _ _)
      · replace hf := (if_neg hc2).symm.trans hf
        by_cases hc15 : ((sS y3.toNatClampNeg) &&& (63 : Int32)) = (1 : Int32)
        · replace hf := (if_pos hc15).symm.trans hf
          refine V_tsIn (pc := 33) (tgt := 275) dL_law_33 (by rw [hc15]; decide) (by rw [hc15]; decide) (by rw [hc15]; first | done | rfl) (by decide) ?_
          refine V_aload_n (pc := 275) dL_law_275 rfl rfl rfl ?_
          refine V_aload_nX (pc := 276) dL_law_276 rfl rfl rfl ?_
          refine V_iload_n (pc := 277) dL_law_277 rfl rfl rfl ?_
          refine V_iconst (pc := 278) dL_law_278 ic_1 rfl ?_
          refine V_iadd (pc := 279) dL_law_279 rfl ?_
          obtain ⟨hc16, hf⟩ := pif hf
          refine V_sld (pc := 280) dL_law_280 hs hc16 rfl ?_
          obtain ⟨q17, hq17, hf⟩ := obd hf
          refine V_cVi (md' := mX11_end) (pc := 281) dL_law_281 mlL_18 mVX11_end (tX11_end ⟨hG.1, hG.2.1, hG.2.2.1, hG.2.2.2⟩ hn hq17) rfl (by omega) (congrArg Prod.fst sh_0) rfl (Nat.le_of_ble_eq_true rfl) rfl ?_
          refine V_aload_n (pc := 284) dL_law_284 rfl rfl rfl ?_
          refine V_aload_nX (pc := 285) dL_law_285 rfl rfl rfl ?_
          refine V_iload_n (pc := 286) dL_law_286 rfl rfl rfl ?_
          refine V_iconst (pc := 287) dL_law_287 ic_1 rfl ?_
          refine V_iadd (pc := 288) dL_law_288 rfl ?_
          obtain ⟨hc18, hf⟩ := pif hf
          refine V_sld (pc := 289) dL_law_289 hs hc18 rfl ?_
          obtain ⟨q19, hq19, hf⟩ := obd hf
          refine V_cVi (md' := mX12_end) (pc := 290) dL_law_290 mlL_22 mVX12_end (tX12_end ⟨hG.1, hG.2.1, hG.2.2.1, hG.2.2.2⟩ hn hq19) rfl (by omega) (congrArg Prod.fst sh_73) rfl (Nat.le_of_ble_eq_true rfl) rfl ?_
          refine V_icmp_eq (pc := 293) (tgt := 1514) dL_law_293 (by decide) rfl (fun hc => ?_) (fun hc => ?_)
          · replace hf := (if_pos hc).symm.trans hf
            refine V_iinc (ls' := [some _, some _, some _, some _]) (pc := 1514) dL_law_1514 rfl (Nat.le_of_ble_eq_true rfl) (congrArg _ ic_6) rfl rfl ?_
            refine V_goto (pc := 1517) (tgt := 18) dL_law_1517 (by decide) ?_
            exact V_wk (ih _ _ _ _ _ _ _ _ _ ⟨hG.1, hG.2.1, hG.2.2.1, hG.2.2.2⟩ hf K) ⟨rfl, ⟨rfl, ⟨rfl, ⟨rfl, trivial⟩⟩⟩⟩
          · replace hf := (if_neg hc).symm.trans hf
            refine V_iconst (pc := 296) dL_law_296 ic_0 rfl ?_
            cases hf
            exact V_zretE (pc := 297) dL_law_297 rfl (show (0 : Int32) = b2i false from rfl) (K _ _ _ _ _ _ _)
        · replace hf := (if_neg hc15).symm.trans hf
          by_cases hc20 : ((sS y3.toNatClampNeg) &&& (63 : Int32)) = (2 : Int32)
          · replace hf := (if_pos hc20).symm.trans hf
            refine V_tsIn (pc := 33) (tgt := 298) dL_law_33 (by rw [hc20]; decide) (by rw [hc20]; decide) (by rw [hc20]; first | done | rfl) (by decide) ?_
            refine V_aload_n (pc := 298) dL_law_298 rfl rfl rfl ?_
            obtain ⟨q21, hq21, hf⟩ := bnd hf
            refine V_cVi (md' := mX11_quarter) (pc := 299) dL_law_299 mlL_23 mVX11_quarter (tX11_quarter ⟨hG.1, hG.2.1, hG.2.2.1, hG.2.2.2⟩ hn hq21) rfl (by omega) (congrArg Prod.fst sh_0) rfl (Nat.le_of_ble_eq_true rfl) rfl ?_
            obtain ⟨hc22, hf⟩ := pif hf
            refine V_aload_n (pc := 302) dL_law_302 rfl rfl rfl ?_
            obtain ⟨q23, hq23, hf⟩ := bnd hf
            refine V_cVi (md' := mX12_quarter) (pc := 303) dL_law_303 mlL_27 mVX12_quarter (tX12_quarter ⟨hc22.1, hc22.2.1, hc22.2.2.1, hc22.2.2.2⟩ hn hq23) rfl (by omega) (congrArg Prod.fst sh_73) rfl (Nat.le_of_ble_eq_true rfl) rfl ?_
            refine V_icmp_eq (pc := 306) (tgt := 1514) dL_law_306 (by decide) rfl (fun hc => ?_) (fun hc => ?_)
            · replace hf := (if_pos hc).symm.trans hf
              refine V_iinc (ls' := [some _, some _, some _, some _]) (pc := 1514) dL_law_1514 rfl (Nat.le_of_ble_eq_true rfl) (congrArg _ ic_6) rfl rfl ?_
              refine V_goto (pc := 1517) (tgt := 18) dL_law_1517 (by decide) ?_
              exact V_wk (ih _ _ _ _ _ _ _ _ _ ⟨hc22.1, hc22.2.1, hc22.2.2.1, hc22.2.2.2⟩ hf K) ⟨rfl, ⟨rfl, ⟨rfl, ⟨rfl, trivial⟩⟩⟩⟩
            · replace hf := (if_neg hc).symm.trans hf
              refine V_iconst (pc := 309) dL_law_309 ic_0 rfl ?_
              cases hf
              exact V_zretE (pc := 310) dL_law_310 rfl (show (0 : Int32) = b2i false from rfl) (K _ _ _ _ _ _ _)
          · replace hf := (if_neg hc20).symm.trans hf
            by_cases hc24 : ((sS y3.toNatClampNeg) &&& (63 : Int32)) = (3 : Int32)
            · replace hf := (if_pos hc24).symm.trans hf
              refine V_tsIn (pc := 33) (tgt := 311) dL_law_33 (by rw [hc24]; decide) (by rw [hc24]; decide) (by rw [hc24]; first | done | rfl) (by decide) ?_
              refine V_aload_n (pc := 311) dL_law_311 rfl rfl rfl ?_
              refine V_aload_nX (pc := 312) dL_law_312 rfl rfl rfl ?_
              refine V_iload_n (pc := 313) dL_law_313 rfl rfl rfl ?_
              refine V_iconst (pc := 314) dL_law_314 ic_1 rfl ?_
              refine V_iadd (pc := 315) dL_law_315 rfl ?_
              obtain ⟨hc25, hf⟩ := pif hf
              refine V_sld (pc := 316) dL_law_316 hs hc25 rfl ?_
              refine V_cVi (md' := mX11_fault) (pc := 317) dL_law_317 mlL_28 mVX11_fault (tX11_fault ⟨hG.1, hG.2.1, hG.2.2.1, hG.2.2.2⟩ hn rfl) rfl (by omega) (congrArg Prod.fst sh_0) rfl (Nat.le_of_ble_eq_true rfl) rfl ?_
              refine V_aload_n (pc := 320) dL_law_320 rfl rfl rfl ?_
              refine V_aload_nX (pc := 321) dL_law_321 rfl rfl rfl ?_
              refine V_iload_n (pc := 322) dL_law_322 rfl rfl rfl ?_
              refine V_iconst (pc := 323) dL_law_323 ic_1 rfl ?_
              refine V_iadd (pc := 324) dL_law_324 rfl ?_
              obtain ⟨hc26, hf⟩ := pif hf
              refine V_sld (pc := 325) dL_law_325 hs hc26 rfl ?_
              refine V_cVi (md' := mX12_fault) (pc := 326) dL_law_326 mlL_31 mVX12_fault (tX12_fault ⟨hG.1, hG.2.1, hG.2.2.1, hG.2.2.2⟩ hn rfl) rfl (by omega) (congrArg Prod.fst sh_73) rfl (Nat.le_of_ble_eq_true rfl) rfl ?_
              refine V_icmp_eq (pc := 329) (tgt := 1514) dL_law_329 (by decide) rfl (fun hc => ?_) (fun hc => ?_)
              · replace hf := (if_pos hc).symm.trans hf
                refine V_iinc (ls' := [some _, some _, some _, some _]) (pc := 1514) dL_law_1514 rfl (Nat.le_of_ble_eq_true rfl) (congrArg _ ic_6) rfl rfl ?_
                refine V_goto (pc := 1517) (tgt := 18) dL_law_1517 (by decide) ?_
                exact V_wk (ih _ _ _ _ _ _ _ _ _ ⟨hG.1, hG.2.1, hG.2.2.1, hG.2.2.2⟩ hf K) ⟨rfl, ⟨rfl, ⟨rfl, ⟨rfl, trivial⟩⟩⟩⟩
              · replace hf := (if_neg hc).symm.trans hf
                refine V_iconst (pc := 332) dL_law_332 ic_0 rfl ?_
                cases hf
                exact V_zretE (pc := 333) dL_law_333 rfl (show (0 : Int32) = b2i false from rfl) (K _ _ _ _ _ _ _)
            · replace hf := (if_neg hc24).symm.trans hf
              by_cases hc27 : ((sS y3.toNatClampNeg) &&& (63 : Int32)) = (4 : Int32)
              · replace hf := (if_pos hc27).symm.trans hf
                refine V_tsIn (pc := 33) (tgt := 334) dL_law_33 (by rw [hc27]; decide) (by rw [hc27]; decide) (by rw [hc27]; first | done | rfl) (by decide) ?_
                refine V_aload_n (pc := 334) dL_law_334 rfl rfl rfl ?_
                refine V_aload_nX (pc := 335) dL_law_335 rfl rfl rfl ?_
                refine V_iload_n (pc := 336) dL_law_336 rfl rfl rfl ?_
                refine V_iconst (pc := 337) dL_law_337 ic_1 rfl ?_
                refine V_iadd (pc := 338) dL_law_338 rfl ?_
                obtain ⟨hc28, hf⟩ := pif hf
                refine V_sld (pc := 339) dL_law_339 hs hc28 rfl ?_
                refine V_aload_nX (pc := 340) dL_law_340 rfl rfl rfl ?_
                refine V_iload_n (pc := 341) dL_law_341 rfl rfl rfl ?_
                refine V_iconst (pc := 342) dL_law_342 ic_2 rfl ?_
                refine V_iadd (pc := 343) dL_law_343 rfl ?_
                obtain ⟨hc29, hf⟩ := pif hf
                refine V_sld (pc := 344) dL_law_344 hs hc29 rfl ?_
                obtain ⟨q30, hq30, hf⟩ := bnd hf
                refine V_cVi (md' := mX11_door) (pc := 345) dL_law_345 mlL_32 mVX11_door (tX11_door ⟨hG.1, hG.2.1, hG.2.2.1, hG.2.2.2⟩ hn hq30) rfl (by omega) (congrArg Prod.fst sh_0) rfl (Nat.le_of_ble_eq_true rfl) rfl ?_
                refine V_aload_n (pc := 348) dL_law_348 rfl rfl rfl ?_
                refine V_aload_nX (pc := 349) dL_law_349 rfl rfl rfl ?_
                refine V_iload_n (pc := 350) dL_law_350 rfl rfl rfl ?_
                refine V_iconst (pc := 351) dL_law_351 ic_1 rfl ?_
                refine V_iadd (pc := 352) dL_law_352 rfl ?_
                obtain ⟨hc31, hf⟩ := pif hf
                refine V_sld (pc := 353) dL_law_353 hs hc31 rfl ?_
                refine V_aload_nX (pc := 354) dL_law_354 rfl rfl rfl ?_
                refine V_iload_n (pc := 355) dL_law_355 rfl rfl rfl ?_
                refine V_iconst (pc := 356) dL_law_356 ic_2 rfl ?_
                refine V_iadd (pc := 357) dL_law_357 rfl ?_
                obtain ⟨hc32, hf⟩ := pif hf
                refine V_sld (pc := 358) dL_law_358 hs hc32 rfl ?_
                obtain ⟨q33, hq33, hf⟩ := bnd hf
                refine V_cVi (md' := mX12_door) (pc := 359) dL_law_359 mlL_36 mVX12_door (tX12_door ⟨hG.1, hG.2.1, hG.2.2.1, hG.2.2.2⟩ hn hq33) rfl (by omega) (congrArg Prod.fst sh_73) rfl (Nat.le_of_ble_eq_true rfl) rfl ?_
                refine V_icmp_eq (pc := 362) (tgt := 1514) dL_law_362 (by decide) rfl (fun hc => ?_) (fun hc => ?_)
                · replace hf := (if_pos hc).symm.trans hf
                  refine V_iinc (ls' := [some _, some _, some _, some _]) (pc := 1514) dL_law_1514 rfl (Nat.le_of_ble_eq_true rfl) (congrArg _ ic_6) rfl rfl ?_
                  refine V_goto (pc := 1517) (tgt := 18) dL_law_1517 (by decide) ?_
                  exact V_wk (ih _ _ _ _ _ _ _ _ _ ⟨hG.1, hG.2.1, hG.2.2.1, hG.2.2.2⟩ hf K) ⟨rfl, ⟨rfl, ⟨rfl, ⟨rfl, trivial⟩⟩⟩⟩
                · replace hf := (if_neg hc).symm.trans hf
                  refine V_iconst (pc := 365) dL_law_365 ic_0 rfl ?_
                  cases hf
                  exact V_zretE (pc := 366) dL_law_366 rfl (show (0 : Int32) = b2i false from rfl) (K _ _ _ _ _ _ _)
              · replace hf := (if_neg hc27).symm.trans hf
                by_cases hc34 : ((sS y3.toNatClampNeg) &&& (63 : Int32)) = (5 : Int32)
                · replace hf := (if_pos hc34).symm.trans hf
                  refine V_tsIn (pc := 33) (tgt := 367) dL_law_33 (by rw [hc34]; decide) (by rw [hc34]; decide) (by rw [hc34]; first | done | rfl) (by decide) ?_
                  refine V_aload_n (pc := 367) dL_law_367 rfl rfl rfl ?_
                  refine V_aload_nX (pc := 368) dL_law_368 rfl rfl rfl ?_
                  refine V_iload_n (pc := 369) dL_law_369 rfl rfl rfl ?_
                  refine V_iconst (pc := 370) dL_law_370 ic_1 rfl ?_
                  refine V_iadd (pc := 371) dL_law_371 rfl ?_
                  obtain ⟨hc35, hf⟩ := pif hf
                  refine V_sld (pc := 372) dL_law_372 hs hc35 rfl ?_
                  refine V_aload_nX (pc := 373) dL_law_373 rfl rfl rfl ?_
                  refine V_iload_n (pc := 374) dL_law_374 rfl rfl rfl ?_
                  refine V_iconst (pc := 375) dL_law_375 ic_2 rfl ?_
                  refine V_iadd (pc := 376) dL_law_376 rfl ?_
                  obtain ⟨hc36, hf⟩ := pif hf
                  refine V_sld (pc := 377) dL_law_377 hs hc36 rfl ?_
                  obtain ⟨q37, hq37, hf⟩ := bnd hf
                  refine V_cVi (md' := mX11_lamp) (pc := 378) dL_law_378 mlL_37 mVX11_lamp (tX11_lamp ⟨hG.1, hG.2.1, hG.2.2.1, hG.2.2.2⟩ hn hq37) rfl (by omega) (congrArg Prod.fst sh_0) rfl (Nat.le_of_ble_eq_true rfl) rfl ?_
                  refine V_aload_n (pc := 381) dL_law_381 rfl rfl rfl ?_
                  refine V_aload_nX (pc := 382) dL_law_382 rfl rfl rfl ?_
                  refine V_iload_n (pc := 383) dL_law_383 rfl rfl rfl ?_
                  refine V_iconst (pc := 384) dL_law_384 ic_1 rfl ?_
                  refine V_iadd (pc := 385) dL_law_385 rfl ?_
                  obtain ⟨hc38, hf⟩ := pif hf
                  refine V_sld (pc := 386) dL_law_386 hs hc38 rfl ?_
                  refine V_aload_nX (pc := 387) dL_law_387 rfl rfl rfl ?_
                  refine V_iload_n (pc := 388) dL_law_388 rfl rfl rfl ?_
                  refine V_iconst (pc := 389) dL_law_389 ic_2 rfl ?_
                  refine V_iadd (pc := 390) dL_law_390 rfl ?_
                  obtain ⟨hc39, hf⟩ := pif hf
                  refine V_sld (pc := 391) dL_law_391 hs hc39 rfl ?_
                  obtain ⟨q40, hq40, hf⟩ := bnd hf
                  refine V_cVi (md' := mX12_lamp) (pc := 392) dL_law_392 mlL_40 mVX12_lamp (tX12_lamp ⟨hG.1, hG.2.1, hG.2.2.1, hG.2.2.2⟩ hn hq40) rfl (by omega) (congrArg Prod.fst sh_73) rfl (Nat.le_of_ble_eq_true rfl) rfl ?_
                  refine V_icmp_eq (pc := 395) (tgt := 1514) dL_law_395 (by decide) rfl (fun hc => ?_) (fun hc => ?_)
                  · replace hf := (if_pos hc).symm.trans hf
                    refine V_iinc (ls' := [some _, some _, some _, some _]) (pc := 1514) dL_law_1514 rfl (Nat.le_of_ble_eq_true rfl) (congrArg _ ic_6) rfl rfl ?_
                    refine V_goto (pc := 1517) (tgt := 18) dL_law_1517 (by decide) ?_
                    exact V_wk (ih _ _ _ _ _ _ _ _ _ ⟨hG.1, hG.2.1, hG.2.2.1, hG.2.2.2⟩ hf K) ⟨rfl, ⟨rfl, ⟨rfl, ⟨rfl, trivial⟩⟩⟩⟩
                  · replace hf := (if_neg hc).symm.trans hf
                    refine V_iconst (pc := 398) dL_law_398 ic_0 rfl ?_
                    cases hf
                    exact V_zretE (pc := 399) dL_law_399 rfl (show (0 : Int32) = b2i false from rfl) (K _ _ _ _ _ _ _)
                · replace hf := (if_neg hc34).symm.trans hf
                  by_cases hc41 : ((sS y3.toNatClampNeg) &&& (63 : Int32)) = (6 : Int32)
                  · replace hf := (if_pos hc41).symm.trans hf
                    refine V_tsIn (pc := 33) (tgt := 400) dL_law_33 (by rw [hc41]; decide) (by rw [hc41]; decide) (by rw [hc41]; first | done | rfl) (by decide) ?_
                    refine V_aload_n (pc := 400) dL_law_400 rfl rfl rfl ?_
                    refine V_aload_nX (pc := 401) dL_law_401 rfl rfl rfl ?_
                    refine V_iload_n (pc := 402) dL_law_402 rfl rfl rfl ?_
                    refine V_iconst (pc := 403) dL_law_403 ic_1 rfl ?_
                    refine V_iadd (pc := 404) dL_law_404 rfl ?_
                    obtain ⟨hc42, hf⟩ := pif hf
                    refine V_sld (pc := 405) dL_law_405 hs hc42 rfl ?_
                    refine V_aload_nX (pc := 406) dL_law_406 rfl rfl rfl ?_
                    refine V_iload_n (pc := 407) dL_law_407 rfl rfl rfl ?_
                    refine V_iconst (pc := 408) dL_law_408 ic_2 rfl ?_
                    refine V_iadd (pc := 409) dL_law_409 rfl ?_
                    obtain ⟨hc43, hf⟩ := pif hf
                    refine V_sld (pc := 410) dL_law_410 hs hc43 rfl ?_
                    obtain ⟨q44, hq44, hf⟩ := bnd hf
                    refine V_cVi (md' := mX11_person) (pc := 411) dL_law_411 mlL_41 mVX11_person (tX11_person ⟨hG.1, hG.2.1, hG.2.2.1, hG.2.2.2⟩ hn hq44) rfl (by omega) (congrArg Prod.fst sh_0) rfl (Nat.le_of_ble_eq_true rfl) rfl ?_
                    refine V_aload_n (pc := 414) dL_law_414 rfl rfl rfl ?_
                    refine V_aload_nX (pc := 415) dL_law_415 rfl rfl rfl ?_
                    refine V_iload_n (pc := 416) dL_law_416 rfl rfl rfl ?_
                    refine V_iconst (pc := 417) dL_law_417 ic_1 rfl ?_
                    refine V_iadd (pc := 418) dL_law_418 rfl ?_
                    obtain ⟨hc45, hf⟩ := pif hf
                    refine V_sld (pc := 419) dL_law_419 hs hc45 rfl ?_
                    refine V_aload_nX (pc := 420) dL_law_420 rfl rfl rfl ?_
                    refine V_iload_n (pc := 421) dL_law_421 rfl rfl rfl ?_
                    refine V_iconst (pc := 422) dL_law_422 ic_2 rfl ?_
                    refine V_iadd (pc := 423) dL_law_423 rfl ?_
                    obtain ⟨hc46, hf⟩ := pif hf
                    refine V_sld (pc := 424) dL_law_424 hs hc46 rfl ?_
                    obtain ⟨q47, hq47, hf⟩ := bnd hf
                    refine V_cVi (md' := mX12_person) (pc := 425) dL_law_425 mlL_44 mVX12_person (tX12_person ⟨hG.1, hG.2.1, hG.2.2.1, hG.2.2.2⟩ hn hq47) rfl (by omega) (congrArg Prod.fst sh_73) rfl (Nat.le_of_ble_eq_true rfl) rfl ?_
                    refine V_icmp_eq (pc := 428) (tgt := 1514) dL_law_428 (by decide) rfl (fun hc => ?_) (fun hc => ?_)
                    · replace hf := (if_pos hc).symm.trans hf
                      refine V_iinc (ls' := [some _, some _, some _, some _]) (pc := 1514) dL_law_1514 rfl (Nat.le_of_ble_eq_true rfl) (congrArg _ ic_6) rfl rfl ?_
                      refine V_goto (pc := 1517) (tgt := 18) dL_law_1517 (by decide) ?_
                      exact V_wk (ih _ _ _ _ _ _ _ _ _ ⟨hG.1, hG.2.1, hG.2.2.1, hG.2.2.2⟩ hf K) ⟨rfl, ⟨rfl, ⟨rfl, ⟨rfl, trivial⟩⟩⟩⟩
                    · replace hf := (if_neg hc).symm.trans hf
                      refine V_iconst (pc := 431) dL_law_431 ic_0 rfl ?_
                      cases hf
                      exact V_zretE (pc := 432) dL_law_432 rfl (show (0 : Int32) = b2i false from rfl) (K _ _ _ _ _ _ _)
                  · replace hf := (if_neg hc41).symm.trans hf
                    by_cases hc48 : ((sS y3.toNatClampNeg) &&& (63 : Int32)) = (7 : Int32)
                    · replace hf := (if_pos hc48).symm.trans hf
                      refine V_tsIn (pc := 33) (tgt := 433) dL_law_33 (by rw [hc48]; decide) (by rw [hc48]; decide) (by rw [hc48]; first | done | rfl) (by decide) ?_
                      refine V_aload_n (pc := 433) dL_law_433 rfl rfl rfl ?_
                      refine V_aload_nX (pc := 434) dL_law_434 rfl rfl rfl ?_
                      refine V_iload_n (pc := 435) dL_law_435 rfl rfl rfl ?_
                      refine V_iconst (pc := 436) dL_law_436 ic_1 rfl ?_
                      refine V_iadd (pc := 437) dL_law_437 rfl ?_
                      obtain ⟨hc49, hf⟩ := pif hf
                      refine V_sld (pc := 438) dL_law_438 hs hc49 rfl ?_
                      refine V_aload_nX (pc := 439) dL_law_439 rfl rfl rfl ?_
                      refine V_iload_n (pc := 440) dL_law_440 rfl rfl rfl ?_
                      refine V_iconst (pc := 441) dL_law_441 ic_2 rfl ?_
                      refine V_iadd (pc := 442) dL_law_442 rfl ?_
                      obtain ⟨hc50, hf⟩ := pif hf
                      refine V_sld (pc := 443) dL_law_443 hs hc50 rfl ?_
                      obtain ⟨q51, hq51, hf⟩ := bnd hf
                      refine V_cVi (md' := mX11_shade) (pc := 444) dL_law_444 mlL_45 mVX11_shade (tX11_shade ⟨hG.1, hG.2.1, hG.2.2.1, hG.2.2.2⟩ hn hq51) rfl (by omega) (congrArg Prod.fst sh_0) rfl (Nat.le_of_ble_eq_true rfl) rfl ?_
                      refine V_aload_n (pc := 447) dL_law_447 rfl rfl rfl ?_
                      refine V_aload_nX (pc := 448) dL_law_448 rfl rfl rfl ?_
                      refine V_iload_n (pc := 449) dL_law_449 rfl rfl rfl ?_
                      refine V_iconst (pc := 450) dL_law_450 ic_1 rfl ?_
                      refine V_iadd (pc := 451) dL_law_451 rfl ?_
                      obtain ⟨hc52, hf⟩ := pif hf
                      refine V_sld (pc := 452) dL_law_452 hs hc52 rfl ?_
                      refine V_aload_nX (pc := 453) dL_law_453 rfl rfl rfl ?_
                      refine V_iload_n (pc := 454) dL_law_454 rfl rfl rfl ?_
                      refine V_iconst (pc := 455) dL_law_455 ic_2 rfl ?_
                      refine V_iadd (pc := 456) dL_law_456 rfl ?_
                      obtain ⟨hc53, hf⟩ := pif hf
                      refine V_sld (pc := 457) dL_law_457 hs hc53 rfl ?_
                      obtain ⟨q54, hq54, hf⟩ := bnd hf
                      refine V_cVi (md' := mX12_shade) (pc := 458) dL_law_458 mlL_48 mVX12_shade (tX12_shade ⟨hG.1, hG.2.1, hG.2.2.1, hG.2.2.2⟩ hn hq54) rfl (by omega) (congrArg Prod.fst sh_73) rfl (Nat.le_of_ble_eq_true rfl) rfl ?_
                      refine V_icmp_eq (pc := 461) (tgt := 1514) dL_law_461 (by decide) rfl (fun hc => ?_) (fun hc => ?_)
                      · replace hf := (if_pos hc).symm.trans hf
                        refine V_iinc (ls' := [some _, some _, some _, some _]) (pc := 1514) dL_law_1514 rfl (Nat.le_of_ble_eq_true rfl) (congrArg _ ic_6) rfl rfl ?_
                        refine V_goto (pc := 1517) (tgt := 18) dL_law_1517 (by decide) ?_
                        exact V_wk (ih _ _ _ _ _ _ _ _ _ ⟨hG.1, hG.2.1, hG.2.2.1, hG.2.2.2⟩ hf K) ⟨rfl, ⟨rfl, ⟨rfl, ⟨rfl, trivial⟩⟩⟩⟩
                      · replace hf := (if_neg hc).symm.trans hf
                        refine V_iconst (pc := 464) dL_law_464 ic_0 rfl ?_
                        cases hf
                        exact V_zretE (pc := 465) dL_law_465 rfl (show (0 : Int32) = b2i false from rfl) (K _ _ _ _ _ _ _)
                    · replace hf := (if_neg hc48).symm.trans hf
                      by_cases hc55 : ((sS y3.toNatClampNeg) &&& (63 : Int32)) = (8 : Int32)
                      · replace hf := (if_pos hc55).symm.trans hf
                        refine V_tsIn (pc := 33) (tgt := 466) dL_law_33 (by rw [hc55]; decide) (by rw [hc55]; decide) (by rw [hc55]; first | done | rfl) (by decide) ?_
                        refine V_aload_n (pc := 466) dL_law_466 rfl rfl rfl ?_
                        refine V_aload_nX (pc := 467) dL_law_467 rfl rfl rfl ?_
                        refine V_iload_n (pc := 468) dL_law_468 rfl rfl rfl ?_
                        refine V_iconst (pc := 469) dL_law_469 ic_1 rfl ?_
                        refine V_iadd (pc := 470) dL_law_470 rfl ?_
                        obtain ⟨hc56, hf⟩ := pif hf
                        refine V_sld (pc := 471) dL_law_471 hs hc56 rfl ?_
                        refine V_aload_nX (pc := 472) dL_law_472 rfl rfl rfl ?_
                        refine V_iload_n (pc := 473) dL_law_473 rfl rfl rfl ?_
                        refine V_iconst (pc := 474) dL_law_474 ic_2 rfl ?_
                        refine V_iadd (pc := 475) dL_law_475 rfl ?_
                        obtain ⟨hc57, hf⟩ := pif hf
                        refine V_sld (pc := 476) dL_law_476 hs hc57 rfl ?_
                        obtain ⟨q58, hq58, hf⟩ := bnd hf
                        refine V_cVl (md' := mX11_shadow) (pc := 477) dL_law_477 mlL_49 mVX11_shadow (tX11_shadow ⟨hG.1, hG.2.1, hG.2.2.1, hG.2.2.2⟩ hn hq58) rfl (by omega) (congrArg Prod.fst sh_0) rfl (Nat.le_of_ble_eq_true rfl) rfl ?_
                        refine V_aload_n (pc := 480) dL_law_480 rfl rfl rfl ?_
                        refine V_aload_nX (pc := 481) dL_law_481 rfl rfl rfl ?_
                        refine V_iload_n (pc := 482) dL_law_482 rfl rfl rfl ?_
                        refine V_iconst (pc := 483) dL_law_483 ic_1 rfl ?_
                        refine V_iadd (pc := 484) dL_law_484 rfl ?_
                        obtain ⟨hc59, hf⟩ := pif hf
                        refine V_sld (pc := 485) dL_law_485 hs hc59 rfl ?_
                        refine V_aload_nX (pc := 486) dL_law_486 rfl rfl rfl ?_
                        refine V_iload_n (pc := 487) dL_law_487 rfl rfl rfl ?_
                        refine V_iconst (pc := 488) dL_law_488 ic_2 rfl ?_
                        refine V_iadd (pc := 489) dL_law_489 rfl ?_
                        obtain ⟨hc60, hf⟩ := pif hf
                        refine V_sld (pc := 490) dL_law_490 hs hc60 rfl ?_
                        obtain ⟨q61, hq61, hf⟩ := bnd hf
                        refine V_cVl (md' := mX12_shadow) (pc := 491) dL_law_491 mlL_53 mVX12_shadow (tX12_shadow ⟨hG.1, hG.2.1, hG.2.2.1, hG.2.2.2⟩ hn hq61) rfl (by omega) (congrArg Prod.fst sh_73) rfl (Nat.le_of_ble_eq_true rfl) rfl ?_
                        refine V_lc_eq (pc := 494) (tgt := 1514) dL_law_494 rfl dL_law_495 (by decide) rfl (fun hc => ?_) (fun hc => ?_)
                        · replace hf := (if_pos hc).symm.trans hf
                          refine V_iinc (ls' := [some _, some _, some _, some _]) (pc := 1514) dL_law_1514 rfl (Nat.le_of_ble_eq_true rfl) (congrArg _ ic_6) rfl rfl ?_
                          refine V_goto (pc := 1517) (tgt := 18) dL_law_1517 (by decide) ?_
                          exact V_wk (ih _ _ _ _ _ _ _ _ _ ⟨hG.1, hG.2.1, hG.2.2.1, hG.2.2.2⟩ hf K) ⟨rfl, ⟨rfl, ⟨rfl, ⟨rfl, trivial⟩⟩⟩⟩
                        · replace hf := (if_neg hc).symm.trans hf
                          refine V_iconst (pc := 498) dL_law_498 ic_0 rfl ?_
                          cases hf
                          exact V_zretE (pc := 499) dL_law_499 rfl (show (0 : Int32) = b2i false from rfl) (K _ _ _ _ _ _ _)
                      · replace hf := (if_neg hc55).symm.trans hf
                        by_cases hc62 : ((sS y3.toNatClampNeg) &&& (63 : Int32)) = (9 : Int32)
                        · replace hf := (if_pos hc62).symm.trans hf
                          refine V_tsIn (pc := 33) (tgt := 500) dL_law_33 (by rw [hc62]; decide) (by rw [hc62]; decide) (by rw [hc62]; first | done | rfl) (by decide) ?_
                          refine V_aload_n (pc := 500) dL_law_500 rfl rfl rfl ?_
                          refine V_aload_nX (pc := 501) dL_law_501 rfl rfl rfl ?_
                          refine V_iload_n (pc := 502) dL_law_502 rfl rfl rfl ?_
                          refine V_iconst (pc := 503) dL_law_503 ic_1 rfl ?_
                          refine V_iadd (pc := 504) dL_law_504 rfl ?_
                          obtain ⟨hc63, hf⟩ := pif hf
                          refine V_sld (pc := 505) dL_law_505 hs hc63 rfl ?_
                          refine V_aload_nX (pc := 506) dL_law_506 rfl rfl rfl ?_
                          refine V_iload_n (pc := 507) dL_law_507 rfl rfl rfl ?_
                          refine V_iconst (pc := 508) dL_law_508 ic_2 rfl ?_
                          refine V_iadd (pc := 509) dL_law_509 rfl ?_
                          obtain ⟨hc64, hf⟩ := pif hf
                          refine V_sld (pc := 510) dL_law_510 hs hc64 rfl ?_
                          obtain ⟨q65, hq65, hf⟩ := bnd hf
                          have Kq65 : V g mL_law (d + 173) 0 0 n (RT ztw zdr zsk ztl zff) I L 519 [some (.retAddr 4), some (.ref 0), some (.ref 73), some (.int y3)] [.int (b2i q65), .int (sS (y3 + (1 : Int32)).toNatClampNeg), .ref 0] P := by
                            obtain ⟨q66, hq66, hf⟩ := bnd hf
                            refine V_cVl (md' := mX11_shades) (pc := 519) dL_law_519 mlL_54 mVX11_shades (tX11_shades ⟨hG.1, hG.2.1, hG.2.2.1, hG.2.2.2⟩ hn hq66) rfl (by omega) (congrArg Prod.fst sh_0) rfl (Nat.le_of_ble_eq_true rfl) rfl ?_
                            refine V_aload_n (pc := 522) dL_law_522 rfl rfl rfl ?_
                            refine V_aload_nX (pc := 523) dL_law_523 rfl rfl rfl ?_
                            refine V_iload_n (pc := 524) dL_law_524 rfl rfl rfl ?_
                            refine V_iconst (pc := 525) dL_law_525 ic_1 rfl ?_
                            refine V_iadd (pc := 526) dL_law_526 rfl ?_
                            obtain ⟨hc67, hf⟩ := pif hf
                            refine V_sld (pc := 527) dL_law_527 hs hc67 rfl ?_
                            refine V_aload_nX (pc := 528) dL_law_528 rfl rfl rfl ?_
                            refine V_iload_n (pc := 529) dL_law_529 rfl rfl rfl ?_
                            refine V_iconst (pc := 530) dL_law_530 ic_2 rfl ?_
                            refine V_iadd (pc := 531) dL_law_531 rfl ?_
                            obtain ⟨hc68, hf⟩ := pif hf
                            refine V_sld (pc := 532) dL_law_532 hs hc68 rfl ?_
                            obtain ⟨q69, hq69, hf⟩ := bnd hf
                            have Kq69 : V g mL_law (d + 173) 0 0 n (RT ztw zdr zsk ztl zff) q66.2.1 q66.2.2 541 [some (.retAddr 4), some (.ref 0), some (.ref 73), some (.int y3)] [.int (b2i q69), .int (sS (y3 + (1 : Int32)).toNatClampNeg), .ref 73, .long q66.1] P := by
                              obtain ⟨q70, hq70, hf⟩ := bnd hf
                              refine V_cVl (md' := mX12_shades) (pc := 541) dL_law_541 mlL_58 mVX12_shades (tX12_shades ⟨hG.1, hG.2.1, hG.2.2.1, hG.2.2.2⟩ hn hq70) rfl (by omega) (congrArg Prod.fst sh_73) rfl (Nat.le_of_ble_eq_true rfl) rfl ?_
                              refine V_lc_eq (pc := 544) (tgt := 1514) dL_law_544 rfl dL_law_545 (by decide) rfl (fun hc => ?_) (fun hc => ?_)
                              · replace hf := (if_pos hc).symm.trans hf
                                refine V_iinc (ls' := [some _, some _, some _, some _]) (pc := 1514) dL_law_1514 rfl (Nat.le_of_ble_eq_true rfl) (congrArg _ ic_6) rfl rfl ?_
                                refine V_goto (pc := 1517) (tgt := 18) dL_law_1517 (by decide) ?_
                                exact V_wk (ih _ _ _ _ _ _ _ _ _ ⟨hG.1, hG.2.1, hG.2.2.1, hG.2.2.2⟩ hf K) ⟨rfl, ⟨rfl, ⟨rfl, ⟨rfl, trivial⟩⟩⟩⟩
                              · replace hf := (if_neg hc).symm.trans hf
                                refine V_iconst (pc := 548) dL_law_548 ic_0 rfl ?_
                                cases hf
                                exact V_zretE (pc := 549) dL_law_549 rfl (show (0 : Int32) = b2i false from rfl) (K _ _ _ _ _ _ _)
                            refine V_if_eq (pc := 533) (tgt := 540) dL_law_533 (by decide) rfl (fun hc => ?_) (fun hc => ?_)
                            · replace hq69 := (if_pos hc).symm.trans hq69
                              refine V_iconst (pc := 540) dL_law_540 ic_0 rfl ?_
                              cases hq69
                              exact V_wk Kq69 ⟨rfl, ⟨rfl, ⟨rfl, ⟨rfl, trivial⟩⟩⟩⟩
                            · replace hq69 := (if_neg hc).symm.trans hq69
                              refine V_iconst (pc := 536) dL_law_536 ic_1 rfl ?_
                              refine V_goto (pc := 537) (tgt := 541) dL_law_537 (by decide) ?_
                              cases hq69
                              exact V_wk Kq69 ⟨rfl, ⟨rfl, ⟨rfl, ⟨rfl, trivial⟩⟩⟩⟩
                          refine V_if_eq (pc := 511) (tgt := 518) dL_law_511 (by decide) rfl (fun hc => ?_) (fun hc => ?_)
                          · replace hq65 := (if_pos hc).symm.trans hq65
                            refine V_iconst (pc := 518) dL_law_518 ic_0 rfl ?_
                            cases hq65
                            exact V_wk Kq65 ⟨rfl, ⟨rfl, ⟨rfl, ⟨rfl, trivial⟩⟩⟩⟩
                          · replace hq65 := (if_neg hc).symm.trans hq65
                            refine V_iconst (pc := 514) dL_law_514 ic_1 rfl ?_
                            refine V_goto (pc := 515) (tgt := 519) dL_law_515 (by decide) ?_
                            cases hq65
                            exact V_wk Kq65 ⟨rfl, ⟨rfl, ⟨rfl, ⟨rfl, trivial⟩⟩⟩⟩
                        · replace hf := (if_neg hc62).symm.trans hf
                          by_cases hc71 : ((sS y3.toNatClampNeg) &&& (63 : Int32)) = (10 : Int32)
                          · replace hf := (if_pos hc71).symm.trans hf
                            refine V_tsIn (pc := 33) (tgt := 550) dL_law_33 (by rw [hc71]; decide) (by rw [hc71]; decide) (by rw [hc71]; first | done | rfl) (by decide) ?_
                            refine V_aload_n (pc := 550) dL_law_550 rfl rfl rfl ?_
                            refine V_aload_nX (pc := 551) dL_law_551 rfl rfl rfl ?_
                            refine V_iload_n (pc := 552) dL_law_552 rfl rfl rfl ?_
                            refine V_iconst (pc := 553) dL_law_553 ic_1 rfl ?_
                            refine V_iadd (pc := 554) dL_law_554 rfl ?_
                            obtain ⟨hc72, hf⟩ := pif hf
                            refine V_sld (pc := 555) dL_law_555 hs hc72 rfl ?_
                            refine V_aload_nX (pc := 556) dL_law_556 rfl rfl rfl ?_
                            refine V_iload_n (pc := 557) dL_law_557 rfl rfl rfl ?_
                            refine V_iconst (pc := 558) dL_law_558 ic_2 rfl ?_
                            refine V_iadd (pc := 559) dL_law_559 rfl ?_
                            obtain ⟨hc73, hf⟩ := pif hf
                            refine V_sld (pc := 560) dL_law_560 hs hc73 rfl ?_
                            obtain ⟨q74, hq74, hf⟩ := bnd hf
                            refine V_cVl (md' := mX11_moves) (pc := 561) dL_law_561 mlL_59 mVX11_moves (tX11_moves ⟨hG.1, hG.2.1, hG.2.2.1, hG.2.2.2⟩ hn hq74) rfl (by omega) (congrArg Prod.fst sh_0) rfl (Nat.le_of_ble_eq_true rfl) rfl ?_
                            refine V_aload_n (pc := 564) dL_law_564 rfl rfl rfl ?_
                            refine V_aload_nX (pc := 565) dL_law_565 rfl rfl rfl ?_
                            refine V_iload_n (pc := 566) dL_law_566 rfl rfl rfl ?_
                            refine V_iconst (pc := 567) dL_law_567 ic_1 rfl ?_
                            refine V_iadd (pc := 568) dL_law_568 rfl ?_
                            obtain ⟨hc75, hf⟩ := pif hf
                            refine V_sld (pc := 569) dL_law_569 hs hc75 rfl ?_
                            refine V_aload_nX (pc := 570) dL_law_570 rfl rfl rfl ?_
                            refine V_iload_n (pc := 571) dL_law_571 rfl rfl rfl ?_
                            refine V_iconst (pc := 572) dL_law_572 ic_2 rfl ?_
                            refine V_iadd (pc := 573) dL_law_573 rfl ?_
                            obtain ⟨hc76, hf⟩ := pif hf
                            refine V_sld (pc := 574) dL_law_574 hs hc76 rfl ?_
                            obtain ⟨q77, hq77, hf⟩ := bnd hf
                            refine V_cVl (md' := mX12_moves) (pc := 575) dL_law_575 mlL_62 mVX12_moves (tX12_moves ⟨hG.1, hG.2.1, hG.2.2.1, hG.2.2.2⟩ hn hq77) rfl (by omega) (congrArg Prod.fst sh_73) rfl (Nat.le_of_ble_eq_true rfl) rfl ?_
                            refine V_lc_eq (pc := 578) (tgt := 1514) dL_law_578 rfl dL_law_579 (by decide) rfl (fun hc => ?_) (fun hc => ?_)
                            · replace hf := (if_pos hc).symm.trans hf
                              refine V_iinc (ls' := [some _, some _, some _, some _]) (pc := 1514) dL_law_1514 rfl (Nat.le_of_ble_eq_true rfl) (congrArg _ ic_6) rfl rfl ?_
                              refine V_goto (pc := 1517) (tgt := 18) dL_law_1517 (by decide) ?_
                              exact V_wk (ih _ _ _ _ _ _ _ _ _ ⟨hG.1, hG.2.1, hG.2.2.1, hG.2.2.2⟩ hf K) ⟨rfl, ⟨rfl, ⟨rfl, ⟨rfl, trivial⟩⟩⟩⟩
                            · replace hf := (if_neg hc).symm.trans hf
                              refine V_iconst (pc := 582) dL_law_582 ic_0 rfl ?_
                              cases hf
                              exact V_zretE (pc := 583) dL_law_583 rfl (show (0 : Int32) = b2i false from rfl) (K _ _ _ _ _ _ _)
                          · replace hf := (if_neg hc71).symm.trans hf
                            by_cases hc78 : ((sS y3.toNatClampNeg) &&& (63 : Int32)) = (11 : Int32)
                            · replace hf := (if_pos hc78).symm.trans hf
                              refine V_tsIn (pc := 33) (tgt := 584) dL_law_33 (by rw [hc78]; decide) (by rw [hc78]; decide) (by rw [hc78]; first | done | rfl) (by decide) ?_
                              refine V_aload_n (pc := 584) dL_law_584 rfl rfl rfl ?_
                              refine V_aload_nX (pc := 585) dL_law_585 rfl rfl rfl ?_
                              refine V_iload_n (pc := 586) dL_law_586 rfl rfl rfl ?_
                              refine V_iconst (pc := 587) dL_law_587 ic_1 rfl ?_
                              refine V_iadd (pc := 588) dL_law_588 rfl ?_
                              obtain ⟨hc79, hf⟩ := pif hf
                              refine V_sld (pc := 589) dL_law_589 hs hc79 rfl ?_
                              refine V_aload_nX (pc := 590) dL_law_590 rfl rfl rfl ?_
                              refine V_iload_n (pc := 591) dL_law_591 rfl rfl rfl ?_
                              refine V_iconst (pc := 592) dL_law_592 ic_2 rfl ?_
                              refine V_iadd (pc := 593) dL_law_593 rfl ?_
                              obtain ⟨hc80, hf⟩ := pif hf
                              refine V_sld (pc := 594) dL_law_594 hs hc80 rfl ?_
                              obtain ⟨q81, hq81, hf⟩ := bnd hf
                              refine V_cVi (md' := mX11_go) (pc := 595) dL_law_595 mlL_63 mVX11_go (tX11_go ⟨hG.1, hG.2.1, hG.2.2.1, hG.2.2.2⟩ hn hq81) rfl (by omega) (congrArg Prod.fst sh_0) rfl (Nat.le_of_ble_eq_true rfl) rfl ?_
                              refine V_aload_n (pc := 598) dL_law_598 rfl rfl rfl ?_
                              refine V_aload_nX (pc := 599) dL_law_599 rfl rfl rfl ?_
                              refine V_iload_n (pc := 600) dL_law_600 rfl rfl rfl ?_
                              refine V_iconst (pc := 601) dL_law_601 ic_1 rfl ?_
                              refine V_iadd (pc := 602) dL_law_602 rfl ?_
                              obtain ⟨hc82, hf⟩ := pif hf
                              refine V_sld (pc := 603) dL_law_603 hs hc82 rfl ?_
                              refine V_aload_nX (pc := 604) dL_law_604 rfl rfl rfl ?_
                              refine V_iload_n (pc := 605) dL_law_605 rfl rfl rfl ?_
                              refine V_iconst (pc := 606) dL_law_606 ic_2 rfl ?_
                              refine V_iadd (pc := 607) dL_law_607 rfl ?_
                              obtain ⟨hc83, hf⟩ := pif hf
                              refine V_sld (pc := 608) dL_law_608 hs hc83 rfl ?_
                              obtain ⟨q84, hq84, hf⟩ := bnd hf
                              refine V_cVi (md' := mX12_go) (pc := 609) dL_law_609 mlL_66 mVX12_go (tX12_go ⟨hG.1, hG.2.1, hG.2.2.1, hG.2.2.2⟩ hn hq84) rfl (by omega) (congrArg Prod.fst sh_73) rfl (Nat.le_of_ble_eq_true rfl) rfl ?_
                              refine V_icmp_eq (pc := 612) (tgt := 1514) dL_law_612 (by decide) rfl (fun hc => ?_) (fun hc => ?_)
                              · replace hf := (if_pos hc).symm.trans hf
                                refine V_iinc (ls' := [some _, some _, some _, some _]) (pc := 1514) dL_law_1514 rfl (Nat.le_of_ble_eq_true rfl) (congrArg _ ic_6) rfl rfl ?_
                                refine V_goto (pc := 1517) (tgt := 18) dL_law_1517 (by decide) ?_
                                exact V_wk (ih _ _ _ _ _ _ _ _ _ ⟨hG.1, hG.2.1, hG.2.2.1, hG.2.2.2⟩ hf K) ⟨rfl, ⟨rfl, ⟨rfl, ⟨rfl, trivial⟩⟩⟩⟩
                              · replace hf := (if_neg hc).symm.trans hf
                                refine V_iconst (pc := 615) dL_law_615 ic_0 rfl ?_
                                cases hf
                                exact V_zretE (pc := 616) dL_law_616 rfl (show (0 : Int32) = b2i false from rfl) (K _ _ _ _ _ _ _)
                            · replace hf := (if_neg hc78).symm.trans hf
                              by_cases hc85 : ((sS y3.toNatClampNeg) &&& (63 : Int32)) = (12 : Int32)
                              · replace hf := (if_pos hc85).symm.trans hf
                                refine V_tsIn (pc := 33) (tgt := 617) dL_law_33 (by rw [hc85]; decide) (by rw [hc85]; decide) (by rw [hc85]; first | done | rfl) (by decide) ?_
                                refine V_aload_n (pc := 617) dL_law_617 rfl rfl rfl ?_
                                obtain ⟨q86, hq86, hf⟩ := bnd hf
                                refine V_cVi (md' := mX11_hour) (pc := 618) dL_law_618 mlL_67 mVX11_hour (tX11_hour ⟨hG.1, hG.2.1, hG.2.2.1, hG.2.2.2⟩ hn hq86) rfl (by omega) (congrArg Prod.fst sh_0) rfl (Nat.le_of_ble_eq_true rfl) rfl ?_
                                refine V_aload_n (pc := 621) dL_law_621 rfl rfl rfl ?_
                                obtain ⟨q87, hq87, hf⟩ := bnd hf
                                refine V_cVi (md' := mX12_hour) (pc := 622) dL_law_622 mlL_70 mVX12_hour (tX12_hour ⟨hG.1, hG.2.1, hG.2.2.1, hG.2.2.2⟩ hn hq87) rfl (by omega) (congrArg Prod.fst sh_73) rfl (Nat.le_of_ble_eq_true rfl) rfl ?_
                                refine V_icmp_eq (pc := 625) (tgt := 1514) dL_law_625 (by decide) rfl (fun hc => ?_) (fun hc => ?_)
                                · replace hf := (if_pos hc).symm.trans hf
                                  refine V_iinc (ls' := [some _, some _, some _, some _]) (pc := 1514) dL_law_1514 rfl (Nat.le_of_ble_eq_true rfl) (congrArg _ ic_6) rfl rfl ?_
                                  refine V_goto (pc := 1517) (tgt := 18) dL_law_1517 (by decide) ?_
                                  exact V_wk (ih _ _ _ _ _ _ _ _ _ ⟨hG.1, hG.2.1, hG.2.2.1, hG.2.2.2⟩ hf K) ⟨rfl, ⟨rfl, ⟨rfl, ⟨rfl, trivial⟩⟩⟩⟩
                                · replace hf := (if_neg hc).symm.trans hf
                                  refine V_iconst (pc := 628) dL_law_628 ic_0 rfl ?_
                                  cases hf
                                  exact V_zretE (pc := 629) dL_law_629 rfl (show (0 : Int32) = b2i false from rfl) (K _ _ _ _ _ _ _)
                              · replace hf := (if_neg hc85).symm.trans hf
                                by_cases hc88 : ((sS y3.toNatClampNeg) &&& (63 : Int32)) = (13 : Int32)
                                · replace hf := (if_pos hc88).symm.trans hf
                                  refine V_tsIn (pc := 33) (tgt := 630) dL_law_33 (by rw [hc88]; decide) (by rw [hc88]; decide) (by rw [hc88]; first | done | rfl) (by decide) ?_
                                  refine V_aload_n (pc := 630) dL_law_630 rfl rfl rfl ?_
                                  refine V_aload_nX (pc := 631) dL_law_631 rfl rfl rfl ?_
                                  refine V_iload_n (pc := 632) dL_law_632 rfl rfl rfl ?_
                                  refine V_iconst (pc := 633) dL_law_633 ic_1 rfl ?_
                                  refine V_iadd (pc := 634) dL_law_634 rfl ?_
                                  obtain ⟨hc89, hf⟩ := pif hf
                                  refine V_sld (pc := 635) dL_law_635 hs hc89 rfl ?_
                                  obtain ⟨q90, hq90, hf⟩ := bnd hf
                                  refine V_cVi (md' := mX11_shut) (pc := 636) dL_law_636 mlL_71 mVX11_shut (tX11_shut ⟨hG.1, hG.2.1, hG.2.2.1, hG.2.2.2⟩ hn hq90) rfl (by omega) (congrArg Prod.fst sh_0) rfl (Nat.le_of_ble_eq_true rfl) rfl ?_
                                  refine V_aload_n (pc := 639) dL_law_639 rfl rfl rfl ?_
                                  refine V_aload_nX (pc := 640) dL_law_640 rfl rfl rfl ?_
                                  refine V_iload_n (pc := 641) dL_law_641 rfl rfl rfl ?_
                                  refine V_iconst (pc := 642) dL_law_642 ic_1 rfl ?_
                                  refine V_iadd (pc := 643) dL_law_643 rfl ?_
                                  obtain ⟨hc91, hf⟩ := pif hf
                                  refine V_sld (pc := 644) dL_law_644 hs hc91 rfl ?_
                                  obtain ⟨q92, hq92, hf⟩ := bnd hf
                                  refine V_cVi (md' := mX12_shut) (pc := 645) dL_law_645 mlL_74 mVX12_shut (tX12_shut ⟨hG.1, hG.2.1, hG.2.2.1, hG.2.2.2⟩ hn hq92) rfl (by omega) (congrArg Prod.fst sh_73) rfl (Nat.le_of_ble_eq_true rfl) rfl ?_
                                  refine V_icmp_eq (pc := 648) (tgt := 1514) dL_law_648 (by decide) rfl (fun hc => ?_) (fun hc => ?_)
                                  · replace hf := (if_pos hc).symm.trans hf
                                    refine V_iinc (ls' := [some _, some _, some _, some _]) (pc := 1514) dL_law_1514 rfl (Nat.le_of_ble_eq_true rfl) (congrArg _ ic_6) rfl rfl ?_
                                    refine V_goto (pc := 1517) (tgt := 18) dL_law_1517 (by decide) ?_
                                    exact V_wk (ih _ _ _ _ _ _ _ _ _ ⟨hG.1, hG.2.1, hG.2.2.1, hG.2.2.2⟩ hf K) ⟨rfl, ⟨rfl, ⟨rfl, ⟨rfl, trivial⟩⟩⟩⟩
                                  · replace hf := (if_neg hc).symm.trans hf
                                    refine V_iconst (pc := 651) dL_law_651 ic_0 rfl ?_
                                    cases hf
                                    exact V_zretE (pc := 652) dL_law_652 rfl (show (0 : Int32) = b2i false from rfl) (K _ _ _ _ _ _ _)
                                · replace hf := (if_neg hc88).symm.trans hf
                                  by_cases hc93 : ((sS y3.toNatClampNeg) &&& (63 : Int32)) = (14 : Int32)
                                  · replace hf := (if_pos hc93).symm.trans hf
                                    refine V_tsIn (pc := 33) (tgt := 653) dL_law_33 (by rw [hc93]; decide) (by rw [hc93]; decide) (by rw [hc93]; first | done | rfl) (by decide) ?_
                                    refine V_aload_n (pc := 653) dL_law_653 rfl rfl rfl ?_
                                    refine V_aload_nX (pc := 654) dL_law_654 rfl rfl rfl ?_
                                    refine V_iload_n (pc := 655) dL_law_655 rfl rfl rfl ?_
                                    refine V_iconst (pc := 656) dL_law_656 ic_1 rfl ?_
                                    refine V_iadd (pc := 657) dL_law_657 rfl ?_
                                    obtain ⟨hc94, hf⟩ := pif hf
                                    refine V_sld (pc := 658) dL_law_658 hs hc94 rfl ?_
                                    obtain ⟨q95, hq95, hf⟩ := bnd hf
                                    refine V_cVi (md' := mX11_out) (pc := 659) dL_law_659 mlL_75 mVX11_out (tX11_out ⟨hG.1, hG.2.1, hG.2.2.1, hG.2.2.2⟩ hn hq95) rfl (by omega) (congrArg Prod.fst sh_0) rfl (Nat.le_of_ble_eq_true rfl) rfl ?_
                                    refine V_aload_n (pc := 662) dL_law_662 rfl rfl rfl ?_
                                    refine V_aload_nX (pc := 663) dL_law_663 rfl rfl rfl ?_
                                    refine V_iload_n (pc := 664) dL_law_664 rfl rfl rfl ?_
                                    refine V_iconst (pc := 665) dL_law_665 ic_1 rfl ?_
                                    refine V_iadd (pc := 666) dL_law_666 rfl ?_
                                    obtain ⟨hc96, hf⟩ := pif hf
                                    refine V_sld (pc := 667) dL_law_667 hs hc96 rfl ?_
                                    obtain ⟨q97, hq97, hf⟩ := bnd hf
                                    refine V_cVi (md' := mX12_out) (pc := 668) dL_law_668 mlL_78 mVX12_out (tX12_out ⟨hG.1, hG.2.1, hG.2.2.1, hG.2.2.2⟩ hn hq97) rfl (by omega) (congrArg Prod.fst sh_73) rfl (Nat.le_of_ble_eq_true rfl) rfl ?_
                                    refine V_icmp_eq (pc := 671) (tgt := 1514) dL_law_671 (by decide) rfl (fun hc => ?_) (fun hc => ?_)
                                    · replace hf := (if_pos hc).symm.trans hf
                                      refine V_iinc (ls' := [some _, some _, some _, some _]) (pc := 1514) dL_law_1514 rfl (Nat.le_of_ble_eq_true rfl) (congrArg _ ic_6) rfl rfl ?_
                                      refine V_goto (pc := 1517) (tgt := 18) dL_law_1517 (by decide) ?_
                                      exact V_wk (ih _ _ _ _ _ _ _ _ _ ⟨hG.1, hG.2.1, hG.2.2.1, hG.2.2.2⟩ hf K) ⟨rfl, ⟨rfl, ⟨rfl, ⟨rfl, trivial⟩⟩⟩⟩
                                    · replace hf := (if_neg hc).symm.trans hf
                                      refine V_iconst (pc := 674) dL_law_674 ic_0 rfl ?_
                                      cases hf
                                      exact V_zretE (pc := 675) dL_law_675 rfl (show (0 : Int32) = b2i false from rfl) (K _ _ _ _ _ _ _)
                                  · replace hf := (if_neg hc93).symm.trans hf
                                    by_cases hc98 : ((sS y3.toNatClampNeg) &&& (63 : Int32)) = (15 : Int32)
                                    · replace hf := (if_pos hc98).symm.trans hf
                                      refine V_tsIn (pc := 33) (tgt := 676) dL_law_33 (by rw [hc98]; decide) (by rw [hc98]; decide) (by rw [hc98]; first | done | rfl) (by decide) ?_
                                      refine V_aload_n (pc := 676) dL_law_676 rfl rfl rfl ?_
                                      obtain ⟨q99, hq99, hf⟩ := bnd hf
                                      refine V_cVz (md' := mX11_eclipse) (pc := 677) dL_law_677 mlL_79 mVX11_eclipse (tX11_eclipse ⟨hG.1, hG.2.1, hG.2.2.1, hG.2.2.2⟩ hn hq99) rfl (by omega) (congrArg Prod.fst sh_0) rfl (Nat.le_of_ble_eq_true rfl) rfl ?_
                                      refine V_aload_n (pc := 680) dL_law_680 rfl rfl rfl ?_
                                      obtain ⟨q100, hq100, hf⟩ := bnd hf
                                      refine V_cVz (md' := mX12_eclipse) (pc := 681) dL_law_681 mlL_83 mVX12_eclipse (tX12_eclipse ⟨hG.1, hG.2.1, hG.2.2.1, hG.2.2.2⟩ hn hq100) rfl (by omega) (congrArg Prod.fst sh_73) rfl (Nat.le_of_ble_eq_true rfl) rfl ?_
                                      refine V_icmp_eq (pc := 684) (tgt := 1514) dL_law_684 (by decide) rfl (fun hc => ?_) (fun hc => ?_)
                                      · replace hf := (if_pos hc).symm.trans hf
                                        refine V_iinc (ls' := [some _, some _, some _, some _]) (pc := 1514) dL_law_1514 rfl (Nat.le_of_ble_eq_true rfl) (congrArg _ ic_6) rfl rfl ?_
                                        refine V_goto (pc := 1517) (tgt := 18) dL_law_1517 (by decide) ?_
                                        exact V_wk (ih _ _ _ _ _ _ _ _ _ ⟨hG.1, hG.2.1, hG.2.2.1, hG.2.2.2⟩ hf K) ⟨rfl, ⟨rfl, ⟨rfl, ⟨rfl, trivial⟩⟩⟩⟩
                                      · replace hf := (if_neg hc).symm.trans hf
                                        refine V_iconst (pc := 687) dL_law_687 ic_0 rfl ?_
                                        cases hf
                                        exact V_zretE (pc := 688) dL_law_688 rfl (show (0 : Int32) = b2i false from rfl) (K _ _ _ _ _ _ _)
                                    · replace hf := (if_neg hc98).symm.trans hf
                                      by_cases hc101 : ((sS y3.toNatClampNeg) &&& (63 : Int32)) = (16 : Int32)
                                      · replace hf := (if_pos hc101).symm.trans hf
                                        refine V_tsIn (pc := 33) (tgt := 689) dL_law_33 (by rw [hc101]; decide) (by rw [hc101]; decide) (by rw [hc101]; first | done | rfl) (by decide) ?_
                                        refine V_aload_n (pc := 689) dL_law_689 rfl rfl rfl ?_
                                        obtain ⟨q102, hq102, hf⟩ := bnd hf
                                        refine V_cVz (md' := mX11_undo) (pc := 690) dL_law_690 mlL_84 mVX11_undo (tX11_undo ⟨hG.1, hG.2.1, hG.2.2.1, hG.2.2.2⟩ hn hq102) rfl (by omega) (congrArg Prod.fst sh_0) rfl (Nat.le_of_ble_eq_true rfl) rfl ?_
                                        refine V_aload_n (pc := 693) dL_law_693 rfl rfl rfl ?_
                                        obtain ⟨q103, hq103, hf⟩ := bnd hf
                                        refine V_cVz (md' := mX12_undo) (pc := 694) dL_law_694 mlL_87 mVX12_undo (tX12_undo ⟨hG.1, hG.2.1, hG.2.2.1, hG.2.2.2⟩ hn hq103) rfl (by omega) (congrArg Prod.fst sh_73) rfl (Nat.le_of_ble_eq_true rfl) rfl ?_
                                        refine V_icmp_eq (pc := 697) (tgt := 1514) dL_law_697 (by decide) rfl (fun hc => ?_) (fun hc => ?_)
                                        · replace hf := (if_pos hc).symm.trans hf
                                          refine V_iinc (ls' := [some _, some _, some _, some _]) (pc := 1514) dL_law_1514 rfl (Nat.le_of_ble_eq_true rfl) (congrArg _ ic_6) rfl rfl ?_
                                          refine V_goto (pc := 1517) (tgt := 18) dL_law_1517 (by decide) ?_
                                          exact V_wk (ih _ _ _ _ _ _ _ _ _ ⟨hG.1, hG.2.1, hG.2.2.1, hG.2.2.2⟩ hf K) ⟨rfl, ⟨rfl, ⟨rfl, ⟨rfl, trivial⟩⟩⟩⟩
                                        · replace hf := (if_neg hc).symm.trans hf
                                          refine V_iconst (pc := 700) dL_law_700 ic_0 rfl ?_
                                          cases hf
                                          exact V_zretE (pc := 701) dL_law_701 rfl (show (0 : Int32) = b2i false from rfl) (K _ _ _ _ _ _ _)
                                      · replace hf := (if_neg hc101).symm.trans hf
                                        by_cases hc104 : ((sS y3.toNatClampNeg) &&& (63 : Int32)) = (17 : Int32)
                                        · replace hf := (if_pos hc104).symm.trans hf
                                          refine V_tsIn (pc := 33) (tgt := 702) dL_law_33 (by rw [hc104]; decide) (by rw [hc104]; decide) (by rw [hc104]; first | done | rfl) (by decide) ?_
                                          refine V_aload_n (pc := 702) dL_law_702 rfl rfl rfl ?_
                                          obtain ⟨q105, hq105, hf⟩ := bnd hf
                                          refine V_cVz (md' := mX11_redo) (pc := 703) dL_law_703 mlL_88 mVX11_redo (tX11_redo ⟨hG.1, hG.2.1, hG.2.2.1, hG.2.2.2⟩ hn hq105) rfl (by omega) (congrArg Prod.fst sh_0) rfl (Nat.le_of_ble_eq_true rfl) rfl ?_
                                          refine V_aload_n (pc := 706) dL_law_706 rfl rfl rfl ?_
                                          obtain ⟨q106, hq106, hf⟩ := bnd hf
                                          refine V_cVz (md' := mX12_redo) (pc := 707) dL_law_707 mlL_91 mVX12_redo (tX12_redo ⟨hG.1, hG.2.1, hG.2.2.1, hG.2.2.2⟩ hn hq106) rfl (by omega) (congrArg Prod.fst sh_73) rfl (Nat.le_of_ble_eq_true rfl) rfl ?_
                                          refine V_icmp_eq (pc := 710) (tgt := 1514) dL_law_710 (by decide) rfl (fun hc => ?_) (fun hc => ?_)
                                          · replace hf := (if_pos hc).symm.trans hf
                                            refine V_iinc (ls' := [some _, some _, some _, some _]) (pc := 1514) dL_law_1514 rfl (Nat.le_of_ble_eq_true rfl) (congrArg _ ic_6) rfl rfl ?_
                                            refine V_goto (pc := 1517) (tgt := 18) dL_law_1517 (by decide) ?_
                                            exact V_wk (ih _ _ _ _ _ _ _ _ _ ⟨hG.1, hG.2.1, hG.2.2.1, hG.2.2.2⟩ hf K) ⟨rfl, ⟨rfl, ⟨rfl, ⟨rfl, trivial⟩⟩⟩⟩
                                          · replace hf := (if_neg hc).symm.trans hf
                                            refine V_iconst (pc := 713) dL_law_713 ic_0 rfl ?_
                                            cases hf
                                            exact V_zretE (pc := 714) dL_law_714 rfl (show (0 : Int32) = b2i false from rfl) (K _ _ _ _ _ _ _)
                                        · replace hf := (if_neg hc104).symm.trans hf
                                          by_cases hc107 : ((sS y3.toNatClampNeg) &&& (63 : Int32)) = (18 : Int32)
                                          · replace hf := (if_pos hc107).symm.trans hf
                                            refine V_tsIn (pc := 33) (tgt := 715) dL_law_33 (by rw [hc107]; decide) (by rw [hc107]; decide) (by rw [hc107]; first | done | rfl) (by decide) ?_
                                            refine V_aload_n (pc := 715) dL_law_715 rfl rfl rfl ?_
                                            refine V_aload_nX (pc := 716) dL_law_716 rfl rfl rfl ?_
                                            refine V_iload_n (pc := 717) dL_law_717 rfl rfl rfl ?_
                                            refine V_iconst (pc := 718) dL_law_718 ic_1 rfl ?_
                                            refine V_iadd (pc := 719) dL_law_719 rfl ?_
                                            obtain ⟨hc108, hf⟩ := pif hf
                                            refine V_sld (pc := 720) dL_law_720 hs hc108 rfl ?_
                                            refine V_aload_nX (pc := 721) dL_law_721 rfl rfl rfl ?_
                                            refine V_iload_n (pc := 722) dL_law_722 rfl rfl rfl ?_
                                            refine V_iconst (pc := 723) dL_law_723 ic_2 rfl ?_
                                            refine V_iadd (pc := 724) dL_law_724 rfl ?_
                                            obtain ⟨hc109, hf⟩ := pif hf
                                            refine V_sld (pc := 725) dL_law_725 hs hc109 rfl ?_
                                            obtain ⟨q110, hq110, hf⟩ := bnd hf
                                            refine V_cVi (md' := mX11_soonest) (pc := 726) dL_law_726 mlL_92 mVX11_soonest (tX11_soonest ⟨hG.1, hG.2.1, hG.2.2.1, hG.2.2.2⟩ hn hq110) rfl (by omega) (congrArg Prod.fst sh_0) rfl (Nat.le_of_ble_eq_true rfl) rfl ?_
                                            refine V_aload_n (pc := 729) dL_law_729 rfl rfl rfl ?_
                                            refine V_aload_nX (pc := 730) dL_law_730 rfl rfl rfl ?_
                                            refine V_iload_n (pc := 731) dL_law_731 rfl rfl rfl ?_
                                            refine V_iconst (pc := 732) dL_law_732 ic_1 rfl ?_
                                            refine V_iadd (pc := 733) dL_law_733 rfl ?_
                                            obtain ⟨hc111, hf⟩ := pif hf
                                            refine V_sld (pc := 734) dL_law_734 hs hc111 rfl ?_
                                            refine V_aload_nX (pc := 735) dL_law_735 rfl rfl rfl ?_
                                            refine V_iload_n (pc := 736) dL_law_736 rfl rfl rfl ?_
                                            refine V_iconst (pc := 737) dL_law_737 ic_2 rfl ?_
                                            refine V_iadd (pc := 738) dL_law_738 rfl ?_
                                            obtain ⟨hc112, hf⟩ := pif hf
                                            refine V_sld (pc := 739) dL_law_739 hs hc112 rfl ?_
                                            obtain ⟨q113, hq113, hf⟩ := bnd hf
                                            refine V_cVi (md' := mX12_soonest) (pc := 740) dL_law_740 mlL_95 mVX12_soonest (tX12_soonest ⟨hG.1, hG.2.1, hG.2.2.1, hG.2.2.2⟩ hn hq113) rfl (by omega) (congrArg Prod.fst sh_73) rfl (Nat.le_of_ble_eq_true rfl) rfl ?_
                                            refine V_icmp_eq (pc := 743) (tgt := 1514) dL_law_743 (by decide) rfl (fun hc => ?_) (fun hc => ?_)
                                            · replace hf := (if_pos hc).symm.trans hf
                                              refine V_iinc (ls' := [some _, some _, some _, some _]) (pc := 1514) dL_law_1514 rfl (Nat.le_of_ble_eq_true rfl) (congrArg _ ic_6) rfl rfl ?_
                                              refine V_goto (pc := 1517) (tgt := 18) dL_law_1517 (by decide) ?_
                                              exact V_wk (ih _ _ _ _ _ _ _ _ _ ⟨hG.1, hG.2.1, hG.2.2.1, hG.2.2.2⟩ hf K) ⟨rfl, ⟨rfl, ⟨rfl, ⟨rfl, trivial⟩⟩⟩⟩
                                            · replace hf := (if_neg hc).symm.trans hf
                                              refine V_iconst (pc := 746) dL_law_746 ic_0 rfl ?_
                                              cases hf
                                              exact V_zretE (pc := 747) dL_law_747 rfl (show (0 : Int32) = b2i false from rfl) (K _ _ _ _ _ _ _)
                                          · replace hf := (if_neg hc107).symm.trans hf
                                            by_cases hc114 : ((sS y3.toNatClampNeg) &&& (63 : Int32)) = (19 : Int32)
                                            · replace hf := (if_pos hc114).symm.trans hf
                                              refine V_tsIn (pc := 33) (tgt := 748) dL_law_33 (by rw [hc114]; decide) (by rw [hc114]; decide) (by rw [hc114]; first | done | rfl) (by decide) ?_
                                              refine V_aload_n (pc := 748) dL_law_748 rfl rfl rfl ?_
                                              refine V_aload_nX (pc := 749) dL_law_749 rfl rfl rfl ?_
                                              refine V_iload_n (pc := 750) dL_law_750 rfl rfl rfl ?_
                                              refine V_iconst (pc := 751) dL_law_751 ic_1 rfl ?_
                                              refine V_iadd (pc := 752) dL_law_752 rfl ?_
                                              obtain ⟨hc115, hf⟩ := pif hf
                                              refine V_sld (pc := 753) dL_law_753 hs hc115 rfl ?_
                                              refine V_aload_nX (pc := 754) dL_law_754 rfl rfl rfl ?_
                                              refine V_iload_n (pc := 755) dL_law_755 rfl rfl rfl ?_
                                              refine V_iconst (pc := 756) dL_law_756 ic_2 rfl ?_
                                              refine V_iadd (pc := 757) dL_law_757 rfl ?_
                                              obtain ⟨hc116, hf⟩ := pif hf
                                              refine V_sld (pc := 758) dL_law_758 hs hc116 rfl ?_
                                              obtain ⟨q117, hq117, hf⟩ := bnd hf
                                              refine V_cVl (md' := mX11_reach) (pc := 759) dL_law_759 mlL_96 mVX11_reach (tX11_reach ⟨hG.1, hG.2.1, hG.2.2.1, hG.2.2.2⟩ hn hq117) rfl (by omega) (congrArg Prod.fst sh_0) rfl (Nat.le_of_ble_eq_true rfl) rfl ?_
                                              refine V_aload_n (pc := 762) dL_law_762 rfl rfl rfl ?_
                                              refine V_aload_nX (pc := 763) dL_law_763 rfl rfl rfl ?_
                                              refine V_iload_n (pc := 764) dL_law_764 rfl rfl rfl ?_
                                              refine V_iconst (pc := 765) dL_law_765 ic_1 rfl ?_
                                              refine V_iadd (pc := 766) dL_law_766 rfl ?_
                                              obtain ⟨hc118, hf⟩ := pif hf
                                              refine V_sld (pc := 767) dL_law_767 hs hc118 rfl ?_
                                              refine V_aload_nX (pc := 768) dL_law_768 rfl rfl rfl ?_
                                              refine V_iload_n (pc := 769) dL_law_769 rfl rfl rfl ?_
                                              refine V_iconst (pc := 770) dL_law_770 ic_2 rfl ?_
                                              refine V_iadd (pc := 771) dL_law_771 rfl ?_
                                              obtain ⟨hc119, hf⟩ := pif hf
                                              refine V_sld (pc := 772) dL_law_772 hs hc119 rfl ?_
                                              obtain ⟨q120, hq120, hf⟩ := bnd hf
                                              refine V_cVl (md' := mX12_reach) (pc := 773) dL_law_773 mlL_99 mVX12_reach (tX12_reach ⟨hG.1, hG.2.1, hG.2.2.1, hG.2.2.2⟩ hn hq120) rfl (by omega) (congrArg Prod.fst sh_73) rfl (Nat.le_of_ble_eq_true rfl) rfl ?_
                                              refine V_lc_eq (pc := 776) (tgt := 1514) dL_law_776 rfl dL_law_777 (by decide) rfl (fun hc => ?_) (fun hc => ?_)
                                              · replace hf := (if_pos hc).symm.trans hf
                                                refine V_iinc (ls' := [some _, some _, some _, some _]) (pc := 1514) dL_law_1514 rfl (Nat.le_of_ble_eq_true rfl) (congrArg _ ic_6) rfl rfl ?_
                                                refine V_goto (pc := 1517) (tgt := 18) dL_law_1517 (by decide) ?_
                                                exact V_wk (ih _ _ _ _ _ _ _ _ _ ⟨hG.1, hG.2.1, hG.2.2.1, hG.2.2.2⟩ hf K) ⟨rfl, ⟨rfl, ⟨rfl, ⟨rfl, trivial⟩⟩⟩⟩
                                              · replace hf := (if_neg hc).symm.trans hf
                                                refine V_iconst (pc := 780) dL_law_780 ic_0 rfl ?_
                                                cases hf
                                                exact V_zretE (pc := 781) dL_law_781 rfl (show (0 : Int32) = b2i false from rfl) (K _ _ _ _ _ _ _)
                                            · replace hf := (if_neg hc114).symm.trans hf
                                              by_cases hc121 : ((sS y3.toNatClampNeg) &&& (63 : Int32)) = (20 : Int32)
                                              · replace hf := (if_pos hc121).symm.trans hf
                                                refine V_tsIn (pc := 33) (tgt := 782) dL_law_33 (by rw [hc121]; decide) (by rw [hc121]; decide) (by rw [hc121]; first | done | rfl) (by decide) ?_
                                                refine V_aload_n (pc := 782) dL_law_782 rfl rfl rfl ?_
                                                refine V_aload_nX (pc := 783) dL_law_783 rfl rfl rfl ?_
                                                refine V_iload_n (pc := 784) dL_law_784 rfl rfl rfl ?_
                                                refine V_iconst (pc := 785) dL_law_785 ic_1 rfl ?_
                                                refine V_iadd (pc := 786) dL_law_786 rfl ?_
                                                obtain ⟨hc122, hf⟩ := pif hf
                                                refine V_sld (pc := 787) dL_law_787 hs hc122 rfl ?_
                                                refine V_aload_nX (pc := 788) dL_law_788 rfl rfl rfl ?_
                                                refine V_iload_n (pc := 789) dL_law_789 rfl rfl rfl ?_
                                                refine V_iconst (pc := 790) dL_law_790 ic_2 rfl ?_
                                                refine V_iadd (pc := 791) dL_law_791 rfl ?_
                                                obtain ⟨hc123, hf⟩ := pif hf
                                                refine V_sld (pc := 792) dL_law_792 hs hc123 rfl ?_
                                                refine V_aload_nX (pc := 793) dL_law_793 rfl rfl rfl ?_
                                                refine V_iload_n (pc := 794) dL_law_794 rfl rfl rfl ?_
                                                refine V_iconst (pc := 795) dL_law_795 ic_3 rfl ?_
                                                refine V_iadd (pc := 796) dL_law_796 rfl ?_
                                                obtain ⟨hc124, hf⟩ := pif hf
                                                refine V_sld (pc := 797) dL_law_797 hs hc124 rfl ?_
                                                obtain ⟨q125, hq125, hf⟩ := bnd hf
                                                refine V_cVi (md' := mX11_meet) (pc := 798) dL_law_798 mlL_100 mVX11_meet (tX11_meet ⟨hG.1, hG.2.1, hG.2.2.1, hG.2.2.2⟩ hn hq125) rfl (by omega) (congrArg Prod.fst sh_0) rfl (Nat.le_of_ble_eq_true rfl) rfl ?_
                                                refine V_aload_n (pc := 801) dL_law_801 rfl rfl rfl ?_
                                                refine V_aload_nX (pc := 802) dL_law_802 rfl rfl rfl ?_
                                                refine V_iload_n (pc := 803) dL_law_803 rfl rfl rfl ?_
                                                refine V_iconst (pc := 804) dL_law_804 ic_1 rfl ?_
                                                refine V_iadd (pc := 805) dL_law_805 rfl ?_
                                                obtain ⟨hc126, hf⟩ := pif hf
                                                refine V_sld (pc := 806) dL_law_806 hs hc126 rfl ?_
                                                refine V_aload_nX (pc := 807) dL_law_807 rfl rfl rfl ?_
                                                refine V_iload_n (pc := 808) dL_law_808 rfl rfl rfl ?_
                                                refine V_iconst (pc := 809) dL_law_809 ic_2 rfl ?_
                                                refine V_iadd (pc := 810) dL_law_810 rfl ?_
                                                obtain ⟨hc127, hf⟩ := pif hf
                                                refine V_sld (pc := 811) dL_law_811 hs hc127 rfl ?_
                                                refine V_aload_nX (pc := 812) dL_law_812 rfl rfl rfl ?_
                                                refine V_iload_n (pc := 813) dL_law_813 rfl rfl rfl ?_
                                                refine V_iconst (pc := 814) dL_law_814 ic_3 rfl ?_
                                                refine V_iadd (pc := 815) dL_law_815 rfl ?_
                                                obtain ⟨hc128, hf⟩ := pif hf
                                                refine V_sld (pc := 816) dL_law_816 hs hc128 rfl ?_
                                                obtain ⟨q129, hq129, hf⟩ := bnd hf
                                                refine V_cVi (md' := mX12_meet) (pc := 817) dL_law_817 mlL_104 mVX12_meet (tX12_meet ⟨hG.1, hG.2.1, hG.2.2.1, hG.2.2.2⟩ hn hq129) rfl (by omega) (congrArg Prod.fst sh_73) rfl (Nat.le_of_ble_eq_true rfl) rfl ?_
                                                refine V_icmp_eq (pc := 820) (tgt := 1514) dL_law_820 (by decide) rfl (fun hc => ?_) (fun hc => ?_)
                                                · replace hf := (if_pos hc).symm.trans hf
                                                  refine V_iinc (ls' := [some _, some _, some _, some _]) (pc := 1514) dL_law_1514 rfl (Nat.le_of_ble_eq_true rfl) (congrArg _ ic_6) rfl rfl ?_
                                                  refine V_goto (pc := 1517) (tgt := 18) dL_law_1517 (by decide) ?_
                                                  exact V_wk (ih _ _ _ _ _ _ _ _ _ ⟨hG.1, hG.2.1, hG.2.2.1, hG.2.2.2⟩ hf K) ⟨rfl, ⟨rfl, ⟨rfl, ⟨rfl, trivial⟩⟩⟩⟩
                                                · replace hf := (if_neg hc).symm.trans hf
                                                  refine V_iconst (pc := 823) dL_law_823 ic_0 rfl ?_
                                                  cases hf
                                                  exact V_zretE (pc := 824) dL_law_824 rfl (show (0 : Int32) = b2i false from rfl) (K _ _ _ _ _ _ _)
                                              · replace hf := (if_neg hc121).symm.trans hf
                                                by_cases hc130 : ((sS y3.toNatClampNeg) &&& (63 : Int32)) = (21 : Int32)
                                                · replace hf := (if_pos hc130).symm.trans hf
                                                  refine V_tsIn (pc := 33) (tgt := 825) dL_law_33 (by rw [hc130]; decide) (by rw [hc130]; decide) (by rw [hc130]; first | done | rfl) (by decide) ?_
                                                  refine V_aload_n (pc := 825) dL_law_825 rfl rfl rfl ?_
                                                  refine V_aload_nX (pc := 826) dL_law_826 rfl rfl rfl ?_
                                                  refine V_iload_n (pc := 827) dL_law_827 rfl rfl rfl ?_
                                                  refine V_iconst (pc := 828) dL_law_828 ic_1 rfl ?_
                                                  refine V_iadd (pc := 829) dL_law_829 rfl ?_
                                                  obtain ⟨hc131, hf⟩ := pif hf
                                                  refine V_sld (pc := 830) dL_law_830 hs hc131 rfl ?_
                                                  refine V_aload_nX (pc := 831) dL_law_831 rfl rfl rfl ?_
                                                  refine V_iload_n (pc := 832) dL_law_832 rfl rfl rfl ?_
                                                  refine V_iconst (pc := 833) dL_law_833 ic_2 rfl ?_
                                                  refine V_iadd (pc := 834) dL_law_834 rfl ?_
                                                  obtain ⟨hc132, hf⟩ := pif hf
                                                  refine V_sld (pc := 835) dL_law_835 hs hc132 rfl ?_
                                                  obtain ⟨q133, hq133, hf⟩ := bnd hf
                                                  refine V_cVl (md' := mX11_barred) (pc := 836) dL_law_836 mlL_105 mVX11_barred (tX11_barred ⟨hG.1, hG.2.1, hG.2.2.1, hG.2.2.2⟩ hn hq133) rfl (by omega) (congrArg Prod.fst sh_0) rfl (Nat.le_of_ble_eq_true rfl) rfl ?_
                                                  refine V_aload_n (pc := 839) dL_law_839 rfl rfl rfl ?_
                                                  refine V_aload_nX (pc := 840) dL_law_840 rfl rfl rfl ?_
                                                  refine V_iload_n (pc := 841) dL_law_841 rfl rfl rfl ?_
                                                  refine V_iconst (pc := 842) dL_law_842 ic_1 rfl ?_
                                                  refine V_iadd (pc := 843) dL_law_843 rfl ?_
                                                  obtain ⟨hc134, hf⟩ := pif hf
                                                  refine V_sld (pc := 844) dL_law_844 hs hc134 rfl ?_
                                                  refine V_aload_nX (pc := 845) dL_law_845 rfl rfl rfl ?_
                                                  refine V_iload_n (pc := 846) dL_law_846 rfl rfl rfl ?_
                                                  refine V_iconst (pc := 847) dL_law_847 ic_2 rfl ?_
                                                  refine V_iadd (pc := 848) dL_law_848 rfl ?_
                                                  obtain ⟨hc135, hf⟩ := pif hf
                                                  refine V_sld (pc := 849) dL_law_849 hs hc135 rfl ?_
                                                  obtain ⟨q136, hq136, hf⟩ := bnd hf
                                                  refine V_cVl (md' := mX12_barred) (pc := 850) dL_law_850 mlL_108 mVX12_barred (tX12_barred ⟨hG.1, hG.2.1, hG.2.2.1, hG.2.2.2⟩ hn hq136) rfl (by omega) (congrArg Prod.fst sh_73) rfl (Nat.le_of_ble_eq_true rfl) rfl ?_
                                                  refine V_lc_eq (pc := 853) (tgt := 1514) dL_law_853 rfl dL_law_854 (by decide) rfl (fun hc => ?_) (fun hc => ?_)
                                                  · replace hf := (if_pos hc).symm.trans hf
                                                    refine V_iinc (ls' := [some _, some _, some _, some _]) (pc := 1514) dL_law_1514 rfl (Nat.le_of_ble_eq_true rfl) (congrArg _ ic_6) rfl rfl ?_
                                                    refine V_goto (pc := 1517) (tgt := 18) dL_law_1517 (by decide) ?_
                                                    exact V_wk (ih _ _ _ _ _ _ _ _ _ ⟨hG.1, hG.2.1, hG.2.2.1, hG.2.2.2⟩ hf K) ⟨rfl, ⟨rfl, ⟨rfl, ⟨rfl, trivial⟩⟩⟩⟩
                                                  · replace hf := (if_neg hc).symm.trans hf
                                                    refine V_iconst (pc := 857) dL_law_857 ic_0 rfl ?_
                                                    cases hf
                                                    exact V_zretE (pc := 858) dL_law_858 rfl (show (0 : Int32) = b2i false from rfl) (K _ _ _ _ _ _ _)
                                                · replace hf := (if_neg hc130).symm.trans hf
                                                  by_cases hc137 : ((sS y3.toNatClampNeg) &&& (63 : Int32)) = (22 : Int32)
                                                  · replace hf := (if_pos hc137).symm.trans hf
                                                    refine V_tsIn (pc := 33) (tgt := 859) dL_law_33 (by rw [hc137]; decide) (by rw [hc137]; decide) (by rw [hc137]; first | done | rfl) (by decide) ?_
                                                    refine V_aload_n (pc := 859) dL_law_859 rfl rfl rfl ?_
                                                    refine V_aload_nX (pc := 860) dL_law_860 rfl rfl rfl ?_
                                                    refine V_iload_n (pc := 861) dL_law_861 rfl rfl rfl ?_
                                                    refine V_iconst (pc := 862) dL_law_862 ic_1 rfl ?_
                                                    refine V_iadd (pc := 863) dL_law_863 rfl ?_
                                                    obtain ⟨hc138, hf⟩ := pif hf
                                                    refine V_sld (pc := 864) dL_law_864 hs hc138 rfl ?_
                                                    refine V_aload_nX (pc := 865) dL_law_865 rfl rfl rfl ?_
                                                    refine V_iload_n (pc := 866) dL_law_866 rfl rfl rfl ?_
                                                    refine V_iconst (pc := 867) dL_law_867 ic_2 rfl ?_
                                                    refine V_iadd (pc := 868) dL_law_868 rfl ?_
                                                    obtain ⟨hc139, hf⟩ := pif hf
                                                    refine V_sld (pc := 869) dL_law_869 hs hc139 rfl ?_
                                                    obtain ⟨q140, hq140, hf⟩ := bnd hf
                                                    refine V_cVi (md' := mX11_longest) (pc := 870) dL_law_870 mlL_109 mVX11_longest (tX11_longest ⟨hG.1, hG.2.1, hG.2.2.1, hG.2.2.2⟩ hn hq140) rfl (by omega) (congrArg Prod.fst sh_0) rfl (Nat.le_of_ble_eq_true rfl) rfl ?_
                                                    refine V_aload_n (pc := 873) dL_law_873 rfl rfl rfl ?_
                                                    refine V_aload_nX (pc := 874) dL_law_874 rfl rfl rfl ?_
                                                    refine V_iload_n (pc := 875) dL_law_875 rfl rfl rfl ?_
                                                    refine V_iconst (pc := 876) dL_law_876 ic_1 rfl ?_
                                                    refine V_iadd (pc := 877) dL_law_877 rfl ?_
                                                    obtain ⟨hc141, hf⟩ := pif hf
                                                    refine V_sld (pc := 878) dL_law_878 hs hc141 rfl ?_
                                                    refine V_aload_nX (pc := 879) dL_law_879 rfl rfl rfl ?_
                                                    refine V_iload_n (pc := 880) dL_law_880 rfl rfl rfl ?_
                                                    refine V_iconst (pc := 881) dL_law_881 ic_2 rfl ?_
                                                    refine V_iadd (pc := 882) dL_law_882 rfl ?_
                                                    obtain ⟨hc142, hf⟩ := pif hf
                                                    refine V_sld (pc := 883) dL_law_883 hs hc142 rfl ?_
                                                    obtain ⟨q143, hq143, hf⟩ := bnd hf
                                                    refine V_cVi (md' := mX12_longest) (pc := 884) dL_law_884 mlL_112 mVX12_longest (tX12_longest ⟨hG.1, hG.2.1, hG.2.2.1, hG.2.2.2⟩ hn hq143) rfl (by omega) (congrArg Prod.fst sh_73) rfl (Nat.le_of_ble_eq_true rfl) rfl ?_
                                                    refine V_icmp_eq (pc := 887) (tgt := 1514) dL_law_887 (by decide) rfl (fun hc => ?_) (fun hc => ?_)
                                                    · replace hf := (if_pos hc).symm.trans hf
                                                      refine V_iinc (ls' := [some _, some _, some _, some _]) (pc := 1514) dL_law_1514 rfl (Nat.le_of_ble_eq_true rfl) (congrArg _ ic_6) rfl rfl ?_
                                                      refine V_goto (pc := 1517) (tgt := 18) dL_law_1517 (by decide) ?_
                                                      exact V_wk (ih _ _ _ _ _ _ _ _ _ ⟨hG.1, hG.2.1, hG.2.2.1, hG.2.2.2⟩ hf K) ⟨rfl, ⟨rfl, ⟨rfl, ⟨rfl, trivial⟩⟩⟩⟩
                                                    · replace hf := (if_neg hc).symm.trans hf
                                                      refine V_iconst (pc := 890) dL_law_890 ic_0 rfl ?_
                                                      cases hf
                                                      exact V_zretE (pc := 891) dL_law_891 rfl (show (0 : Int32) = b2i false from rfl) (K _ _ _ _ _ _ _)
                                                  · replace hf := (if_neg hc137).symm.trans hf
                                                    by_cases hc144 : ((sS y3.toNatClampNeg) &&& (63 : Int32)) = (23 : Int32)
                                                    · replace hf := (if_pos hc144).symm.trans hf
                                                      refine V_tsIn (pc := 33) (tgt := 892) dL_law_33 (by rw [hc144]; decide) (by rw [hc144]; decide) (by rw [hc144]; first | done | rfl) (by decide) ?_
                                                      refine V_aload_n (pc := 892) dL_law_892 rfl rfl rfl ?_
                                                      refine V_aload_nX (pc := 893) dL_law_893 rfl rfl rfl ?_
                                                      refine V_iload_n (pc := 894) dL_law_894 rfl rfl rfl ?_
                                                      refine V_iconst (pc := 895) dL_law_895 ic_1 rfl ?_
                                                      refine V_iadd (pc := 896) dL_law_896 rfl ?_
                                                      obtain ⟨hc145, hf⟩ := pif hf
                                                      refine V_sld (pc := 897) dL_law_897 hs hc145 rfl ?_
                                                      refine V_aload_nX (pc := 898) dL_law_898 rfl rfl rfl ?_
                                                      refine V_iload_n (pc := 899) dL_law_899 rfl rfl rfl ?_
                                                      refine V_iconst (pc := 900) dL_law_900 ic_2 rfl ?_
                                                      refine V_iadd (pc := 901) dL_law_901 rfl ?_
                                                      obtain ⟨hc146, hf⟩ := pif hf
                                                      refine V_sld (pc := 902) dL_law_902 hs hc146 rfl ?_
                                                      refine V_aload_nX (pc := 903) dL_law_903 rfl rfl rfl ?_
                                                      refine V_iload_n (pc := 904) dL_law_904 rfl rfl rfl ?_
                                                      refine V_iconst (pc := 905) dL_law_905 ic_3 rfl ?_
                                                      refine V_iadd (pc := 906) dL_law_906 rfl ?_
                                                      obtain ⟨hc147, hf⟩ := pif hf
                                                      refine V_sld (pc := 907) dL_law_907 hs hc147 rfl ?_
                                                      obtain ⟨q148, hq148, hf⟩ := bnd hf
                                                      refine V_cVi (md' := mX11_cross) (pc := 908) dL_law_908 mlL_113 mVX11_cross (tX11_cross ⟨hG.1, hG.2.1, hG.2.2.1, hG.2.2.2⟩ hn hq148) rfl (by omega) (congrArg Prod.fst sh_0) rfl (Nat.le_of_ble_eq_true rfl) rfl ?_
                                                      refine V_aload_n (pc := 911) dL_law_911 rfl rfl rfl ?_
                                                      refine V_aload_nX (pc := 912) dL_law_912 rfl rfl rfl ?_
                                                      refine V_iload_n (pc := 913) dL_law_913 rfl rfl rfl ?_
                                                      refine V_iconst (pc := 914) dL_law_914 ic_1 rfl ?_
                                                      refine V_iadd (pc := 915) dL_law_915 rfl ?_
                                                      obtain ⟨hc149, hf⟩ := pif hf
                                                      refine V_sld (pc := 916) dL_law_916 hs hc149 rfl ?_
                                                      refine V_aload_nX (pc := 917) dL_law_917 rfl rfl rfl ?_
                                                      refine V_iload_n (pc := 918) dL_law_918 rfl rfl rfl ?_
                                                      refine V_iconst (pc := 919) dL_law_919 ic_2 rfl ?_
                                                      refine V_iadd (pc := 920) dL_law_920 rfl ?_
                                                      obtain ⟨hc150, hf⟩ := pif hf
                                                      refine V_sld (pc := 921) dL_law_921 hs hc150 rfl ?_
                                                      refine V_aload_nX (pc := 922) dL_law_922 rfl rfl rfl ?_
                                                      refine V_iload_n (pc := 923) dL_law_923 rfl rfl rfl ?_
                                                      refine V_iconst (pc := 924) dL_law_924 ic_3 rfl ?_
                                                      refine V_iadd (pc := 925) dL_law_925 rfl ?_
                                                      obtain ⟨hc151, hf⟩ := pif hf
                                                      refine V_sld (pc := 926) dL_law_926 hs hc151 rfl ?_
                                                      obtain ⟨q152, hq152, hf⟩ := bnd hf
                                                      refine V_cVi (md' := mX12_cross) (pc := 927) dL_law_927 mlL_116 mVX12_cross (tX12_cross ⟨hG.1, hG.2.1, hG.2.2.1, hG.2.2.2⟩ hn hq152) rfl (by omega) (congrArg Prod.fst sh_73) rfl (Nat.le_of_ble_eq_true rfl) rfl ?_
                                                      refine V_icmp_eq (pc := 930) (tgt := 1514) dL_law_930 (by decide) rfl (fun hc => ?_) (fun hc => ?_)
                                                      · replace hf := (if_pos hc).symm.trans hf
                                                        refine V_iinc (ls' := [some _, some _, some _, some _]) (pc := 1514) dL_law_1514 rfl (Nat.le_of_ble_eq_true rfl) (congrArg _ ic_6) rfl rfl ?_
                                                        refine V_goto (pc := 1517) (tgt := 18) dL_law_1517 (by decide) ?_
                                                        exact V_wk (ih _ _ _ _ _ _ _ _ _ ⟨hG.1, hG.2.1, hG.2.2.1, hG.2.2.2⟩ hf K) ⟨rfl, ⟨rfl, ⟨rfl, ⟨rfl, trivial⟩⟩⟩⟩
                                                      · replace hf := (if_neg hc).symm.trans hf
                                                        refine V_iconst (pc := 933) dL_law_933 ic_0 rfl ?_
                                                        cases hf
                                                        exact V_zretE (pc := 934) dL_law_934 rfl (show (0 : Int32) = b2i false from rfl) (K _ _ _ _ _ _ _)
                                                    · replace hf := (if_neg hc144).symm.trans hf
                                                      by_cases hc153 : ((sS y3.toNatClampNeg) &&& (63 : Int32)) = (24 : Int32)
                                                      · replace hf := (if_pos hc153).symm.trans hf
                                                        refine V_tsIn (pc := 33) (tgt := 935) dL_law_33 (by rw [hc153]; decide) (by rw [hc153]; decide) (by rw [hc153]; first | done | rfl) (by decide) ?_
                                                        refine V_aload_n (pc := 935) dL_law_935 rfl rfl rfl ?_
                                                        refine V_aload_nX (pc := 936) dL_law_936 rfl rfl rfl ?_
                                                        refine V_iload_n (pc := 937) dL_law_937 rfl rfl rfl ?_
                                                        refine V_iconst (pc := 938) dL_law_938 ic_1 rfl ?_
                                                        refine V_iadd (pc := 939) dL_law_939 rfl ?_
                                                        obtain ⟨hc154, hf⟩ := pif hf
                                                        refine V_sld (pc := 940) dL_law_940 hs hc154 rfl ?_
                                                        obtain ⟨q155, hq155, hf⟩ := bnd hf
                                                        refine V_cVi (md' := mX11_rooms) (pc := 941) dL_law_941 mlL_117 mVX11_rooms (tX11_rooms ⟨hG.1, hG.2.1, hG.2.2.1, hG.2.2.2⟩ hn hq155) rfl (by omega) (congrArg Prod.fst sh_0) rfl (Nat.le_of_ble_eq_true rfl) rfl ?_
                                                        refine V_aload_n (pc := 944) dL_law_944 rfl rfl rfl ?_
                                                        refine V_aload_nX (pc := 945) dL_law_945 rfl rfl rfl ?_
                                                        refine V_iload_n (pc := 946) dL_law_946 rfl rfl rfl ?_
                                                        refine V_iconst (pc := 947) dL_law_947 ic_1 rfl ?_
                                                        refine V_iadd (pc := 948) dL_law_948 rfl ?_
                                                        obtain ⟨hc156, hf⟩ := pif hf
                                                        refine V_sld (pc := 949) dL_law_949 hs hc156 rfl ?_
                                                        obtain ⟨q157, hq157, hf⟩ := bnd hf
                                                        refine V_cVi (md' := mX12_rooms) (pc := 950) dL_law_950 mlL_120 mVX12_rooms (tX12_rooms ⟨hG.1, hG.2.1, hG.2.2.1, hG.2.2.2⟩ hn hq157) rfl (by omega) (congrArg Prod.fst sh_73) rfl (Nat.le_of_ble_eq_true rfl) rfl ?_
                                                        refine V_icmp_eq (pc := 953) (tgt := 1514) dL_law_953 (by decide) rfl (fun hc => ?_) (fun hc => ?_)
                                                        · replace hf := (if_pos hc).symm.trans hf
                                                          refine V_iinc (ls' := [some _, some _, some _, some _]) (pc := 1514) dL_law_1514 rfl (Nat.le_of_ble_eq_true rfl) (congrArg _ ic_6) rfl rfl ?_
                                                          refine V_goto (pc := 1517) (tgt := 18) dL_law_1517 (by decide) ?_
                                                          exact V_wk (ih _ _ _ _ _ _ _ _ _ ⟨hG.1, hG.2.1, hG.2.2.1, hG.2.2.2⟩ hf K) ⟨rfl, ⟨rfl, ⟨rfl, ⟨rfl, trivial⟩⟩⟩⟩
                                                        · replace hf := (if_neg hc).symm.trans hf
                                                          refine V_iconst (pc := 956) dL_law_956 ic_0 rfl ?_
                                                          cases hf
                                                          exact V_zretE (pc := 957) dL_law_957 rfl (show (0 : Int32) = b2i false from rfl) (K _ _ _ _ _ _ _)
                                                      · replace hf := (if_neg hc153).symm.trans hf
                                                        by_cases hc158 : ((sS y3.toNatClampNeg) &&& (63 : Int32)) = (25 : Int32)
                                                        · replace hf := (if_pos hc158).symm.trans hf
                                                          refine V_tsIn (pc := 33) (tgt := 958) dL_law_33 (by rw [hc158]; decide) (by rw [hc158]; decide) (by rw [hc158]; first | done | rfl) (by decide) ?_
                                                          refine V_aload_n (pc := 958) dL_law_958 rfl rfl rfl ?_
                                                          refine V_aload_nX (pc := 959) dL_law_959 rfl rfl rfl ?_
                                                          refine V_iload_n (pc := 960) dL_law_960 rfl rfl rfl ?_
                                                          refine V_iconst (pc := 961) dL_law_961 ic_1 rfl ?_
                                                          refine V_iadd (pc := 962) dL_law_962 rfl ?_
                                                          obtain ⟨hc159, hf⟩ := pif hf
                                                          refine V_sld (pc := 963) dL_law_963 hs hc159 rfl ?_
                                                          refine V_aload_nX (pc := 964) dL_law_964 rfl rfl rfl ?_
                                                          refine V_iload_n (pc := 965) dL_law_965 rfl rfl rfl ?_
                                                          refine V_iconst (pc := 966) dL_law_966 ic_2 rfl ?_
                                                          refine V_iadd (pc := 967) dL_law_967 rfl ?_
                                                          obtain ⟨hc160, hf⟩ := pif hf
                                                          refine V_sld (pc := 968) dL_law_968 hs hc160 rfl ?_
                                                          refine V_aload_nX (pc := 969) dL_law_969 rfl rfl rfl ?_
                                                          refine V_iload_n (pc := 970) dL_law_970 rfl rfl rfl ?_
                                                          refine V_iconst (pc := 971) dL_law_971 ic_3 rfl ?_
                                                          refine V_iadd (pc := 972) dL_law_972 rfl ?_
                                                          obtain ⟨hc161, hf⟩ := pif hf
                                                          refine V_sld (pc := 973) dL_law_973 hs hc161 rfl ?_
                                                          obtain ⟨q162, hq162, hf⟩ := bnd hf
                                                          refine V_cVi (md' := mX11_hears) (pc := 974) dL_law_974 mlL_121 mVX11_hears (tX11_hears ⟨hG.1, hG.2.1, hG.2.2.1, hG.2.2.2⟩ hn hq162) rfl (by omega) (congrArg Prod.fst sh_0) rfl (Nat.le_of_ble_eq_true rfl) rfl ?_
                                                          refine V_aload_n (pc := 977) dL_law_977 rfl rfl rfl ?_
                                                          refine V_aload_nX (pc := 978) dL_law_978 rfl rfl rfl ?_
                                                          refine V_iload_n (pc := 979) dL_law_979 rfl rfl rfl ?_
                                                          refine V_iconst (pc := 980) dL_law_980 ic_1 rfl ?_
                                                          refine V_iadd (pc := 981) dL_law_981 rfl ?_
                                                          obtain ⟨hc163, hf⟩ := pif hf
                                                          refine V_sld (pc := 982) dL_law_982 hs hc163 rfl ?_
                                                          refine V_aload_nX (pc := 983) dL_law_983 rfl rfl rfl ?_
                                                          refine V_iload_n (pc := 984) dL_law_984 rfl rfl rfl ?_
                                                          refine V_iconst (pc := 985) dL_law_985 ic_2 rfl ?_
                                                          refine V_iadd (pc := 986) dL_law_986 rfl ?_
                                                          obtain ⟨hc164, hf⟩ := pif hf
                                                          refine V_sld (pc := 987) dL_law_987 hs hc164 rfl ?_
                                                          refine V_aload_nX (pc := 988) dL_law_988 rfl rfl rfl ?_
                                                          refine V_iload_n (pc := 989) dL_law_989 rfl rfl rfl ?_
                                                          refine V_iconst (pc := 990) dL_law_990 ic_3 rfl ?_
                                                          refine V_iadd (pc := 991) dL_law_991 rfl ?_
                                                          obtain ⟨hc165, hf⟩ := pif hf
                                                          refine V_sld (pc := 992) dL_law_992 hs hc165 rfl ?_
                                                          obtain ⟨q166, hq166, hf⟩ := bnd hf
                                                          refine V_cVi (md' := mX12_hears) (pc := 993) dL_law_993 mlL_124 mVX12_hears (tX12_hears ⟨hG.1, hG.2.1, hG.2.2.1, hG.2.2.2⟩ hn hq166) rfl (by omega) (congrArg Prod.fst sh_73) rfl (Nat.le_of_ble_eq_true rfl) rfl ?_
                                                          refine V_icmp_eq (pc := 996) (tgt := 1514) dL_law_996 (by decide) rfl (fun hc => ?_) (fun hc => ?_)
                                                          · replace hf := (if_pos hc).symm.trans hf
                                                            refine V_iinc (ls' := [some _, some _, some _, some _]) (pc := 1514) dL_law_1514 rfl (Nat.le_of_ble_eq_true rfl) (congrArg _ ic_6) rfl rfl ?_
                                                            refine V_goto (pc := 1517) (tgt := 18) dL_law_1517 (by decide) ?_
                                                            exact V_wk (ih _ _ _ _ _ _ _ _ _ ⟨hG.1, hG.2.1, hG.2.2.1, hG.2.2.2⟩ hf K) ⟨rfl, ⟨rfl, ⟨rfl, ⟨rfl, trivial⟩⟩⟩⟩
                                                          · replace hf := (if_neg hc).symm.trans hf
                                                            refine V_iconst (pc := 999) dL_law_999 ic_0 rfl ?_
                                                            cases hf
                                                            exact V_zretE (pc := 1000) dL_law_1000 rfl (show (0 : Int32) = b2i false from rfl) (K _ _ _ _ _ _ _)
                                                        · replace hf := (if_neg hc158).symm.trans hf
                                                          by_cases hc167 : ((sS y3.toNatClampNeg) &&& (63 : Int32)) = (26 : Int32)
                                                          · replace hf := (if_pos hc167).symm.trans hf
                                                            refine V_tsIn (pc := 33) (tgt := 1001) dL_law_33 (by rw [hc167]; decide) (by rw [hc167]; decide) (by rw [hc167]; first | done | rfl) (by decide) ?_
                                                            refine V_aload_n (pc := 1001) dL_law_1001 rfl rfl rfl ?_
                                                            refine V_aload_nX (pc := 1002) dL_law_1002 rfl rfl rfl ?_
                                                            refine V_iload_n (pc := 1003) dL_law_1003 rfl rfl rfl ?_
                                                            refine V_iconst (pc := 1004) dL_law_1004 ic_1 rfl ?_
                                                            refine V_iadd (pc := 1005) dL_law_1005 rfl ?_
                                                            obtain ⟨hc168, hf⟩ := pif hf
                                                            refine V_sld (pc := 1006) dL_law_1006 hs hc168 rfl ?_
                                                            refine V_aload_nX (pc := 1007) dL_law_1007 rfl rfl rfl ?_
                                                            refine V_iload_n (pc := 1008) dL_law_1008 rfl rfl rfl ?_
                                                            refine V_iconst (pc := 1009) dL_law_1009 ic_2 rfl ?_
                                                            refine V_iadd (pc := 1010) dL_law_1010 rfl ?_
                                                            obtain ⟨hc169, hf⟩ := pif hf
                                                            refine V_sld (pc := 1011) dL_law_1011 hs hc169 rfl ?_
                                                            refine V_aload_nX (pc := 1012) dL_law_1012 rfl rfl rfl ?_
                                                            refine V_iload_n (pc := 1013) dL_law_1013 rfl rfl rfl ?_
                                                            refine V_iconst (pc := 1014) dL_law_1014 ic_3 rfl ?_
                                                            refine V_iadd (pc := 1015) dL_law_1015 rfl ?_
                                                            obtain ⟨hc170, hf⟩ := pif hf
                                                            refine V_sld (pc := 1016) dL_law_1016 hs hc170 rfl ?_
                                                            refine V_aload_nX (pc := 1017) dL_law_1017 rfl rfl rfl ?_
                                                            refine V_iload_n (pc := 1018) dL_law_1018 rfl rfl rfl ?_
                                                            refine V_iconst (pc := 1019) dL_law_1019 ic_4 rfl ?_
                                                            refine V_iadd (pc := 1020) dL_law_1020 rfl ?_
                                                            obtain ⟨hc171, hf⟩ := pif hf
                                                            refine V_sld (pc := 1021) dL_law_1021 hs hc171 rfl ?_
                                                            obtain ⟨q172, hq172, hf⟩ := bnd hf
                                                            refine V_cVi (md' := mX11_keep) (pc := 1022) dL_law_1022 mlL_125 mVX11_keep (tX11_keep ⟨hG.1, hG.2.1, hG.2.2.1, hG.2.2.2⟩ hn hq172) rfl (by omega) (congrArg Prod.fst sh_0) rfl (Nat.le_of_ble_eq_true rfl) rfl ?_
                                                            refine V_aload_n (pc := 1025) dL_law_1025 rfl rfl rfl ?_
                                                            refine V_aload_nX (pc := 1026) dL_law_1026 rfl rfl rfl ?_
                                                            refine V_iload_n (pc := 1027) dL_law_1027 rfl rfl rfl ?_
                                                            refine V_iconst (pc := 1028) dL_law_1028 ic_1 rfl ?_
                                                            refine V_iadd (pc := 1029) dL_law_1029 rfl ?_
                                                            obtain ⟨hc173, hf⟩ := pif hf
                                                            refine V_sld (pc := 1030) dL_law_1030 hs hc173 rfl ?_
                                                            refine V_aload_nX (pc := 1031) dL_law_1031 rfl rfl rfl ?_
                                                            refine V_iload_n (pc := 1032) dL_law_1032 rfl rfl rfl ?_
                                                            refine V_iconst (pc := 1033) dL_law_1033 ic_2 rfl ?_
                                                            refine V_iadd (pc := 1034) dL_law_1034 rfl ?_
                                                            obtain ⟨hc174, hf⟩ := pif hf
                                                            refine V_sld (pc := 1035) dL_law_1035 hs hc174 rfl ?_
                                                            refine V_aload_nX (pc := 1036) dL_law_1036 rfl rfl rfl ?_
                                                            refine V_iload_n (pc := 1037) dL_law_1037 rfl rfl rfl ?_
                                                            refine V_iconst (pc := 1038) dL_law_1038 ic_3 rfl ?_
                                                            refine V_iadd (pc := 1039) dL_law_1039 rfl ?_
                                                            obtain ⟨hc175, hf⟩ := pif hf
                                                            refine V_sld (pc := 1040) dL_law_1040 hs hc175 rfl ?_
                                                            refine V_aload_nX (pc := 1041) dL_law_1041 rfl rfl rfl ?_
                                                            refine V_iload_n (pc := 1042) dL_law_1042 rfl rfl rfl ?_
                                                            refine V_iconst (pc := 1043) dL_law_1043 ic_4 rfl ?_
                                                            refine V_iadd (pc := 1044) dL_law_1044 rfl ?_
                                                            obtain ⟨hc176, hf⟩ := pif hf
                                                            refine V_sld (pc := 1045) dL_law_1045 hs hc176 rfl ?_
                                                            obtain ⟨q177, hq177, hf⟩ := bnd hf
                                                            refine V_cVi (md' := mX12_keep) (pc := 1046) dL_law_1046 mlL_129 mVX12_keep (tX12_keep ⟨hG.1, hG.2.1, hG.2.2.1, hG.2.2.2⟩ hn hq177) rfl (by omega) (congrArg Prod.fst sh_73) rfl (Nat.le_of_ble_eq_true rfl) rfl ?_
                                                            refine V_icmp_eq (pc := 1049) (tgt := 1514) dL_law_1049 (by decide) rfl (fun hc => ?_) (fun hc => ?_)
                                                            · replace hf := (if_pos hc).symm.trans hf
                                                              refine V_iinc (ls' := [some _, some _, some _, some _]) (pc := 1514) dL_law_1514 rfl (Nat.le_of_ble_eq_true rfl) (congrArg _ ic_6) rfl rfl ?_
                                                              refine V_goto (pc := 1517) (tgt := 18) dL_law_1517 (by decide) ?_
                                                              exact V_wk (ih _ _ _ _ _ _ _ _ _ ⟨hG.1, hG.2.1, hG.2.2.1, hG.2.2.2⟩ hf K) ⟨rfl, ⟨rfl, ⟨rfl, ⟨rfl, trivial⟩⟩⟩⟩
                                                            · replace hf := (if_neg hc).symm.trans hf
                                                              refine V_iconst (pc := 1052) dL_law_1052 ic_0 rfl ?_
                                                              cases hf
                                                              exact V_zretE (pc := 1053) dL_law_1053 rfl (show (0 : Int32) = b2i false from rfl) (K _ _ _ _ _ _ _)
                                                          · replace hf := (if_neg hc167).symm.trans hf
                                                            by_cases hc178 : ((sS y3.toNatClampNeg) &&& (63 : Int32)) = (27 : Int32)
                                                            · replace hf := (if_pos hc178).symm.trans hf
                                                              refine V_tsIn (pc := 33) (tgt := 1054) dL_law_33 (by rw [hc178]; decide) (by rw [hc178]; decide) (by rw [hc178]; first | done | rfl) (by decide) ?_
                                                              refine V_aload_n (pc := 1054) dL_law_1054 rfl rfl rfl ?_
                                                              refine V_aload_nX (pc := 1055) dL_law_1055 rfl rfl rfl ?_
                                                              refine V_iload_n (pc := 1056) dL_law_1056 rfl rfl rfl ?_
                                                              refine V_iconst (pc := 1057) dL_law_1057 ic_1 rfl ?_
                                                              refine V_iadd (pc := 1058) dL_law_1058 rfl ?_
                                                              obtain ⟨hc179, hf⟩ := pif hf
                                                              refine V_sld (pc := 1059) dL_law_1059 hs hc179 rfl ?_
                                                              refine V_aload_nX (pc := 1060) dL_law_1060 rfl rfl rfl ?_
                                                              refine V_iload_n (pc := 1061) dL_law_1061 rfl rfl rfl ?_
                                                              refine V_iconst (pc := 1062) dL_law_1062 ic_2 rfl ?_
                                                              refine V_iadd (pc := 1063) dL_law_1063 rfl ?_
                                                              obtain ⟨hc180, hf⟩ := pif hf
                                                              refine V_sld (pc := 1064) dL_law_1064 hs hc180 rfl ?_
                                                              refine V_aload_nX (pc := 1065) dL_law_1065 rfl rfl rfl ?_
                                                              refine V_iload_n (pc := 1066) dL_law_1066 rfl rfl rfl ?_
                                                              refine V_iconst (pc := 1067) dL_law_1067 ic_3 rfl ?_
                                                              refine V_iadd (pc := 1068) dL_law_1068 rfl ?_
                                                              obtain ⟨hc181, hf⟩ := pif hf
                                                              refine V_sld (pc := 1069) dL_law_1069 hs hc181 rfl ?_
                                                              refine V_aload_nX (pc := 1070) dL_law_1070 rfl rfl rfl ?_
                                                              refine V_iload_n (pc := 1071) dL_law_1071 rfl rfl rfl ?_
                                                              refine V_iconst (pc := 1072) dL_law_1072 ic_4 rfl ?_
                                                              refine V_iadd (pc := 1073) dL_law_1073 rfl ?_
                                                              obtain ⟨hc182, hf⟩ := pif hf
                                                              refine V_sld (pc := 1074) dL_law_1074 hs hc182 rfl ?_
                                                              obtain ⟨q183, hq183, hf⟩ := bnd hf
                                                              refine V_cVi (md' := mX11_free) (pc := 1075) dL_law_1075 mlL_130 mVX11_free (tX11_free ⟨hG.1, hG.2.1, hG.2.2.1, hG.2.2.2⟩ hn hq183) rfl (by omega) (congrArg Prod.fst sh_0) rfl (Nat.le_of_ble_eq_true rfl) rfl ?_
                                                              refine V_aload_n (pc := 1078) dL_law_1078 rfl rfl rfl ?_
                                                              refine V_aload_nX (pc := 1079) dL_law_1079 rfl rfl rfl ?_
                                                              refine V_iload_n (pc := 1080) dL_law_1080 rfl rfl rfl ?_
                                                              refine V_iconst (pc := 1081) dL_law_1081 ic_1 rfl ?_
                                                              refine V_iadd (pc := 1082) dL_law_1082 rfl ?_
                                                              obtain ⟨hc184, hf⟩ := pif hf
                                                              refine V_sld (pc := 1083) dL_law_1083 hs hc184 rfl ?_
                                                              refine V_aload_nX (pc := 1084) dL_law_1084 rfl rfl rfl ?_
                                                              refine V_iload_n (pc := 1085) dL_law_1085 rfl rfl rfl ?_
                                                              refine V_iconst (pc := 1086) dL_law_1086 ic_2 rfl ?_
                                                              refine V_iadd (pc := 1087) dL_law_1087 rfl ?_
                                                              obtain ⟨hc185, hf⟩ := pif hf
                                                              refine V_sld (pc := 1088) dL_law_1088 hs hc185 rfl ?_
                                                              refine V_aload_nX (pc := 1089) dL_law_1089 rfl rfl rfl ?_
                                                              refine V_iload_n (pc := 1090) dL_law_1090 rfl rfl rfl ?_
                                                              refine V_iconst (pc := 1091) dL_law_1091 ic_3 rfl ?_
                                                              refine V_iadd (pc := 1092) dL_law_1092 rfl ?_
                                                              obtain ⟨hc186, hf⟩ := pif hf
                                                              refine V_sld (pc := 1093) dL_law_1093 hs hc186 rfl ?_
                                                              refine V_aload_nX (pc := 1094) dL_law_1094 rfl rfl rfl ?_
                                                              refine V_iload_n (pc := 1095) dL_law_1095 rfl rfl rfl ?_
                                                              refine V_iconst (pc := 1096) dL_law_1096 ic_4 rfl ?_
                                                              refine V_iadd (pc := 1097) dL_law_1097 rfl ?_
                                                              obtain ⟨hc187, hf⟩ := pif hf
                                                              refine V_sld (pc := 1098) dL_law_1098 hs hc187 rfl ?_
                                                              obtain ⟨q188, hq188, hf⟩ := bnd hf
                                                              refine V_cVi (md' := mX12_free) (pc := 1099) dL_law_1099 mlL_133 mVX12_free (tX12_free ⟨hG.1, hG.2.1, hG.2.2.1, hG.2.2.2⟩ hn hq188) rfl (by omega) (congrArg Prod.fst sh_73) rfl (Nat.le_of_ble_eq_true rfl) rfl ?_
                                                              refine V_icmp_eq (pc := 1102) (tgt := 1514) dL_law_1102 (by decide) rfl (fun hc => ?_) (fun hc => ?_)
                                                              · replace hf := (if_pos hc).symm.trans hf
                                                                refine V_iinc (ls' := [some _, some _, some _, some _]) (pc := 1514) dL_law_1514 rfl (Nat.le_of_ble_eq_true rfl) (congrArg _ ic_6) rfl rfl ?_
                                                                refine V_goto (pc := 1517) (tgt := 18) dL_law_1517 (by decide) ?_
                                                                exact V_wk (ih _ _ _ _ _ _ _ _ _ ⟨hG.1, hG.2.1, hG.2.2.1, hG.2.2.2⟩ hf K) ⟨rfl, ⟨rfl, ⟨rfl, ⟨rfl, trivial⟩⟩⟩⟩
                                                              · replace hf := (if_neg hc).symm.trans hf
                                                                refine V_iconst (pc := 1105) dL_law_1105 ic_0 rfl ?_
                                                                cases hf
                                                                exact V_zretE (pc := 1106) dL_law_1106 rfl (show (0 : Int32) = b2i false from rfl) (K _ _ _ _ _ _ _)
                                                            · replace hf := (if_neg hc178).symm.trans hf
                                                              by_cases hc189 : ((sS y3.toNatClampNeg) &&& (63 : Int32)) = (28 : Int32)
                                                              · replace hf := (if_pos hc189).symm.trans hf
                                                                refine V_tsIn (pc := 33) (tgt := 1107) dL_law_33 (by rw [hc189]; decide) (by rw [hc189]; decide) (by rw [hc189]; first | done | rfl) (by decide) ?_
                                                                refine V_aload_n (pc := 1107) dL_law_1107 rfl rfl rfl ?_
                                                                refine V_aload_nX (pc := 1108) dL_law_1108 rfl rfl rfl ?_
                                                                refine V_iload_n (pc := 1109) dL_law_1109 rfl rfl rfl ?_
                                                                refine V_iconst (pc := 1110) dL_law_1110 ic_1 rfl ?_
                                                                refine V_iadd (pc := 1111) dL_law_1111 rfl ?_
                                                                obtain ⟨hc190, hf⟩ := pif hf
                                                                refine V_sld (pc := 1112) dL_law_1112 hs hc190 rfl ?_
                                                                refine V_aload_nX (pc := 1113) dL_law_1113 rfl rfl rfl ?_
                                                                refine V_iload_n (pc := 1114) dL_law_1114 rfl rfl rfl ?_
                                                                refine V_iconst (pc := 1115) dL_law_1115 ic_2 rfl ?_
                                                                refine V_iadd (pc := 1116) dL_law_1116 rfl ?_
                                                                obtain ⟨hc191, hf⟩ := pif hf
                                                                refine V_sld (pc := 1117) dL_law_1117 hs hc191 rfl ?_
                                                                refine V_aload_nX (pc := 1118) dL_law_1118 rfl rfl rfl ?_
                                                                refine V_iload_n (pc := 1119) dL_law_1119 rfl rfl rfl ?_
                                                                refine V_iconst (pc := 1120) dL_law_1120 ic_3 rfl ?_
                                                                refine V_iadd (pc := 1121) dL_law_1121 rfl ?_
                                                                obtain ⟨hc192, hf⟩ := pif hf
                                                                refine V_sld (pc := 1122) dL_law_1122 hs hc192 rfl ?_
                                                                refine V_aload_nX (pc := 1123) dL_law_1123 rfl rfl rfl ?_
                                                                refine V_iload_n (pc := 1124) dL_law_1124 rfl rfl rfl ?_
                                                                refine V_iconst (pc := 1125) dL_law_1125 ic_4 rfl ?_
                                                                refine V_iadd (pc := 1126) dL_law_1126 rfl ?_
                                                                obtain ⟨hc193, hf⟩ := pif hf
                                                                refine V_sld (pc := 1127) dL_law_1127 hs hc193 rfl ?_
                                                                obtain ⟨q194, hq194, hf⟩ := bnd hf
                                                                refine V_cVl (md' := mX11_surest) (pc := 1128) dL_law_1128 mlL_134 mVX11_surest (tX11_surest ⟨hG.1, hG.2.1, hG.2.2.1, hG.2.2.2⟩ hn hq194) rfl (by omega) (congrArg Prod.fst sh_0) rfl (Nat.le_of_ble_eq_true rfl) rfl ?_
                                                                refine V_aload_n (pc := 1131) dL_law_1131 rfl rfl rfl ?_
                                                                refine V_aload_nX (pc := 1132) dL_law_1132 rfl rfl rfl ?_
                                                                refine V_iload_n (pc := 1133) dL_law_1133 rfl rfl rfl ?_
                                                                refine V_iconst (pc := 1134) dL_law_1134 ic_1 rfl ?_
                                                                refine V_iadd (pc := 1135) dL_law_1135 rfl ?_
                                                                obtain ⟨hc195, hf⟩ := pif hf
                                                                refine V_sld (pc := 1136) dL_law_1136 hs hc195 rfl ?_
                                                                refine V_aload_nX (pc := 1137) dL_law_1137 rfl rfl rfl ?_
                                                                refine V_iload_n (pc := 1138) dL_law_1138 rfl rfl rfl ?_
                                                                refine V_iconst (pc := 1139) dL_law_1139 ic_2 rfl ?_
                                                                refine V_iadd (pc := 1140) dL_law_1140 rfl ?_
                                                                obtain ⟨hc196, hf⟩ := pif hf
                                                                refine V_sld (pc := 1141) dL_law_1141 hs hc196 rfl ?_
                                                                refine V_aload_nX (pc := 1142) dL_law_1142 rfl rfl rfl ?_
                                                                refine V_iload_n (pc := 1143) dL_law_1143 rfl rfl rfl ?_
                                                                refine V_iconst (pc := 1144) dL_law_1144 ic_3 rfl ?_
                                                                refine V_iadd (pc := 1145) dL_law_1145 rfl ?_
                                                                obtain ⟨hc197, hf⟩ := pif hf
                                                                refine V_sld (pc := 1146) dL_law_1146 hs hc197 rfl ?_
                                                                refine V_aload_nX (pc := 1147) dL_law_1147 rfl rfl rfl ?_
                                                                refine V_iload_n (pc := 1148) dL_law_1148 rfl rfl rfl ?_
                                                                refine V_iconst (pc := 1149) dL_law_1149 ic_4 rfl ?_
                                                                refine V_iadd (pc := 1150) dL_law_1150 rfl ?_
                                                                obtain ⟨hc198, hf⟩ := pif hf
                                                                refine V_sld (pc := 1151) dL_law_1151 hs hc198 rfl ?_
                                                                obtain ⟨q199, hq199, hf⟩ := bnd hf
                                                                refine V_cVl (md' := mX12_surest) (pc := 1152) dL_law_1152 mlL_138 mVX12_surest (tX12_surest ⟨hG.1, hG.2.1, hG.2.2.1, hG.2.2.2⟩ hn hq199) rfl (by omega) (congrArg Prod.fst sh_73) rfl (Nat.le_of_ble_eq_true rfl) rfl ?_
                                                                refine V_lc_eq (pc := 1155) (tgt := 1514) dL_law_1155 rfl dL_law_1156 (by decide) rfl (fun hc => ?_) (fun hc => ?_)
                                                                · replace hf := (if_pos hc).symm.trans hf
                                                                  refine V_iinc (ls' := [some _, some _, some _, some _]) (pc := 1514) dL_law_1514 rfl (Nat.le_of_ble_eq_true rfl) (congrArg _ ic_6) rfl rfl ?_
                                                                  refine V_goto (pc := 1517) (tgt := 18) dL_law_1517 (by decide) ?_
                                                                  exact V_wk (ih _ _ _ _ _ _ _ _ _ ⟨hG.1, hG.2.1, hG.2.2.1, hG.2.2.2⟩ hf K) ⟨rfl, ⟨rfl, ⟨rfl, ⟨rfl, trivial⟩⟩⟩⟩
                                                                · replace hf := (if_neg hc).symm.trans hf
                                                                  refine V_iconst (pc := 1159) dL_law_1159 ic_0 rfl ?_
                                                                  cases hf
                                                                  exact V_zretE (pc := 1160) dL_law_1160 rfl (show (0 : Int32) = b2i false from rfl) (K _ _ _ _ _ _ _)
                                                              · replace hf := (if_neg hc189).symm.trans hf
                                                                by_cases hc200 : ((sS y3.toNatClampNeg) &&& (63 : Int32)) = (29 : Int32)
                                                                · replace hf := (if_pos hc200).symm.trans hf
                                                                  refine V_tsIn (pc := 33) (tgt := 1161) dL_law_33 (by rw [hc200]; decide) (by rw [hc200]; decide) (by rw [hc200]; first | done | rfl) (by decide) ?_
                                                                  refine V_aload_n (pc := 1161) dL_law_1161 rfl rfl rfl ?_
                                                                  refine V_aload_nX (pc := 1162) dL_law_1162 rfl rfl rfl ?_
                                                                  refine V_iload_n (pc := 1163) dL_law_1163 rfl rfl rfl ?_
                                                                  refine V_iconst (pc := 1164) dL_law_1164 ic_1 rfl ?_
                                                                  refine V_iadd (pc := 1165) dL_law_1165 rfl ?_
                                                                  obtain ⟨hc201, hf⟩ := pif hf
                                                                  refine V_sld (pc := 1166) dL_law_1166 hs hc201 rfl ?_
                                                                  refine V_aload_nX (pc := 1167) dL_law_1167 rfl rfl rfl ?_
                                                                  refine V_iload_n (pc := 1168) dL_law_1168 rfl rfl rfl ?_
                                                                  refine V_iconst (pc := 1169) dL_law_1169 ic_2 rfl ?_
                                                                  refine V_iadd (pc := 1170) dL_law_1170 rfl ?_
                                                                  obtain ⟨hc202, hf⟩ := pif hf
                                                                  refine V_sld (pc := 1171) dL_law_1171 hs hc202 rfl ?_
                                                                  refine V_aload_nX (pc := 1172) dL_law_1172 rfl rfl rfl ?_
                                                                  refine V_iload_n (pc := 1173) dL_law_1173 rfl rfl rfl ?_
                                                                  refine V_iconst (pc := 1174) dL_law_1174 ic_3 rfl ?_
                                                                  refine V_iadd (pc := 1175) dL_law_1175 rfl ?_
                                                                  obtain ⟨hc203, hf⟩ := pif hf
                                                                  refine V_sld (pc := 1176) dL_law_1176 hs hc203 rfl ?_
                                                                  refine V_aload_nX (pc := 1177) dL_law_1177 rfl rfl rfl ?_
                                                                  refine V_iload_n (pc := 1178) dL_law_1178 rfl rfl rfl ?_
                                                                  refine V_iconst (pc := 1179) dL_law_1179 ic_4 rfl ?_
                                                                  refine V_iadd (pc := 1180) dL_law_1180 rfl ?_
                                                                  obtain ⟨hc204, hf⟩ := pif hf
                                                                  refine V_sld (pc := 1181) dL_law_1181 hs hc204 rfl ?_
                                                                  obtain ⟨q205, hq205, hf⟩ := bnd hf
                                                                  refine V_cVi (md' := mX11_dates) (pc := 1182) dL_law_1182 mlL_139 mVX11_dates (tX11_dates ⟨hG.1, hG.2.1, hG.2.2.1, hG.2.2.2⟩ hn hq205) rfl (by omega) (congrArg Prod.fst sh_0) rfl (Nat.le_of_ble_eq_true rfl) rfl ?_
                                                                  refine V_aload_n (pc := 1185) dL_law_1185 rfl rfl rfl ?_
                                                                  refine V_aload_nX (pc := 1186) dL_law_1186 rfl rfl rfl ?_
                                                                  refine V_iload_n (pc := 1187) dL_law_1187 rfl rfl rfl ?_
                                                                  refine V_iconst (pc := 1188) dL_law_1188 ic_1 rfl ?_
                                                                  refine V_iadd (pc := 1189) dL_law_1189 rfl ?_
                                                                  obtain ⟨hc206, hf⟩ := pif hf
                                                                  refine V_sld (pc := 1190) dL_law_1190 hs hc206 rfl ?_
                                                                  refine V_aload_nX (pc := 1191) dL_law_1191 rfl rfl rfl ?_
                                                                  refine V_iload_n (pc := 1192) dL_law_1192 rfl rfl rfl ?_
                                                                  refine V_iconst (pc := 1193) dL_law_1193 ic_2 rfl ?_
                                                                  refine V_iadd (pc := 1194) dL_law_1194 rfl ?_
                                                                  obtain ⟨hc207, hf⟩ := pif hf
                                                                  refine V_sld (pc := 1195) dL_law_1195 hs hc207 rfl ?_
                                                                  refine V_aload_nX (pc := 1196) dL_law_1196 rfl rfl rfl ?_
                                                                  refine V_iload_n (pc := 1197) dL_law_1197 rfl rfl rfl ?_
                                                                  refine V_iconst (pc := 1198) dL_law_1198 ic_3 rfl ?_
                                                                  refine V_iadd (pc := 1199) dL_law_1199 rfl ?_
                                                                  obtain ⟨hc208, hf⟩ := pif hf
                                                                  refine V_sld (pc := 1200) dL_law_1200 hs hc208 rfl ?_
                                                                  refine V_aload_nX (pc := 1201) dL_law_1201 rfl rfl rfl ?_
                                                                  refine V_iload_n (pc := 1202) dL_law_1202 rfl rfl rfl ?_
                                                                  refine V_iconst (pc := 1203) dL_law_1203 ic_4 rfl ?_
                                                                  refine V_iadd (pc := 1204) dL_law_1204 rfl ?_
                                                                  obtain ⟨hc209, hf⟩ := pif hf
                                                                  refine V_sld (pc := 1205) dL_law_1205 hs hc209 rfl ?_
                                                                  obtain ⟨q210, hq210, hf⟩ := bnd hf
                                                                  refine V_cVi (md' := mX12_dates) (pc := 1206) dL_law_1206 mlL_142 mVX12_dates (tX12_dates ⟨hG.1, hG.2.1, hG.2.2.1, hG.2.2.2⟩ hn hq210) rfl (by omega) (congrArg Prod.fst sh_73) rfl (Nat.le_of_ble_eq_true rfl) rfl ?_
                                                                  refine V_icmp_eq (pc := 1209) (tgt := 1514) dL_law_1209 (by decide) rfl (fun hc => ?_) (fun hc => ?_)
                                                                  · replace hf := (if_pos hc).symm.trans hf
                                                                    refine V_iinc (ls' := [some _, some _, some _, some _]) (pc := 1514) dL_law_1514 rfl (Nat.le_of_ble_eq_true rfl) (congrArg _ ic_6) rfl rfl ?_
                                                                    refine V_goto (pc := 1517) (tgt := 18) dL_law_1517 (by decide) ?_
                                                                    exact V_wk (ih _ _ _ _ _ _ _ _ _ ⟨hG.1, hG.2.1, hG.2.2.1, hG.2.2.2⟩ hf K) ⟨rfl, ⟨rfl, ⟨rfl, ⟨rfl, trivial⟩⟩⟩⟩
                                                                  · replace hf := (if_neg hc).symm.trans hf
                                                                    refine V_iconst (pc := 1212) dL_law_1212 ic_0 rfl ?_
                                                                    cases hf
                                                                    exact V_zretE (pc := 1213) dL_law_1213 rfl (show (0 : Int32) = b2i false from rfl) (K _ _ _ _ _ _ _)
                                                                · replace hf := (if_neg hc200).symm.trans hf
                                                                  by_cases hc211 : ((sS y3.toNatClampNeg) &&& (63 : Int32)) = (30 : Int32)
                                                                  · replace hf := (if_pos hc211).symm.trans hf
                                                                    refine V_tsIn (pc := 33) (tgt := 1214) dL_law_33 (by rw [hc211]; decide) (by rw [hc211]; decide) (by rw [hc211]; first | done | rfl) (by decide) ?_
                                                                    refine V_aload_n (pc := 1214) dL_law_1214 rfl rfl rfl ?_
                                                                    refine V_aload_nX (pc := 1215) dL_law_1215 rfl rfl rfl ?_
                                                                    refine V_iload_n (pc := 1216) dL_law_1216 rfl rfl rfl ?_
                                                                    refine V_iconst (pc := 1217) dL_law_1217 ic_1 rfl ?_
                                                                    refine V_iadd (pc := 1218) dL_law_1218 rfl ?_
                                                                    obtain ⟨hc212, hf⟩ := pif hf
                                                                    refine V_sld (pc := 1219) dL_law_1219 hs hc212 rfl ?_
                                                                    obtain ⟨q213, hq213, hf⟩ := bnd hf
                                                                    refine V_cVi (md' := mX11_lies) (pc := 1220) dL_law_1220 mlL_143 mVX11_lies (tX11_lies ⟨hG.1, hG.2.1, hG.2.2.1, hG.2.2.2⟩ hn hq213) rfl (by omega) (congrArg Prod.fst sh_0) rfl (Nat.le_of_ble_eq_true rfl) rfl ?_
                                                                    refine V_aload_n (pc := 1223) dL_law_1223 rfl rfl rfl ?_
                                                                    refine V_aload_nX (pc := 1224) dL_law_1224 rfl rfl rfl ?_
                                                                    refine V_iload_n (pc := 1225) dL_law_1225 rfl rfl rfl ?_
                                                                    refine V_iconst (pc := 1226) dL_law_1226 ic_1 rfl ?_
                                                                    refine V_iadd (pc := 1227) dL_law_1227 rfl ?_
                                                                    obtain ⟨hc214, hf⟩ := pif hf
                                                                    refine V_sld (pc := 1228) dL_law_1228 hs hc214 rfl ?_
                                                                    obtain ⟨q215, hq215, hf⟩ := bnd hf
                                                                    refine V_cVi (md' := mX12_lies) (pc := 1229) dL_law_1229 mlL_146 mVX12_lies (tX12_lies ⟨hG.1, hG.2.1, hG.2.2.1, hG.2.2.2⟩ hn hq215) rfl (by omega) (congrArg Prod.fst sh_73) rfl (Nat.le_of_ble_eq_true rfl) rfl ?_
                                                                    refine V_icmp_eq (pc := 1232) (tgt := 1514) dL_law_1232 (by decide) rfl (fun hc => ?_) (fun hc => ?_)
                                                                    · replace hf := (if_pos hc).symm.trans hf
                                                                      refine V_iinc (ls' := [some _, some _, some _, some _]) (pc := 1514) dL_law_1514 rfl (Nat.le_of_ble_eq_true rfl) (congrArg _ ic_6) rfl rfl ?_
                                                                      refine V_goto (pc := 1517) (tgt := 18) dL_law_1517 (by decide) ?_
                                                                      exact V_wk (ih _ _ _ _ _ _ _ _ _ ⟨hG.1, hG.2.1, hG.2.2.1, hG.2.2.2⟩ hf K) ⟨rfl, ⟨rfl, ⟨rfl, ⟨rfl, trivial⟩⟩⟩⟩
                                                                    · replace hf := (if_neg hc).symm.trans hf
                                                                      refine V_iconst (pc := 1235) dL_law_1235 ic_0 rfl ?_
                                                                      cases hf
                                                                      exact V_zretE (pc := 1236) dL_law_1236 rfl (show (0 : Int32) = b2i false from rfl) (K _ _ _ _ _ _ _)
                                                                  · replace hf := (if_neg hc211).symm.trans hf
                                                                    by_cases hc216 : ((sS y3.toNatClampNeg) &&& (63 : Int32)) = (31 : Int32)
                                                                    · replace hf := (if_pos hc216).symm.trans hf
                                                                      refine V_tsIn (pc := 33) (tgt := 1237) dL_law_33 (by rw [hc216]; decide) (by rw [hc216]; decide) (by rw [hc216]; first | done | rfl) (by decide) ?_
                                                                      refine V_aload_n (pc := 1237) dL_law_1237 rfl rfl rfl ?_
                                                                      refine V_aload_nX (pc := 1238) dL_law_1238 rfl rfl rfl ?_
                                                                      refine V_iload_n (pc := 1239) dL_law_1239 rfl rfl rfl ?_
                                                                      refine V_iconst (pc := 1240) dL_law_1240 ic_1 rfl ?_
                                                                      refine V_iadd (pc := 1241) dL_law_1241 rfl ?_
                                                                      obtain ⟨hc217, hf⟩ := pif hf
                                                                      refine V_sld (pc := 1242) dL_law_1242 hs hc217 rfl ?_
                                                                      refine V_aload_nX (pc := 1243) dL_law_1243 rfl rfl rfl ?_
                                                                      refine V_iload_n (pc := 1244) dL_law_1244 rfl rfl rfl ?_
                                                                      refine V_iconst (pc := 1245) dL_law_1245 ic_2 rfl ?_
                                                                      refine V_iadd (pc := 1246) dL_law_1246 rfl ?_
                                                                      obtain ⟨hc218, hf⟩ := pif hf
                                                                      refine V_sld (pc := 1247) dL_law_1247 hs hc218 rfl ?_
                                                                      refine V_aload_nX (pc := 1248) dL_law_1248 rfl rfl rfl ?_
                                                                      refine V_iload_n (pc := 1249) dL_law_1249 rfl rfl rfl ?_
                                                                      refine V_iconst (pc := 1250) dL_law_1250 ic_3 rfl ?_
                                                                      refine V_iadd (pc := 1251) dL_law_1251 rfl ?_
                                                                      obtain ⟨hc219, hf⟩ := pif hf
                                                                      refine V_sld (pc := 1252) dL_law_1252 hs hc219 rfl ?_
                                                                      obtain ⟨q220, hq220, hf⟩ := bnd hf
                                                                      have Kq220 : V g mL_law (d + 173) 0 0 n (RT ztw zdr zsk ztl zff) I L 1261 [some (.retAddr 4), some (.ref 0), some (.ref 73), some (.int y3)] [.int (b2i q220), .int (sS (y3 + (2 : Int32)).toNatClampNeg), .int (sS (y3 + (1 : Int32)).toNatClampNeg), .ref 0] P := by
                                                                        obtain ⟨q221, hq221, hf⟩ := bnd hf
                                                                        refine V_cVi (md' := mX11_look) (pc := 1261) dL_law_1261 mlL_147 mVX11_look (tX11_look ⟨hG.1, hG.2.1, hG.2.2.1, hG.2.2.2⟩ hn hq221) rfl (by omega) (congrArg Prod.fst sh_0) rfl (Nat.le_of_ble_eq_true rfl) rfl ?_
                                                                        refine V_aload_n (pc := 1264) dL_law_1264 rfl rfl rfl ?_
                                                                        refine V_aload_nX (pc := 1265) dL_law_1265 rfl rfl rfl ?_
                                                                        refine V_iload_n (pc := 1266) dL_law_1266 rfl rfl rfl ?_
                                                                        refine V_iconst (pc := 1267) dL_law_1267 ic_1 rfl ?_
                                                                        refine V_iadd (pc := 1268) dL_law_1268 rfl ?_
                                                                        obtain ⟨hc222, hf⟩ := pif hf
                                                                        refine V_sld (pc := 1269) dL_law_1269 hs hc222 rfl ?_
                                                                        refine V_aload_nX (pc := 1270) dL_law_1270 rfl rfl rfl ?_
                                                                        refine V_iload_n (pc := 1271) dL_law_1271 rfl rfl rfl ?_
                                                                        refine V_iconst (pc := 1272) dL_law_1272 ic_2 rfl ?_
                                                                        refine V_iadd (pc := 1273) dL_law_1273 rfl ?_
                                                                        obtain ⟨hc223, hf⟩ := pif hf
                                                                        refine V_sld (pc := 1274) dL_law_1274 hs hc223 rfl ?_
                                                                        refine V_aload_nX (pc := 1275) dL_law_1275 rfl rfl rfl ?_
                                                                        refine V_iload_n (pc := 1276) dL_law_1276 rfl rfl rfl ?_
                                                                        refine V_iconst (pc := 1277) dL_law_1277 ic_3 rfl ?_
                                                                        refine V_iadd (pc := 1278) dL_law_1278 rfl ?_
                                                                        obtain ⟨hc224, hf⟩ := pif hf
                                                                        refine V_sld (pc := 1279) dL_law_1279 hs hc224 rfl ?_
                                                                        obtain ⟨q225, hq225, hf⟩ := bnd hf
                                                                        have Kq225 : V g mL_law (d + 173) 0 0 n (RT ztw zdr zsk ztl zff) q221.2 L 1288 [some (.retAddr 4), some (.ref 0), some (.ref 73), some (.int y3)] [.int (b2i q225), .int (sS (y3 + (2 : Int32)).toNatClampNeg), .int (sS (y3 + (1 : Int32)).toNatClampNeg), .ref 73, .int q221.1] P := by
                                                                          obtain ⟨q226, hq226, hf⟩ := bnd hf
                                                                          refine V_cVi (md' := mX12_look) (pc := 1288) dL_law_1288 mlL_151 mVX12_look (tX12_look ⟨hG.1, hG.2.1, hG.2.2.1, hG.2.2.2⟩ hn hq226) rfl (by omega) (congrArg Prod.fst sh_73) rfl (Nat.le_of_ble_eq_true rfl) rfl ?_
                                                                          refine V_icmp_eq (pc := 1291) (tgt := 1514) dL_law_1291 (by decide) rfl (fun hc => ?_) (fun hc => ?_)
                                                                          · replace hf := (if_pos hc).symm.trans hf
                                                                            refine V_iinc (ls' := [some _, some _, some _, some _]) (pc := 1514) dL_law_1514 rfl (Nat.le_of_ble_eq_true rfl) (congrArg _ ic_6) rfl rfl ?_
                                                                            refine V_goto (pc := 1517) (tgt := 18) dL_law_1517 (by decide) ?_
                                                                            exact V_wk (ih _ _ _ _ _ _ _ _ _ ⟨hG.1, hG.2.1, hG.2.2.1, hG.2.2.2⟩ hf K) ⟨rfl, ⟨rfl, ⟨rfl, ⟨rfl, trivial⟩⟩⟩⟩
                                                                          · replace hf := (if_neg hc).symm.trans hf
                                                                            refine V_iconst (pc := 1294) dL_law_1294 ic_0 rfl ?_
                                                                            cases hf
                                                                            exact V_zretE (pc := 1295) dL_law_1295 rfl (show (0 : Int32) = b2i false from rfl) (K _ _ _ _ _ _ _)
                                                                        refine V_if_eq (pc := 1280) (tgt := 1287) dL_law_1280 (by decide) rfl (fun hc => ?_) (fun hc => ?_)
                                                                        · replace hq225 := (if_pos hc).symm.trans hq225
                                                                          refine V_iconst (pc := 1287) dL_law_1287 ic_0 rfl ?_
                                                                          cases hq225
                                                                          exact V_wk Kq225 ⟨rfl, ⟨rfl, ⟨rfl, ⟨rfl, trivial⟩⟩⟩⟩
                                                                        · replace hq225 := (if_neg hc).symm.trans hq225
                                                                          refine V_iconst (pc := 1283) dL_law_1283 ic_1 rfl ?_
                                                                          refine V_goto (pc := 1284) (tgt := 1288) dL_law_1284 (by decide) ?_
                                                                          cases hq225
                                                                          exact V_wk Kq225 ⟨rfl, ⟨rfl, ⟨rfl, ⟨rfl, trivial⟩⟩⟩⟩
                                                                      refine V_if_eq (pc := 1253) (tgt := 1260) dL_law_1253 (by decide) rfl (fun hc => ?_) (fun hc => ?_)
                                                                      · replace hq220 := (if_pos hc).symm.trans hq220
                                                                        refine V_iconst (pc := 1260) dL_law_1260 ic_0 rfl ?_
                                                                        cases hq220
                                                                        exact V_wk Kq220 ⟨rfl, ⟨rfl, ⟨rfl, ⟨rfl, trivial⟩⟩⟩⟩
                                                                      · replace hq220 := (if_neg hc).symm.trans hq220
                                                                        refine V_iconst (pc := 1256) dL_law_1256 ic_1 rfl ?_
                                                                        refine V_goto (pc := 1257) (tgt := 1261) dL_law_1257 (by decide) ?_
                                                                        cases hq220
                                                                        exact V_wk Kq220 ⟨rfl, ⟨rfl, ⟨rfl, ⟨rfl, trivial⟩⟩⟩⟩
                                                                    · replace hf := (if_neg hc216).symm.trans hf
                                                                      by_cases hc227 : ((sS y3.toNatClampNeg) &&& (63 : Int32)) = (32 : Int32)
                                                                      · replace hf := (if_pos hc227).symm.trans hf
                                                                        refine V_tsIn (pc := 33) (tgt := 1296) dL_law_33 (by rw [hc227]; decide) (by rw [hc227]; decide) (by rw [hc227]; first | done | rfl) (by decide) ?_
                                                                        refine V_aload_n (pc := 1296) dL_law_1296 rfl rfl rfl ?_
                                                                        refine V_aload_nX (pc := 1297) dL_law_1297 rfl rfl rfl ?_
                                                                        refine V_iload_n (pc := 1298) dL_law_1298 rfl rfl rfl ?_
                                                                        refine V_iconst (pc := 1299) dL_law_1299 ic_1 rfl ?_
                                                                        refine V_iadd (pc := 1300) dL_law_1300 rfl ?_
                                                                        obtain ⟨hc228, hf⟩ := pif hf
                                                                        refine V_sld (pc := 1301) dL_law_1301 hs hc228 rfl ?_
                                                                        obtain ⟨q229, hq229, hf⟩ := bnd hf
                                                                        refine V_cVz (md' := mX11_untell) (pc := 1302) dL_law_1302 mlL_152 mVX11_untell (tX11_untell ⟨hG.1, hG.2.1, hG.2.2.1, hG.2.2.2⟩ hn hq229) rfl (by omega) (congrArg Prod.fst sh_0) rfl (Nat.le_of_ble_eq_true rfl) rfl ?_
                                                                        refine V_aload_n (pc := 1305) dL_law_1305 rfl rfl rfl ?_
                                                                        refine V_aload_nX (pc := 1306) dL_law_1306 rfl rfl rfl ?_
                                                                        refine V_iload_n (pc := 1307) dL_law_1307 rfl rfl rfl ?_
                                                                        refine V_iconst (pc := 1308) dL_law_1308 ic_1 rfl ?_
                                                                        refine V_iadd (pc := 1309) dL_law_1309 rfl ?_
                                                                        obtain ⟨hc230, hf⟩ := pif hf
                                                                        refine V_sld (pc := 1310) dL_law_1310 hs hc230 rfl ?_
                                                                        obtain ⟨q231, hq231, hf⟩ := bnd hf
                                                                        refine V_cVz (md' := mX12_untell) (pc := 1311) dL_law_1311 mlL_156 mVX12_untell (tX12_untell ⟨hG.1, hG.2.1, hG.2.2.1, hG.2.2.2⟩ hn hq231) rfl (by omega) (congrArg Prod.fst sh_73) rfl (Nat.le_of_ble_eq_true rfl) rfl ?_
                                                                        refine V_icmp_eq (pc := 1314) (tgt := 1514) dL_law_1314 (by decide) rfl (fun hc => ?_) (fun hc => ?_)
                                                                        · replace hf := (if_pos hc).symm.trans hf
                                                                          refine V_iinc (ls' := [some _, some _, some _, some _]) (pc := 1514) dL_law_1514 rfl (Nat.le_of_ble_eq_true rfl) (congrArg _ ic_6) rfl rfl ?_
                                                                          refine V_goto (pc := 1517) (tgt := 18) dL_law_1517 (by decide) ?_
                                                                          exact V_wk (ih _ _ _ _ _ _ _ _ _ ⟨hG.1, hG.2.1, hG.2.2.1, hG.2.2.2⟩ hf K) ⟨rfl, ⟨rfl, ⟨rfl, ⟨rfl, trivial⟩⟩⟩⟩
                                                                        · replace hf := (if_neg hc).symm.trans hf
                                                                          refine V_iconst (pc := 1317) dL_law_1317 ic_0 rfl ?_
                                                                          cases hf
                                                                          exact V_zretE (pc := 1318) dL_law_1318 rfl (show (0 : Int32) = b2i false from rfl) (K _ _ _ _ _ _ _)
                                                                      · replace hf := (if_neg hc227).symm.trans hf
                                                                        by_cases hc232 : ((sS y3.toNatClampNeg) &&& (63 : Int32)) = (33 : Int32)
                                                                        · replace hf := (if_pos hc232).symm.trans hf
                                                                          refine V_tsIn (pc := 33) (tgt := 1319) dL_law_33 (by rw [hc232]; decide) (by rw [hc232]; decide) (by rw [hc232]; first | done | rfl) (by decide) ?_
                                                                          refine V_aload_n (pc := 1319) dL_law_1319 rfl rfl rfl ?_
                                                                          refine V_aload_nX (pc := 1320) dL_law_1320 rfl rfl rfl ?_
                                                                          refine V_iload_n (pc := 1321) dL_law_1321 rfl rfl rfl ?_
                                                                          refine V_iconst (pc := 1322) dL_law_1322 ic_1 rfl ?_
                                                                          refine V_iadd (pc := 1323) dL_law_1323 rfl ?_
                                                                          obtain ⟨hc233, hf⟩ := pif hf
                                                                          refine V_sld (pc := 1324) dL_law_1324 hs hc233 rfl ?_
                                                                          obtain ⟨q234, hq234, hf⟩ := obd hf
                                                                          refine V_cVi (md' := mX11_later) (pc := 1325) dL_law_1325 mlL_157 mVX11_later (tX11_later ⟨hG.1, hG.2.1, hG.2.2.1, hG.2.2.2⟩ hn hq234) rfl (by omega) (congrArg Prod.fst sh_0) rfl (Nat.le_of_ble_eq_true rfl) rfl ?_
                                                                          refine V_aload_n (pc := 1328) dL_law_1328 rfl rfl rfl ?_
                                                                          refine V_aload_nX (pc := 1329) dL_law_1329 rfl rfl rfl ?_
                                                                          refine V_iload_n (pc := 1330) dL_law_1330 rfl rfl rfl ?_
                                                                          refine V_iconst (pc := 1331) dL_law_1331 ic_1 rfl ?_
                                                                          refine V_iadd (pc := 1332) dL_law_1332 rfl ?_
                                                                          obtain ⟨hc235, hf⟩ := pif hf
                                                                          refine V_sld (pc := 1333) dL_law_1333 hs hc235 rfl ?_
                                                                          obtain ⟨q236, hq236, hf⟩ := obd hf
                                                                          refine V_cVi (md' := mX12_later) (pc := 1334) dL_law_1334 mlL_160 mVX12_later (tX12_later ⟨hG.1, hG.2.1, hG.2.2.1, hG.2.2.2⟩ hn hq236) rfl (by omega) (congrArg Prod.fst sh_73) rfl (Nat.le_of_ble_eq_true rfl) rfl ?_
                                                                          refine V_icmp_eq (pc := 1337) (tgt := 1514) dL_law_1337 (by decide) rfl (fun hc => ?_) (fun hc => ?_)
                                                                          · replace hf := (if_pos hc).symm.trans hf
                                                                            refine V_iinc (ls' := [some _, some _, some _, some _]) (pc := 1514) dL_law_1514 rfl (Nat.le_of_ble_eq_true rfl) (congrArg _ ic_6) rfl rfl ?_
                                                                            refine V_goto (pc := 1517) (tgt := 18) dL_law_1517 (by decide) ?_
                                                                            exact V_wk (ih _ _ _ _ _ _ _ _ _ ⟨hG.1, hG.2.1, hG.2.2.1, hG.2.2.2⟩ hf K) ⟨rfl, ⟨rfl, ⟨rfl, ⟨rfl, trivial⟩⟩⟩⟩
                                                                          · replace hf := (if_neg hc).symm.trans hf
                                                                            refine V_iconst (pc := 1340) dL_law_1340 ic_0 rfl ?_
                                                                            cases hf
                                                                            exact V_zretE (pc := 1341) dL_law_1341 rfl (show (0 : Int32) = b2i false from rfl) (K _ _ _ _ _ _ _)
                                                                        · replace hf := (if_neg hc232).symm.trans hf
                                                                          by_cases hc237 : ((sS y3.toNatClampNeg) &&& (63 : Int32)) = (34 : Int32)
                                                                          · replace hf := (if_pos hc237).symm.trans hf
                                                                            refine V_tsIn (pc := 33) (tgt := 1342) dL_law_33 (by rw [hc237]; decide) (by rw [hc237]; decide) (by rw [hc237]; first | done | rfl) (by decide) ?_
                                                                            refine V_aload_n (pc := 1342) dL_law_1342 rfl rfl rfl ?_
                                                                            refine V_aload_nX (pc := 1343) dL_law_1343 rfl rfl rfl ?_
                                                                            refine V_iload_n (pc := 1344) dL_law_1344 rfl rfl rfl ?_
                                                                            refine V_iconst (pc := 1345) dL_law_1345 ic_1 rfl ?_
                                                                            refine V_iadd (pc := 1346) dL_law_1346 rfl ?_
                                                                            obtain ⟨hc238, hf⟩ := pif hf
                                                                            refine V_sld (pc := 1347) dL_law_1347 hs hc238 rfl ?_
                                                                            obtain ⟨q239, hq239, hf⟩ := bnd hf
                                                                            refine V_cVi (md' := mX11_fit) (pc := 1348) dL_law_1348 mlL_161 mVX11_fit (tX11_fit ⟨hG.1, hG.2.1, hG.2.2.1, hG.2.2.2⟩ hn hq239) rfl (by omega) (congrArg Prod.fst sh_0) rfl (Nat.le_of_ble_eq_true rfl) rfl ?_
                                                                            refine V_aload_n (pc := 1351) dL_law_1351 rfl rfl rfl ?_
                                                                            refine V_aload_nX (pc := 1352) dL_law_1352 rfl rfl rfl ?_
                                                                            refine V_iload_n (pc := 1353) dL_law_1353 rfl rfl rfl ?_
                                                                            refine V_iconst (pc := 1354) dL_law_1354 ic_1 rfl ?_
                                                                            refine V_iadd (pc := 1355) dL_law_1355 rfl ?_
                                                                            obtain ⟨hc240, hf⟩ := pif hf
                                                                            refine V_sld (pc := 1356) dL_law_1356 hs hc240 rfl ?_
                                                                            obtain ⟨q241, hq241, hf⟩ := bnd hf
                                                                            refine V_cVi (md' := mX12_fit) (pc := 1357) dL_law_1357 mlL_164 mVX12_fit (tX12_fit ⟨hG.1, hG.2.1, hG.2.2.1, hG.2.2.2⟩ hn hq241) rfl (by omega) (congrArg Prod.fst sh_73) rfl (Nat.le_of_ble_eq_true rfl) rfl ?_
                                                                            refine V_icmp_eq (pc := 1360) (tgt := 1514) dL_law_1360 (by decide) rfl (fun hc => ?_) (fun hc => ?_)
                                                                            · replace hf := (if_pos hc).symm.trans hf
                                                                              refine V_iinc (ls' := [some _, some _, some _, some _]) (pc := 1514) dL_law_1514 rfl (Nat.le_of_ble_eq_true rfl) (congrArg _ ic_6) rfl rfl ?_
                                                                              refine V_goto (pc := 1517) (tgt := 18) dL_law_1517 (by decide) ?_
                                                                              exact V_wk (ih _ _ _ _ _ _ _ _ _ ⟨hG.1, hG.2.1, hG.2.2.1, hG.2.2.2⟩ hf K) ⟨rfl, ⟨rfl, ⟨rfl, ⟨rfl, trivial⟩⟩⟩⟩
                                                                            · replace hf := (if_neg hc).symm.trans hf
                                                                              refine V_iconst (pc := 1363) dL_law_1363 ic_0 rfl ?_
                                                                              cases hf
                                                                              exact V_zretE (pc := 1364) dL_law_1364 rfl (show (0 : Int32) = b2i false from rfl) (K _ _ _ _ _ _ _)
                                                                          · replace hf := (if_neg hc237).symm.trans hf
                                                                            by_cases hc242 : ((sS y3.toNatClampNeg) &&& (63 : Int32)) = (35 : Int32)
                                                                            · replace hf := (if_pos hc242).symm.trans hf
                                                                              refine V_tsIn (pc := 33) (tgt := 1365) dL_law_33 (by rw [hc242]; decide) (by rw [hc242]; decide) (by rw [hc242]; first | done | rfl) (by decide) ?_
                                                                              refine V_aload_n (pc := 1365) dL_law_1365 rfl rfl rfl ?_
                                                                              refine V_aload_nX (pc := 1366) dL_law_1366 rfl rfl rfl ?_
                                                                              refine V_iload_n (pc := 1367) dL_law_1367 rfl rfl rfl ?_
                                                                              refine V_iconst (pc := 1368) dL_law_1368 ic_1 rfl ?_
                                                                              refine V_iadd (pc := 1369) dL_law_1369 rfl ?_
                                                                              obtain ⟨hc243, hf⟩ := pif hf
                                                                              refine V_sld (pc := 1370) dL_law_1370 hs hc243 rfl ?_
                                                                              obtain ⟨q244, hq244, hf⟩ := bnd hf
                                                                              refine V_cVl (md' := mX11_places) (pc := 1371) dL_law_1371 mlL_165 mVX11_places (tX11_places ⟨hG.1, hG.2.1, hG.2.2.1, hG.2.2.2⟩ hn hq244) rfl (by omega) (congrArg Prod.fst sh_0) rfl (Nat.le_of_ble_eq_true rfl) rfl ?_
                                                                              refine V_aload_n (pc := 1374) dL_law_1374 rfl rfl rfl ?_
                                                                              refine V_aload_nX (pc := 1375) dL_law_1375 rfl rfl rfl ?_
                                                                              refine V_iload_n (pc := 1376) dL_law_1376 rfl rfl rfl ?_
                                                                              refine V_iconst (pc := 1377) dL_law_1377 ic_1 rfl ?_
                                                                              refine V_iadd (pc := 1378) dL_law_1378 rfl ?_
                                                                              obtain ⟨hc245, hf⟩ := pif hf
                                                                              refine V_sld (pc := 1379) dL_law_1379 hs hc245 rfl ?_
                                                                              obtain ⟨q246, hq246, hf⟩ := bnd hf
                                                                              refine V_cVl (md' := mX12_places) (pc := 1380) dL_law_1380 mlL_169 mVX12_places (tX12_places ⟨hG.1, hG.2.1, hG.2.2.1, hG.2.2.2⟩ hn hq246) rfl (by omega) (congrArg Prod.fst sh_73) rfl (Nat.le_of_ble_eq_true rfl) rfl ?_
                                                                              refine V_lc_eq (pc := 1383) (tgt := 1514) dL_law_1383 rfl dL_law_1384 (by decide) rfl (fun hc => ?_) (fun hc => ?_)
                                                                              · replace hf := (if_pos hc).symm.trans hf
                                                                                refine V_iinc (ls' := [some _, some _, some _, some _]) (pc := 1514) dL_law_1514 rfl (Nat.le_of_ble_eq_true rfl) (congrArg _ ic_6) rfl rfl ?_
                                                                                refine V_goto (pc := 1517) (tgt := 18) dL_law_1517 (by decide) ?_
                                                                                exact V_wk (ih _ _ _ _ _ _ _ _ _ ⟨hG.1, hG.2.1, hG.2.2.1, hG.2.2.2⟩ hf K) ⟨rfl, ⟨rfl, ⟨rfl, ⟨rfl, trivial⟩⟩⟩⟩
                                                                              · replace hf := (if_neg hc).symm.trans hf
                                                                                refine V_iconst (pc := 1387) dL_law_1387 ic_0 rfl ?_
                                                                                cases hf
                                                                                exact V_zretE (pc := 1388) dL_law_1388 rfl (show (0 : Int32) = b2i false from rfl) (K _ _ _ _ _ _ _)
                                                                            · replace hf := (if_neg hc242).symm.trans hf
                                                                              by_cases hc247 : ((sS y3.toNatClampNeg) &&& (63 : Int32)) = (36 : Int32)
                                                                              · replace hf := (if_pos hc247).symm.trans hf
                                                                                refine V_tsIn (pc := 33) (tgt := 1389) dL_law_33 (by rw [hc247]; decide) (by rw [hc247]; decide) (by rw [hc247]; first | done | rfl) (by decide) ?_
                                                                                refine V_aload_n (pc := 1389) dL_law_1389 rfl rfl rfl ?_
                                                                                refine V_aload_nX (pc := 1390) dL_law_1390 rfl rfl rfl ?_
                                                                                refine V_iload_n (pc := 1391) dL_law_1391 rfl rfl rfl ?_
                                                                                refine V_iconst (pc := 1392) dL_law_1392 ic_1 rfl ?_
                                                                                refine V_iadd (pc := 1393) dL_law_1393 rfl ?_
                                                                                obtain ⟨hc248, hf⟩ := pif hf
                                                                                refine V_sld (pc := 1394) dL_law_1394 hs hc248 rfl ?_
                                                                                obtain ⟨q249, hq249, hf⟩ := bnd hf
                                                                                refine V_cVi (md' := mX11_heights) (pc := 1395) dL_law_1395 mlL_170 mVX11_heights (tX11_heights ⟨hG.1, hG.2.1, hG.2.2.1, hG.2.2.2⟩ hn hq249) rfl (by omega) (congrArg Prod.fst sh_0) rfl (Nat.le_of_ble_eq_true rfl) rfl ?_
                                                                                refine V_aload_n (pc := 1398) dL_law_1398 rfl rfl rfl ?_
                                                                                refine V_aload_nX (pc := 1399) dL_law_1399 rfl rfl rfl ?_
                                                                                refine V_iload_n (pc := 1400) dL_law_1400 rfl rfl rfl ?_
                                                                                refine V_iconst (pc := 1401) dL_law_1401 ic_1 rfl ?_
                                                                                refine V_iadd (pc := 1402) dL_law_1402 rfl ?_
                                                                                obtain ⟨hc250, hf⟩ := pif hf
                                                                                refine V_sld (pc := 1403) dL_law_1403 hs hc250 rfl ?_
                                                                                obtain ⟨q251, hq251, hf⟩ := bnd hf
                                                                                refine V_cVi (md' := mX12_heights) (pc := 1404) dL_law_1404 mlL_173 mVX12_heights (tX12_heights ⟨hG.1, hG.2.1, hG.2.2.1, hG.2.2.2⟩ hn hq251) rfl (by omega) (congrArg Prod.fst sh_73) rfl (Nat.le_of_ble_eq_true rfl) rfl ?_
                                                                                refine V_icmp_eq (pc := 1407) (tgt := 1514) dL_law_1407 (by decide) rfl (fun hc => ?_) (fun hc => ?_)
                                                                                · replace hf := (if_pos hc).symm.trans hf
                                                                                  refine V_iinc (ls' := [some _, some _, some _, some _]) (pc := 1514) dL_law_1514 rfl (Nat.le_of_ble_eq_true rfl) (congrArg _ ic_6) rfl rfl ?_
                                                                                  refine V_goto (pc := 1517) (tgt := 18) dL_law_1517 (by decide) ?_
                                                                                  exact V_wk (ih _ _ _ _ _ _ _ _ _ ⟨hG.1, hG.2.1, hG.2.2.1, hG.2.2.2⟩ hf K) ⟨rfl, ⟨rfl, ⟨rfl, ⟨rfl, trivial⟩⟩⟩⟩
                                                                                · replace hf := (if_neg hc).symm.trans hf
                                                                                  refine V_iconst (pc := 1410) dL_law_1410 ic_0 rfl ?_
                                                                                  cases hf
                                                                                  exact V_zretE (pc := 1411) dL_law_1411 rfl (show (0 : Int32) = b2i false from rfl) (K _ _ _ _ _ _ _)
                                                                              · replace hf := (if_neg hc247).symm.trans hf
                                                                                by_cases hc252 : ((sS y3.toNatClampNeg) &&& (63 : Int32)) = (37 : Int32)
                                                                                · replace hf := (if_pos hc252).symm.trans hf
                                                                                  refine V_tsIn (pc := 33) (tgt := 1412) dL_law_33 (by rw [hc252]; decide) (by rw [hc252]; decide) (by rw [hc252]; first | done | rfl) (by decide) ?_
                                                                                  refine V_aload_n (pc := 1412) dL_law_1412 rfl rfl rfl ?_
                                                                                  refine V_aload_nX (pc := 1413) dL_law_1413 rfl rfl rfl ?_
                                                                                  refine V_iload_n (pc := 1414) dL_law_1414 rfl rfl rfl ?_
                                                                                  refine V_iconst (pc := 1415) dL_law_1415 ic_1 rfl ?_
                                                                                  refine V_iadd (pc := 1416) dL_law_1416 rfl ?_
                                                                                  obtain ⟨hc253, hf⟩ := pif hf
                                                                                  refine V_sld (pc := 1417) dL_law_1417 hs hc253 rfl ?_
                                                                                  refine V_aload_nX (pc := 1418) dL_law_1418 rfl rfl rfl ?_
                                                                                  refine V_iload_n (pc := 1419) dL_law_1419 rfl rfl rfl ?_
                                                                                  refine V_iconst (pc := 1420) dL_law_1420 ic_2 rfl ?_
                                                                                  refine V_iadd (pc := 1421) dL_law_1421 rfl ?_
                                                                                  obtain ⟨hc254, hf⟩ := pif hf
                                                                                  refine V_sld (pc := 1422) dL_law_1422 hs hc254 rfl ?_
                                                                                  obtain ⟨q255, hq255, hf⟩ := bnd hf
                                                                                  refine V_cVi (md' := mX11_ask) (pc := 1423) dL_law_1423 mlL_174 mVX11_ask (tX11_ask ⟨hG.1, hG.2.1, hG.2.2.1, hG.2.2.2⟩ hn hq255) rfl (by omega) (congrArg Prod.fst sh_0) rfl (Nat.le_of_ble_eq_true rfl) rfl ?_
                                                                                  refine V_aload_n (pc := 1426) dL_law_1426 rfl rfl rfl ?_
                                                                                  refine V_aload_nX (pc := 1427) dL_law_1427 rfl rfl rfl ?_
                                                                                  refine V_iload_n (pc := 1428) dL_law_1428 rfl rfl rfl ?_
                                                                                  refine V_iconst (pc := 1429) dL_law_1429 ic_1 rfl ?_
                                                                                  refine V_iadd (pc := 1430) dL_law_1430 rfl ?_
                                                                                  obtain ⟨hc256, hf⟩ := pif hf
                                                                                  refine V_sld (pc := 1431) dL_law_1431 hs hc256 rfl ?_
                                                                                  refine V_aload_nX (pc := 1432) dL_law_1432 rfl rfl rfl ?_
                                                                                  refine V_iload_n (pc := 1433) dL_law_1433 rfl rfl rfl ?_
                                                                                  refine V_iconst (pc := 1434) dL_law_1434 ic_2 rfl ?_
                                                                                  refine V_iadd (pc := 1435) dL_law_1435 rfl ?_
                                                                                  obtain ⟨hc257, hf⟩ := pif hf
                                                                                  refine V_sld (pc := 1436) dL_law_1436 hs hc257 rfl ?_
                                                                                  obtain ⟨q258, hq258, hf⟩ := bnd hf
                                                                                  refine V_cVi (md' := mX12_ask) (pc := 1437) dL_law_1437 mlL_177 mVX12_ask (tX12_ask ⟨hG.1, hG.2.1, hG.2.2.1, hG.2.2.2⟩ hn hq258) rfl (by omega) (congrArg Prod.fst sh_73) rfl (Nat.le_of_ble_eq_true rfl) rfl ?_
                                                                                  refine V_icmp_eq (pc := 1440) (tgt := 1514) dL_law_1440 (by decide) rfl (fun hc => ?_) (fun hc => ?_)
                                                                                  · replace hf := (if_pos hc).symm.trans hf
                                                                                    refine V_iinc (ls' := [some _, some _, some _, some _]) (pc := 1514) dL_law_1514 rfl (Nat.le_of_ble_eq_true rfl) (congrArg _ ic_6) rfl rfl ?_
                                                                                    refine V_goto (pc := 1517) (tgt := 18) dL_law_1517 (by decide) ?_
                                                                                    exact V_wk (ih _ _ _ _ _ _ _ _ _ ⟨hG.1, hG.2.1, hG.2.2.1, hG.2.2.2⟩ hf K) ⟨rfl, ⟨rfl, ⟨rfl, ⟨rfl, trivial⟩⟩⟩⟩
                                                                                  · replace hf := (if_neg hc).symm.trans hf
                                                                                    refine V_iconst (pc := 1443) dL_law_1443 ic_0 rfl ?_
                                                                                    cases hf
                                                                                    exact V_zretE (pc := 1444) dL_law_1444 rfl (show (0 : Int32) = b2i false from rfl) (K _ _ _ _ _ _ _)
                                                                                · replace hf := (if_neg hc252).symm.trans hf
                                                                                  by_cases hc259 : ((sS y3.toNatClampNeg) &&& (63 : Int32)) = (38 : Int32)
                                                                                  · replace hf := (if_pos hc259).symm.trans hf
                                                                                    refine V_tsIn (pc := 33) (tgt := 1445) dL_law_33 (by rw [hc259]; decide) (by rw [hc259]; decide) (by rw [hc259]; first | done | rfl) (by decide) ?_
                                                                                    refine V_aload_n (pc := 1445) dL_law_1445 rfl rfl rfl ?_
                                                                                    refine V_aload_nX (pc := 1446) dL_law_1446 rfl rfl rfl ?_
                                                                                    refine V_iload_n (pc := 1447) dL_law_1447 rfl rfl rfl ?_
                                                                                    refine V_iconst (pc := 1448) dL_law_1448 ic_1 rfl ?_
                                                                                    refine V_iadd (pc := 1449) dL_law_1449 rfl ?_
                                                                                    obtain ⟨hc260, hf⟩ := pif hf
                                                                                    refine V_sld (pc := 1450) dL_law_1450 hs hc260 rfl ?_
                                                                                    obtain ⟨q261, hq261, hf⟩ := bnd hf
                                                                                    refine V_cVi (md' := mX11_image) (pc := 1451) dL_law_1451 mlL_178 mVX11_image (tX11_image ⟨hG.1, hG.2.1, hG.2.2.1, hG.2.2.2⟩ hn hq261) rfl (by omega) (congrArg Prod.fst sh_0) rfl (Nat.le_of_ble_eq_true rfl) rfl ?_
                                                                                    refine V_aload_n (pc := 1454) dL_law_1454 rfl rfl rfl ?_
                                                                                    refine V_aload_nX (pc := 1455) dL_law_1455 rfl rfl rfl ?_
                                                                                    refine V_iload_n (pc := 1456) dL_law_1456 rfl rfl rfl ?_
                                                                                    refine V_iconst (pc := 1457) dL_law_1457 ic_1 rfl ?_
                                                                                    refine V_iadd (pc := 1458) dL_law_1458 rfl ?_
                                                                                    obtain ⟨hc262, hf⟩ := pif hf
                                                                                    refine V_sld (pc := 1459) dL_law_1459 hs hc262 rfl ?_
                                                                                    obtain ⟨q263, hq263, hf⟩ := bnd hf
                                                                                    refine V_cVi (md' := mX12_image) (pc := 1460) dL_law_1460 mlL_181 mVX12_image (tX12_image ⟨hG.1, hG.2.1, hG.2.2.1, hG.2.2.2⟩ hn hq263) rfl (by omega) (congrArg Prod.fst sh_73) rfl (Nat.le_of_ble_eq_true rfl) rfl ?_
                                                                                    refine V_icmp_eq (pc := 1463) (tgt := 1514) dL_law_1463 (by decide) rfl (fun hc => ?_) (fun hc => ?_)
                                                                                    · replace hf := (if_pos hc).symm.trans hf
                                                                                      refine V_iinc (ls' := [some _, some _, some _, some _]) (pc := 1514) dL_law_1514 rfl (Nat.le_of_ble_eq_true rfl) (congrArg _ ic_6) rfl rfl ?_
                                                                                      refine V_goto (pc := 1517) (tgt := 18) dL_law_1517 (by decide) ?_
                                                                                      exact V_wk (ih _ _ _ _ _ _ _ _ _ ⟨hG.1, hG.2.1, hG.2.2.1, hG.2.2.2⟩ hf K) ⟨rfl, ⟨rfl, ⟨rfl, ⟨rfl, trivial⟩⟩⟩⟩
                                                                                    · replace hf := (if_neg hc).symm.trans hf
                                                                                      refine V_iconst (pc := 1466) dL_law_1466 ic_0 rfl ?_
                                                                                      cases hf
                                                                                      exact V_zretE (pc := 1467) dL_law_1467 rfl (show (0 : Int32) = b2i false from rfl) (K _ _ _ _ _ _ _)
                                                                                  · replace hf := (if_neg hc259).symm.trans hf
                                                                                    by_cases hc264 : ((sS y3.toNatClampNeg) &&& (63 : Int32)) = (39 : Int32)
                                                                                    · replace hf := (if_pos hc264).symm.trans hf
                                                                                      refine V_tsIn (pc := 33) (tgt := 1468) dL_law_33 (by rw [hc264]; decide) (by rw [hc264]; decide) (by rw [hc264]; first | done | rfl) (by decide) ?_
                                                                                      refine V_aload_n (pc := 1468) dL_law_1468 rfl rfl rfl ?_
                                                                                      refine V_aload_nX (pc := 1469) dL_law_1469 rfl rfl rfl ?_
                                                                                      refine V_iload_n (pc := 1470) dL_law_1470 rfl rfl rfl ?_
                                                                                      refine V_iconst (pc := 1471) dL_law_1471 ic_1 rfl ?_
                                                                                      refine V_iadd (pc := 1472) dL_law_1472 rfl ?_
                                                                                      obtain ⟨hc265, hf⟩ := pif hf
                                                                                      refine V_sld (pc := 1473) dL_law_1473 hs hc265 rfl ?_
                                                                                      obtain ⟨q266, hq266, hf⟩ := bnd hf
                                                                                      refine V_cVi (md' := mX11_back) (pc := 1474) dL_law_1474 mlL_182 mVX11_back (tX11_back ⟨hG.1, hG.2.1, hG.2.2.1, hG.2.2.2⟩ hn hq266) rfl (by omega) (congrArg Prod.fst sh_0) rfl (Nat.le_of_ble_eq_true rfl) rfl ?_
                                                                                      refine V_aload_n (pc := 1477) dL_law_1477 rfl rfl rfl ?_
                                                                                      refine V_aload_nX (pc := 1478) dL_law_1478 rfl rfl rfl ?_
                                                                                      refine V_iload_n (pc := 1479) dL_law_1479 rfl rfl rfl ?_
                                                                                      refine V_iconst (pc := 1480) dL_law_1480 ic_1 rfl ?_
                                                                                      refine V_iadd (pc := 1481) dL_law_1481 rfl ?_
                                                                                      obtain ⟨hc267, hf⟩ := pif hf
                                                                                      refine V_sld (pc := 1482) dL_law_1482 hs hc267 rfl ?_
                                                                                      obtain ⟨q268, hq268, hf⟩ := bnd hf
                                                                                      refine V_cVi (md' := mX12_back) (pc := 1483) dL_law_1483 mlL_185 mVX12_back (tX12_back ⟨hG.1, hG.2.1, hG.2.2.1, hG.2.2.2⟩ hn hq268) rfl (by omega) (congrArg Prod.fst sh_73) rfl (Nat.le_of_ble_eq_true rfl) rfl ?_
                                                                                      refine V_icmp_eq (pc := 1486) (tgt := 1514) dL_law_1486 (by decide) rfl (fun hc => ?_) (fun hc => ?_)
                                                                                      · replace hf := (if_pos hc).symm.trans hf
                                                                                        refine V_iinc (ls' := [some _, some _, some _, some _]) (pc := 1514) dL_law_1514 rfl (Nat.le_of_ble_eq_true rfl) (congrArg _ ic_6) rfl rfl ?_
                                                                                        refine V_goto (pc := 1517) (tgt := 18) dL_law_1517 (by decide) ?_
                                                                                        exact V_wk (ih _ _ _ _ _ _ _ _ _ ⟨hG.1, hG.2.1, hG.2.2.1, hG.2.2.2⟩ hf K) ⟨rfl, ⟨rfl, ⟨rfl, ⟨rfl, trivial⟩⟩⟩⟩
                                                                                      · replace hf := (if_neg hc).symm.trans hf
                                                                                        refine V_iconst (pc := 1489) dL_law_1489 ic_0 rfl ?_
                                                                                        cases hf
                                                                                        exact V_zretE (pc := 1490) dL_law_1490 rfl (show (0 : Int32) = b2i false from rfl) (K _ _ _ _ _ _ _)
                                                                                    · replace hf := (if_neg hc264).symm.trans hf
                                                                                      by_cases hc269 : ((sS y3.toNatClampNeg) &&& (63 : Int32)) = (40 : Int32)
                                                                                      · replace hf := (if_pos hc269).symm.trans hf
                                                                                        refine V_tsIn (pc := 33) (tgt := 1491) dL_law_33 (by rw [hc269]; decide) (by rw [hc269]; decide) (by rw [hc269]; first | done | rfl) (by decide) ?_
                                                                                        refine V_aload_n (pc := 1491) dL_law_1491 rfl rfl rfl ?_
                                                                                        refine V_aload_nX (pc := 1492) dL_law_1492 rfl rfl rfl ?_
                                                                                        refine V_iload_n (pc := 1493) dL_law_1493 rfl rfl rfl ?_
                                                                                        refine V_iconst (pc := 1494) dL_law_1494 ic_1 rfl ?_
                                                                                        refine V_iadd (pc := 1495) dL_law_1495 rfl ?_
                                                                                        obtain ⟨hc270, hf⟩ := pif hf
                                                                                        refine V_sld (pc := 1496) dL_law_1496 hs hc270 rfl ?_
                                                                                        refine V_cVi (md' := mX11_about) (pc := 1497) dL_law_1497 mlL_186 mVX11_about (tX11_about ⟨hG.1, hG.2.1, hG.2.2.1, hG.2.2.2⟩ hn rfl) rfl (by omega) (congrArg Prod.fst sh_0) rfl (Nat.le_of_ble_eq_true rfl) rfl ?_
                                                                                        refine V_aload_n (pc := 1500) dL_law_1500 rfl rfl rfl ?_
                                                                                        refine V_aload_nX (pc := 1501) dL_law_1501 rfl rfl rfl ?_
                                                                                        refine V_iload_n (pc := 1502) dL_law_1502 rfl rfl rfl ?_
                                                                                        refine V_iconst (pc := 1503) dL_law_1503 ic_1 rfl ?_
                                                                                        refine V_iadd (pc := 1504) dL_law_1504 rfl ?_
                                                                                        obtain ⟨hc271, hf⟩ := pif hf
                                                                                        refine V_sld (pc := 1505) dL_law_1505 hs hc271 rfl ?_
                                                                                        obtain ⟨q272, hq272, hf⟩ := bnd hf
                                                                                        refine V_cVi (md' := mX12_about) (pc := 1506) dL_law_1506 mlL_189 mVX12_about (tX12_about ⟨hG.1, hG.2.1, hG.2.2.1, hG.2.2.2⟩ hn hq272) rfl (by omega) (congrArg Prod.fst sh_73) rfl (Nat.le_of_ble_eq_true rfl) rfl ?_
                                                                                        refine V_icmp_eq (pc := 1509) (tgt := 1514) dL_law_1509 (by decide) rfl (fun hc => ?_) (fun hc => ?_)
                                                                                        · replace hf := (if_pos hc).symm.trans hf
                                                                                          refine V_iinc (ls' := [some _, some _, some _, some _]) (pc := 1514) dL_law_1514 rfl (Nat.le_of_ble_eq_true rfl) (congrArg _ ic_6) rfl rfl ?_
                                                                                          refine V_goto (pc := 1517) (tgt := 18) dL_law_1517 (by decide) ?_
                                                                                          exact V_wk (ih _ _ _ _ _ _ _ _ _ ⟨hG.1, hG.2.1, hG.2.2.1, hG.2.2.2⟩ hf K) ⟨rfl, ⟨rfl, ⟨rfl, ⟨rfl, trivial⟩⟩⟩⟩
                                                                                        · replace hf := (if_neg hc).symm.trans hf
                                                                                          refine V_iconst (pc := 1512) dL_law_1512 ic_0 rfl ?_
                                                                                          cases hf
                                                                                          exact V_zretE (pc := 1513) dL_law_1513 rfl (show (0 : Int32) = b2i false from rfl) (K _ _ _ _ _ _ _)
                                                                                      · replace hf := (if_neg hc269).symm.trans hf
                                                                                        have KD273 : V g mL_law (d + 173) 0 0 n (RT ztw zdr zsk ztl zff) I L 1514 [some (.retAddr 4), some (.ref 0), some (.ref 73), some (.int y3)] [] P := by
                                                                                          refine V_iinc (ls' := [some _, some _, some _, some _]) (pc := 1514) dL_law_1514 rfl (Nat.le_of_ble_eq_true rfl) (congrArg _ ic_6) rfl rfl ?_
                                                                                          refine V_goto (pc := 1517) (tgt := 18) dL_law_1517 (by decide) ?_
                                                                                          exact V_wk (ih _ _ _ _ _ _ _ _ _ ⟨hG.1, hG.2.1, hG.2.2.1, hG.2.2.2⟩ hf K) ⟨rfl, ⟨rfl, ⟨rfl, ⟨rfl, trivial⟩⟩⟩⟩
                                                                                        refine V_tsOut (pc := 33) (tgt := 1514) dL_law_33 (by have e0 := swn (k := (0 : Int32)) (z := 0) hc2 rfl; have e1 := swn (k := (1 : Int32)) (z := 1) hc15 rfl; have e2 := swn (k := (2 : Int32)) (z := 2) hc20 rfl; have e3 := swn (k := (3 : Int32)) (z := 3) hc24 rfl; have e4 := swn (k := (4 : Int32)) (z := 4) hc27 rfl; have e5 := swn (k := (5 : Int32)) (z := 5) hc34 rfl; have e6 := swn (k := (6 : Int32)) (z := 6) hc41 rfl; have e7 := swn (k := (7 : Int32)) (z := 7) hc48 rfl; have e8 := swn (k := (8 : Int32)) (z := 8) hc55 rfl; have e9 := swn (k := (9 : Int32)) (z := 9) hc62 rfl; have e10 := swn (k := (10 : Int32)) (z := 10) hc71 rfl; have e11 := swn (k := (11 : Int32)) (z := 11) hc78 rfl; have e12 := swn (k := (12 : Int32)) (z := 12) hc85 rfl; have e13 := swn (k := (13 : Int32)) (z := 13) hc88 rfl; have e14 := swn (k := (14 : Int32)) (z := 14) hc93 rfl; have e15 := swn (k := (15 : Int32)) (z := 15) hc98 rfl; have e16 := swn (k := (16 : Int32)) (z := 16) hc101 rfl; have e17 := swn (k := (17 : Int32)) (z := 17) hc104 rfl; have e18 := swn (k := (18 : Int32)) (z := 18) hc107 rfl; have e19 := swn (k := (19 : Int32)) (z := 19) hc114 rfl; have e20 := swn (k := (20 : Int32)) (z := 20) hc121 rfl; have e21 := swn (k := (21 : Int32)) (z := 21) hc130 rfl; have e22 := swn (k := (22 : Int32)) (z := 22) hc137 rfl; have e23 := swn (k := (23 : Int32)) (z := 23) hc144 rfl; have e24 := swn (k := (24 : Int32)) (z := 24) hc153 rfl; have e25 := swn (k := (25 : Int32)) (z := 25) hc158 rfl; have e26 := swn (k := (26 : Int32)) (z := 26) hc167 rfl; have e27 := swn (k := (27 : Int32)) (z := 27) hc178 rfl; have e28 := swn (k := (28 : Int32)) (z := 28) hc189 rfl; have e29 := swn (k := (29 : Int32)) (z := 29) hc200 rfl; have e30 := swn (k := (30 : Int32)) (z := 30) hc211 rfl; have e31 := swn (k := (31 : Int32)) (z := 31) hc216 rfl; have e32 := swn (k := (32 : Int32)) (z := 32) hc227 rfl; have e33 := swn (k := (33 : Int32)) (z := 33) hc232 rfl; have e34 := swn (k := (34 : Int32)) (z := 34) hc237 rfl; have e35 := swn (k := (35 : Int32)) (z := 35) hc242 rfl; have e36 := swn (k := (36 : Int32)) (z := 36) hc247 rfl; have e37 := swn (k := (37 : Int32)) (z := 37) hc252 rfl; have e38 := swn (k := (38 : Int32)) (z := 38) hc259 rfl; have e39 := swn (k := (39 : Int32)) (z := 39) hc264 rfl; have e40 := swn (k := (40 : Int32)) (z := 40) hc269 rfl; omega) (by decide) KD273
