/-! ===== part 26: mirrors and what they say (written by wip/whole/mir.py) ===== -/
def w_law_L18 (X : Nat × (Nat → Int32)) : Nat → Int32 → I_M → Option (Int32 × I_M)
  | 0, _, _ => none
  | n + 1, l3, M =>
    (if ((Int32.ofNat X.1) - (6 : Int32)) < l3 then
        some ((1 : Int32), M)
      else
        i_g l3 X.1 ((if ((X.2 (Int32.toNatClampNeg l3)) &&& (63 : Int32)) = (0 : Int32) then
          i_g (l3 + (1 : Int32)) X.1 (Option.bind (b_land (X.2 (Int32.toNatClampNeg (l3 + (1 : Int32)))) M) (fun q5 => Option.bind (r_land (X.2 (Int32.toNatClampNeg (l3 + (1 : Int32)))) q5.2) (fun q6 => (if q5.1 = q6.1 then
            (w_law_L18 X n) (l3 + (6 : Int32)) q6.2
          else
            some ((0 : Int32), q6.2)))))
        else
          (if ((X.2 (Int32.toNatClampNeg l3)) &&& (63 : Int32)) = (1 : Int32) then
            i_g (l3 + (1 : Int32)) X.1 (i_g (l3 + (2 : Int32)) X.1 (Option.bind (b_bell (X.2 (Int32.toNatClampNeg (l3 + (1 : Int32)))) (X.2 (Int32.toNatClampNeg (l3 + (2 : Int32)))) M) (fun q11 => Option.bind (r_bell (X.2 (Int32.toNatClampNeg (l3 + (1 : Int32)))) (X.2 (Int32.toNatClampNeg (l3 + (2 : Int32)))) q11.2) (fun q12 => (if q11.1 = q12.1 then
              (w_law_L18 X n) (l3 + (6 : Int32)) q12.2
            else
              some ((0 : Int32), q12.2))))))
          else
            (if ((X.2 (Int32.toNatClampNeg l3)) &&& (63 : Int32)) = (2 : Int32) then
              i_g (l3 + (1 : Int32)) X.1 (i_g (l3 + (2 : Int32)) X.1 (i_g (l3 + (3 : Int32)) X.1 (Option.bind (b_bells (X.2 (Int32.toNatClampNeg (l3 + (1 : Int32)))) (X.2 (Int32.toNatClampNeg (l3 + (2 : Int32)))) (X.2 (Int32.toNatClampNeg (l3 + (3 : Int32)))) M) (fun q18 => Option.bind (r_bells (X.2 (Int32.toNatClampNeg (l3 + (1 : Int32)))) (X.2 (Int32.toNatClampNeg (l3 + (2 : Int32)))) (X.2 (Int32.toNatClampNeg (l3 + (3 : Int32)))) q18.2) (fun q19 => (if q18.1 = q19.1 then
                (w_law_L18 X n) (l3 + (6 : Int32)) q19.2
              else
                some ((0 : Int32), q19.2)))))))
            else
              (if ((X.2 (Int32.toNatClampNeg l3)) &&& (63 : Int32)) = (3 : Int32) then
                i_g (l3 + (1 : Int32)) X.1 (i_g (l3 + (2 : Int32)) X.1 (i_g (l3 + (3 : Int32)) X.1 (Option.bind (b_mend (X.2 (Int32.toNatClampNeg (l3 + (1 : Int32)))) (X.2 (Int32.toNatClampNeg (l3 + (2 : Int32)))) (X.2 (Int32.toNatClampNeg (l3 + (3 : Int32)))) M) (fun q25 => Option.bind (r_mend (X.2 (Int32.toNatClampNeg (l3 + (1 : Int32)))) (X.2 (Int32.toNatClampNeg (l3 + (2 : Int32)))) (X.2 (Int32.toNatClampNeg (l3 + (3 : Int32)))) q25.2) (fun q26 => (if q25.1 = q26.1 then
                  (w_law_L18 X n) (l3 + (6 : Int32)) q26.2
                else
                  some ((0 : Int32), q26.2)))))))
              else
                (if ((X.2 (Int32.toNatClampNeg l3)) &&& (63 : Int32)) = (4 : Int32) then
                  i_g (l3 + (1 : Int32)) X.1 (i_g (l3 + (2 : Int32)) X.1 (Option.bind (b_of (X.2 (Int32.toNatClampNeg (l3 + (1 : Int32)))) (X.2 (Int32.toNatClampNeg (l3 + (2 : Int32)))) M) (fun q31 => Option.bind (r_of (X.2 (Int32.toNatClampNeg (l3 + (1 : Int32)))) (X.2 (Int32.toNatClampNeg (l3 + (2 : Int32)))) q31.2) (fun q32 => (if q31.1 = q32.1 then
                    (w_law_L18 X n) (l3 + (6 : Int32)) q32.2
                  else
                    some ((0 : Int32), q32.2))))))
                else
                  (if ((X.2 (Int32.toNatClampNeg l3)) &&& (63 : Int32)) = (5 : Int32) then
                    i_g (l3 + (1 : Int32)) X.1 (Option.bind (b_feed (X.2 (Int32.toNatClampNeg (l3 + (1 : Int32)))) M) (fun q36 => Option.bind (r_feed (X.2 (Int32.toNatClampNeg (l3 + (1 : Int32)))) q36.2) (fun q37 => (if q36.1 = q37.1 then
                      (w_law_L18 X n) (l3 + (6 : Int32)) q37.2
                    else
                      some ((0 : Int32), q37.2)))))
                  else
                    (if ((X.2 (Int32.toNatClampNeg l3)) &&& (63 : Int32)) = (6 : Int32) then
                      Option.bind (b_law M) (fun q40 => Option.bind (r_law q40.2) (fun q41 => (if q40.1 = q41.1 then
                        (w_law_L18 X n) (l3 + (6 : Int32)) q41.2
                      else
                        some ((0 : Int32), q41.2))))
                    else
                      (if ((X.2 (Int32.toNatClampNeg l3)) &&& (63 : Int32)) = (7 : Int32) then
                        i_g (l3 + (1 : Int32)) X.1 (i_g (l3 + (2 : Int32)) X.1 (i_g (l3 + (3 : Int32)) X.1 (Option.bind (b_hum (X.2 (Int32.toNatClampNeg (l3 + (1 : Int32)))) (X.2 (Int32.toNatClampNeg (l3 + (2 : Int32)))) (X.2 (Int32.toNatClampNeg (l3 + (3 : Int32)))) M) (fun q47 => Option.bind (r_hum (X.2 (Int32.toNatClampNeg (l3 + (1 : Int32)))) (X.2 (Int32.toNatClampNeg (l3 + (2 : Int32)))) (X.2 (Int32.toNatClampNeg (l3 + (3 : Int32)))) q47.2) (fun q48 => (if q47.1 = q48.1 then
                          (w_law_L18 X n) (l3 + (6 : Int32)) q48.2
                        else
                          some ((0 : Int32), q48.2)))))))
                      else
                        (if ((X.2 (Int32.toNatClampNeg l3)) &&& (63 : Int32)) = (8 : Int32) then
                          i_g (l3 + (1 : Int32)) X.1 (i_g (l3 + (2 : Int32)) X.1 (Option.bind (b_heard (X.2 (Int32.toNatClampNeg (l3 + (1 : Int32)))) (X.2 (Int32.toNatClampNeg (l3 + (2 : Int32)))) M) (fun q53 => Option.bind (r_heard (X.2 (Int32.toNatClampNeg (l3 + (1 : Int32)))) (X.2 (Int32.toNatClampNeg (l3 + (2 : Int32)))) q53.2) (fun q54 => (if q53.1 = q54.1 then
                            (w_law_L18 X n) (l3 + (6 : Int32)) q54.2
                          else
                            some ((0 : Int32), q54.2))))))
                        else
                          (if ((X.2 (Int32.toNatClampNeg l3)) &&& (63 : Int32)) = (9 : Int32) then
                            i_g (l3 + (1 : Int32)) X.1 (i_g (l3 + (2 : Int32)) X.1 (i_g (l3 + (3 : Int32)) X.1 (Option.bind (b_hearing (X.2 (Int32.toNatClampNeg (l3 + (1 : Int32)))) (X.2 (Int32.toNatClampNeg (l3 + (2 : Int32)))) (X.2 (Int32.toNatClampNeg (l3 + (3 : Int32)))) M) (fun q60 => Option.bind (r_hearing (X.2 (Int32.toNatClampNeg (l3 + (1 : Int32)))) (X.2 (Int32.toNatClampNeg (l3 + (2 : Int32)))) (X.2 (Int32.toNatClampNeg (l3 + (3 : Int32)))) q60.2) (fun q61 => (if q60.1 = q61.1 then
                              (w_law_L18 X n) (l3 + (6 : Int32)) q61.2
                            else
                              some ((0 : Int32), q61.2)))))))
                          else
                            (if ((X.2 (Int32.toNatClampNeg l3)) &&& (63 : Int32)) = (10 : Int32) then
                              Option.bind (b_forget M) (fun q64 => Option.bind (r_forget q64.2) (fun q65 => (if q64.1 = q65.1 then
                                (w_law_L18 X n) (l3 + (6 : Int32)) q65.2
                              else
                                some ((0 : Int32), q65.2))))
                            else
                              (if ((X.2 (Int32.toNatClampNeg l3)) &&& (63 : Int32)) = (11 : Int32) then
                                i_g (l3 + (1 : Int32)) X.1 (i_g (l3 + (2 : Int32)) X.1 (Option.bind (b_ways (X.2 (Int32.toNatClampNeg (l3 + (1 : Int32)))) (X.2 (Int32.toNatClampNeg (l3 + (2 : Int32)))) M) (fun q70 => Option.bind (r_ways (X.2 (Int32.toNatClampNeg (l3 + (1 : Int32)))) (X.2 (Int32.toNatClampNeg (l3 + (2 : Int32)))) q70.2) (fun q71 => (if q70.1 = q71.1 then
                                  (w_law_L18 X n) (l3 + (6 : Int32)) q71.2
                                else
                                  some ((0 : Int32), q71.2))))))
                              else
                                (if ((X.2 (Int32.toNatClampNeg l3)) &&& (63 : Int32)) = (12 : Int32) then
                                  i_g (l3 + (1 : Int32)) X.1 (i_g (l3 + (2 : Int32)) X.1 (Option.bind (b_sure (X.2 (Int32.toNatClampNeg (l3 + (1 : Int32)))) (X.2 (Int32.toNatClampNeg (l3 + (2 : Int32)))) M) (fun q76 => Option.bind (r_sure (X.2 (Int32.toNatClampNeg (l3 + (1 : Int32)))) (X.2 (Int32.toNatClampNeg (l3 + (2 : Int32)))) q76.2) (fun q77 => (if q76.1 = q77.1 then
                                    (w_law_L18 X n) (l3 + (6 : Int32)) q77.2
                                  else
                                    some ((0 : Int32), q77.2))))))
                                else
                                  (if ((X.2 (Int32.toNatClampNeg l3)) &&& (63 : Int32)) = (13 : Int32) then
                                    i_g (l3 + (1 : Int32)) X.1 (i_g (l3 + (2 : Int32)) X.1 (i_g (l3 + (3 : Int32)) X.1 (Option.bind (b_chance (X.2 (Int32.toNatClampNeg (l3 + (1 : Int32)))) (X.2 (Int32.toNatClampNeg (l3 + (2 : Int32)))) (X.2 (Int32.toNatClampNeg (l3 + (3 : Int32)))) M) (fun q83 => Option.bind (r_chance (X.2 (Int32.toNatClampNeg (l3 + (1 : Int32)))) (X.2 (Int32.toNatClampNeg (l3 + (2 : Int32)))) (X.2 (Int32.toNatClampNeg (l3 + (3 : Int32)))) q83.2) (fun q84 => (if q83.1 = q84.1 then
                                      (w_law_L18 X n) (l3 + (6 : Int32)) q84.2
                                    else
                                      some ((0 : Int32), q84.2)))))))
                                  else
                                    (if ((X.2 (Int32.toNatClampNeg l3)) &&& (63 : Int32)) = (14 : Int32) then
                                      i_g (l3 + (1 : Int32)) X.1 (Option.bind (b_dig (X.2 (Int32.toNatClampNeg (l3 + (1 : Int32)))) M) (fun q88 => Option.bind (r_dig (X.2 (Int32.toNatClampNeg (l3 + (1 : Int32)))) q88.2) (fun q89 => (if q88.1 = q89.1 then
                                        (w_law_L18 X n) (l3 + (6 : Int32)) q89.2
                                      else
                                        some ((0 : Int32), q89.2)))))
                                    else
                                      (if ((X.2 (Int32.toNatClampNeg l3)) &&& (63 : Int32)) = (15 : Int32) then
                                        i_g (l3 + (1 : Int32)) X.1 (i_g (l3 + (2 : Int32)) X.1 (Option.bind (b_next (X.2 (Int32.toNatClampNeg (l3 + (1 : Int32)))) (X.2 (Int32.toNatClampNeg (l3 + (2 : Int32)))) M) (fun q94 => Option.bind (r_next (X.2 (Int32.toNatClampNeg (l3 + (1 : Int32)))) (X.2 (Int32.toNatClampNeg (l3 + (2 : Int32)))) q94.2) (fun q95 => (if q94.1 = q95.1 then
                                          (w_law_L18 X n) (l3 + (6 : Int32)) q95.2
                                        else
                                          some ((0 : Int32), q95.2))))))
                                      else
                                        (if ((X.2 (Int32.toNatClampNeg l3)) &&& (63 : Int32)) = (16 : Int32) then
                                          i_g (l3 + (1 : Int32)) X.1 (i_g (l3 + (2 : Int32)) X.1 (Option.bind (b_told (X.2 (Int32.toNatClampNeg (l3 + (1 : Int32)))) (X.2 (Int32.toNatClampNeg (l3 + (2 : Int32)))) M) (fun q100 => Option.bind (r_told (X.2 (Int32.toNatClampNeg (l3 + (1 : Int32)))) (X.2 (Int32.toNatClampNeg (l3 + (2 : Int32)))) q100.2) (fun q101 => (if q100.1 = q101.1 then
                                            (w_law_L18 X n) (l3 + (6 : Int32)) q101.2
                                          else
                                            some ((0 : Int32), q101.2))))))
                                        else
                                          (if ((X.2 (Int32.toNatClampNeg l3)) &&& (63 : Int32)) = (17 : Int32) then
                                            i_g (l3 + (1 : Int32)) X.1 (Option.bind (b_liars (X.2 (Int32.toNatClampNeg (l3 + (1 : Int32)))) M) (fun q105 => Option.bind (r_liars (X.2 (Int32.toNatClampNeg (l3 + (1 : Int32)))) q105.2) (fun q106 => (if q105.1 = q106.1 then
                                              (w_law_L18 X n) (l3 + (6 : Int32)) q106.2
                                            else
                                              some ((0 : Int32), q106.2)))))
                                          else
                                            (if ((X.2 (Int32.toNatClampNeg l3)) &&& (63 : Int32)) = (18 : Int32) then
                                              i_g (l3 + (1 : Int32)) X.1 (Option.bind (b_shows (X.2 (Int32.toNatClampNeg (l3 + (1 : Int32)))) M) (fun q110 => Option.bind (r_shows (X.2 (Int32.toNatClampNeg (l3 + (1 : Int32)))) q110.2) (fun q111 => (if q110.1 = q111.1 then
                                                (w_law_L18 X n) (l3 + (6 : Int32)) q111.2
                                              else
                                                some ((0 : Int32), q111.2)))))
                                            else
                                              (if ((X.2 (Int32.toNatClampNeg l3)) &&& (63 : Int32)) = (19 : Int32) then
                                                i_g (l3 + (1 : Int32)) X.1 (Option.bind (b_chain (X.2 (Int32.toNatClampNeg (l3 + (1 : Int32)))) M) (fun q115 => Option.bind (r_chain (X.2 (Int32.toNatClampNeg (l3 + (1 : Int32)))) q115.2) (fun q116 => (if q115.1 = q116.1 then
                                                  (w_law_L18 X n) (l3 + (6 : Int32)) q116.2
                                                else
                                                  some ((0 : Int32), q116.2)))))
                                              else
                                                (if ((X.2 (Int32.toNatClampNeg l3)) &&& (63 : Int32)) = (20 : Int32) then
                                                  i_g (l3 + (1 : Int32)) X.1 (i_g (l3 + (2 : Int32)) X.1 (Option.bind (b_strikes (X.2 (Int32.toNatClampNeg (l3 + (1 : Int32)))) (X.2 (Int32.toNatClampNeg (l3 + (2 : Int32)))) M) (fun q121 => Option.bind (r_strikes (X.2 (Int32.toNatClampNeg (l3 + (1 : Int32)))) (X.2 (Int32.toNatClampNeg (l3 + (2 : Int32)))) q121.2) (fun q122 => (if q121.1 = q122.1 then
                                                    (w_law_L18 X n) (l3 + (6 : Int32)) q122.2
                                                  else
                                                    some ((0 : Int32), q122.2))))))
                                                else
                                                  (if ((X.2 (Int32.toNatClampNeg l3)) &&& (63 : Int32)) = (21 : Int32) then
                                                    Option.bind (b_source M) (fun q125 => Option.bind (r_source q125.2) (fun q126 => (if q125.1 = q126.1 then
                                                      (w_law_L18 X n) (l3 + (6 : Int32)) q126.2
                                                    else
                                                      some ((0 : Int32), q126.2))))
                                                  else
                                                    (if ((X.2 (Int32.toNatClampNeg l3)) &&& (63 : Int32)) = (22 : Int32) then
                                                      i_g (l3 + (1 : Int32)) X.1 (i_g (l3 + (2 : Int32)) X.1 (Option.bind (b_tune (X.2 (Int32.toNatClampNeg (l3 + (1 : Int32)))) (X.2 (Int32.toNatClampNeg (l3 + (2 : Int32)))) M) (fun q131 => Option.bind (r_tune (X.2 (Int32.toNatClampNeg (l3 + (1 : Int32)))) (X.2 (Int32.toNatClampNeg (l3 + (2 : Int32)))) q131.2) (fun q132 => (if q131.1 = q132.1 then
                                                        (w_law_L18 X n) (l3 + (6 : Int32)) q132.2
                                                      else
                                                        some ((0 : Int32), q132.2))))))
                                                    else
                                                      (if ((X.2 (Int32.toNatClampNeg l3)) &&& (63 : Int32)) = (23 : Int32) then
                                                        i_g (l3 + (1 : Int32)) X.1 (i_g (l3 + (2 : Int32)) X.1 (Option.bind (b_whose (X.2 (Int32.toNatClampNeg (l3 + (1 : Int32)))) (X.2 (Int32.toNatClampNeg (l3 + (2 : Int32)))) M) (fun q137 => Option.bind (r_whose (X.2 (Int32.toNatClampNeg (l3 + (1 : Int32)))) (X.2 (Int32.toNatClampNeg (l3 + (2 : Int32)))) q137.2) (fun q138 => (if q137.1 = q138.1 then
                                                          (w_law_L18 X n) (l3 + (6 : Int32)) q138.2
                                                        else
                                                          some ((0 : Int32), q138.2))))))
                                                      else
                                                        (if ((X.2 (Int32.toNatClampNeg l3)) &&& (63 : Int32)) = (24 : Int32) then
                                                          i_g (l3 + (1 : Int32)) X.1 (i_g (l3 + (2 : Int32)) X.1 (Option.bind (b_years (X.2 (Int32.toNatClampNeg (l3 + (1 : Int32)))) (X.2 (Int32.toNatClampNeg (l3 + (2 : Int32)))) M) (fun q143 => Option.bind (r_years (X.2 (Int32.toNatClampNeg (l3 + (1 : Int32)))) (X.2 (Int32.toNatClampNeg (l3 + (2 : Int32)))) q143.2) (fun q144 => (if q143.1 = q144.1 then
                                                            (w_law_L18 X n) (l3 + (6 : Int32)) q144.2
                                                          else
                                                            some ((0 : Int32), q144.2))))))
                                                        else
                                                          (if ((X.2 (Int32.toNatClampNeg l3)) &&& (63 : Int32)) = (25 : Int32) then
                                                            i_g (l3 + (1 : Int32)) X.1 (i_g (l3 + (2 : Int32)) X.1 (Option.bind (b_dug (X.2 (Int32.toNatClampNeg (l3 + (1 : Int32)))) (X.2 (Int32.toNatClampNeg (l3 + (2 : Int32)))) M) (fun q149 => Option.bind (r_dug (X.2 (Int32.toNatClampNeg (l3 + (1 : Int32)))) (X.2 (Int32.toNatClampNeg (l3 + (2 : Int32)))) q149.2) (fun q150 => (if q149.1 = q150.1 then
                                                              (w_law_L18 X n) (l3 + (6 : Int32)) q150.2
                                                            else
                                                              some ((0 : Int32), q150.2))))))
                                                          else
                                                            (if ((X.2 (Int32.toNatClampNeg l3)) &&& (63 : Int32)) = (26 : Int32) then
                                                              i_g (l3 + (1 : Int32)) X.1 (Option.bind (b_judge (X.2 (Int32.toNatClampNeg (l3 + (1 : Int32)))) M) (fun q154 => Option.bind (r_judge (X.2 (Int32.toNatClampNeg (l3 + (1 : Int32)))) q154.2) (fun q155 => (if q154.1 = q155.1 then
                                                                (w_law_L18 X n) (l3 + (6 : Int32)) q155.2
                                                              else
                                                                some ((0 : Int32), q155.2)))))
                                                            else
                                                              (if ((X.2 (Int32.toNatClampNeg l3)) &&& (63 : Int32)) = (27 : Int32) then
                                                                Option.bind (b_image M) (fun q158 => Option.bind (r_image q158.2) (fun q159 => (if q158.1 = q159.1 then
                                                                  (w_law_L18 X n) (l3 + (6 : Int32)) q159.2
                                                                else
                                                                  some ((0 : Int32), q159.2))))
                                                              else
                                                                (if ((X.2 (Int32.toNatClampNeg l3)) &&& (63 : Int32)) = (28 : Int32) then
                                                                  Option.bind (b_back M) (fun q162 => Option.bind (r_back q162.2) (fun q163 => (if q162.1 = q163.1 then
                                                                    (w_law_L18 X n) (l3 + (6 : Int32)) q163.2
                                                                  else
                                                                    some ((0 : Int32), q163.2))))
                                                                else
                                                                  (if ((X.2 (Int32.toNatClampNeg l3)) &&& (63 : Int32)) = (29 : Int32) then
                                                                    Option.bind (b_undo M) (fun q166 => Option.bind (r_undo q166.2) (fun q167 => (if q166.1 = q167.1 then
                                                                      (w_law_L18 X n) (l3 + (6 : Int32)) q167.2
                                                                    else
                                                                      some ((0 : Int32), q167.2))))
                                                                  else
                                                                    (if ((X.2 (Int32.toNatClampNeg l3)) &&& (63 : Int32)) = (30 : Int32) then
                                                                      Option.bind (b_redo M) (fun q170 => Option.bind (r_redo q170.2) (fun q171 => (if q170.1 = q171.1 then
                                                                        (w_law_L18 X n) (l3 + (6 : Int32)) q171.2
                                                                      else
                                                                        some ((0 : Int32), q171.2))))
                                                                    else
                                                                      (if ((X.2 (Int32.toNatClampNeg l3)) &&& (63 : Int32)) = (31 : Int32) then
                                                                        i_g (l3 + (1 : Int32)) X.1 (Option.bind (b_body (X.2 (Int32.toNatClampNeg (l3 + (1 : Int32)))) M) (fun q175 => Option.bind (r_body (X.2 (Int32.toNatClampNeg (l3 + (1 : Int32)))) q175.2) (fun q176 => (if q175.1 = q176.1 then
                                                                          (w_law_L18 X n) (l3 + (6 : Int32)) q176.2
                                                                        else
                                                                          some ((0 : Int32), q176.2)))))
                                                                      else
                                                                        (if ((X.2 (Int32.toNatClampNeg l3)) &&& (63 : Int32)) = (32 : Int32) then
                                                                          i_g (l3 + (1 : Int32)) X.1 (i_g (l3 + (2 : Int32)) X.1 (i_g (l3 + (3 : Int32)) X.1 (Option.bind (b_act (X.2 (Int32.toNatClampNeg (l3 + (1 : Int32)))) (X.2 (Int32.toNatClampNeg (l3 + (2 : Int32)))) (X.2 (Int32.toNatClampNeg (l3 + (3 : Int32)))) M) (fun q182 => Option.bind (r_act (X.2 (Int32.toNatClampNeg (l3 + (1 : Int32)))) (X.2 (Int32.toNatClampNeg (l3 + (2 : Int32)))) (X.2 (Int32.toNatClampNeg (l3 + (3 : Int32)))) q182.2) (fun q183 => (if q182.1 = q183.1 then
                                                                            (w_law_L18 X n) (l3 + (6 : Int32)) q183.2
                                                                          else
                                                                            some ((0 : Int32), q183.2)))))))
                                                                        else
                                                                          (if ((X.2 (Int32.toNatClampNeg l3)) &&& (63 : Int32)) = (33 : Int32) then
                                                                            i_g (l3 + (1 : Int32)) X.1 (Option.bind (b_trace (X.2 (Int32.toNatClampNeg (l3 + (1 : Int32)))) M) (fun q187 => Option.bind (r_trace (X.2 (Int32.toNatClampNeg (l3 + (1 : Int32)))) q187.2) (fun q188 => (if q187.1 = q188.1 then
                                                                              (w_law_L18 X n) (l3 + (6 : Int32)) q188.2
                                                                            else
                                                                              some ((0 : Int32), q188.2)))))
                                                                          else
                                                                            (if ((X.2 (Int32.toNatClampNeg l3)) &&& (63 : Int32)) = (34 : Int32) then
                                                                              i_g (l3 + (1 : Int32)) X.1 (i_g (l3 + (2 : Int32)) X.1 (Option.bind (b_keep (X.2 (Int32.toNatClampNeg (l3 + (1 : Int32)))) (X.2 (Int32.toNatClampNeg (l3 + (2 : Int32)))) M) (fun q193 => Option.bind (r_keep (X.2 (Int32.toNatClampNeg (l3 + (1 : Int32)))) (X.2 (Int32.toNatClampNeg (l3 + (2 : Int32)))) q193.2) (fun q194 => (if q193.1 = q194.1 then
                                                                                (w_law_L18 X n) (l3 + (6 : Int32)) q194.2
                                                                              else
                                                                                some ((0 : Int32), q194.2))))))
                                                                            else
                                                                              (if ((X.2 (Int32.toNatClampNeg l3)) &&& (63 : Int32)) = (35 : Int32) then
                                                                                i_g (l3 + (1 : Int32)) X.1 (i_g (l3 + (2 : Int32)) X.1 (i_g (l3 + (3 : Int32)) X.1 (Option.bind (b_row (X.2 (Int32.toNatClampNeg (l3 + (1 : Int32)))) (X.2 (Int32.toNatClampNeg (l3 + (2 : Int32)))) (X.2 (Int32.toNatClampNeg (l3 + (3 : Int32)))) M) (fun q200 => Option.bind (r_row (X.2 (Int32.toNatClampNeg (l3 + (1 : Int32)))) (X.2 (Int32.toNatClampNeg (l3 + (2 : Int32)))) (X.2 (Int32.toNatClampNeg (l3 + (3 : Int32)))) q200.2) (fun q201 => (if q200.1 = q201.1 then
                                                                                  (w_law_L18 X n) (l3 + (6 : Int32)) q201.2
                                                                                else
                                                                                  some ((0 : Int32), q201.2)))))))
                                                                              else
                                                                                (if ((X.2 (Int32.toNatClampNeg l3)) &&& (63 : Int32)) = (36 : Int32) then
                                                                                  i_g (l3 + (1 : Int32)) X.1 (i_g (l3 + (2 : Int32)) X.1 (i_g (l3 + (3 : Int32)) X.1 (i_g (l3 + (4 : Int32)) X.1 (Option.bind (b_put (X.2 (Int32.toNatClampNeg (l3 + (1 : Int32)))) (X.2 (Int32.toNatClampNeg (l3 + (2 : Int32)))) (((Int32.toInt64 (X.2 (Int32.toNatClampNeg (l3 + (3 : Int32))))) <<< (Int32.toInt64 (32 : Int32) &&& 63)) ||| ((Int32.toInt64 (X.2 (Int32.toNatClampNeg (l3 + (4 : Int32))))) &&& (4294967295 : Int64))) M) (fun q208 => Option.bind (r_put (X.2 (Int32.toNatClampNeg (l3 + (1 : Int32)))) (X.2 (Int32.toNatClampNeg (l3 + (2 : Int32)))) (((Int32.toInt64 (X.2 (Int32.toNatClampNeg (l3 + (3 : Int32))))) <<< (Int32.toInt64 (32 : Int32) &&& 63)) ||| ((Int32.toInt64 (X.2 (Int32.toNatClampNeg (l3 + (4 : Int32))))) &&& (4294967295 : Int64))) q208.2) (fun q209 => (if q208.1 = q209.1 then
                                                                                    (w_law_L18 X n) (l3 + (6 : Int32)) q209.2
                                                                                  else
                                                                                    some ((0 : Int32), q209.2))))))))
                                                                                else
                                                                                  (if ((X.2 (Int32.toNatClampNeg l3)) &&& (63 : Int32)) = (37 : Int32) then
                                                                                    i_g (l3 + (1 : Int32)) X.1 (i_g (l3 + (2 : Int32)) X.1 (Option.bind (b_element (X.2 (Int32.toNatClampNeg (l3 + (1 : Int32)))) (X.2 (Int32.toNatClampNeg (l3 + (2 : Int32)))) M) (fun q214 => Option.bind (r_element (X.2 (Int32.toNatClampNeg (l3 + (1 : Int32)))) (X.2 (Int32.toNatClampNeg (l3 + (2 : Int32)))) q214.2) (fun q215 => (if (lg_cmp q214.1 q215.1) = (0 : Int32) then
                                                                                      (w_law_L18 X n) (l3 + (6 : Int32)) q215.2
                                                                                    else
                                                                                      some ((0 : Int32), q215.2))))))
                                                                                  else
                                                                                    (if ((X.2 (Int32.toNatClampNeg l3)) &&& (63 : Int32)) = (38 : Int32) then
                                                                                      i_g (l3 + (1 : Int32)) X.1 (i_g (l3 + (2 : Int32)) X.1 (i_g (l3 + (3 : Int32)) X.1 (i_g (l3 + (4 : Int32)) X.1 (i_g (l3 + (5 : Int32)) X.1 (Option.bind (b_shift (X.2 (Int32.toNatClampNeg (l3 + (1 : Int32)))) (X.2 (Int32.toNatClampNeg (l3 + (2 : Int32)))) (X.2 (Int32.toNatClampNeg (l3 + (3 : Int32)))) (X.2 (Int32.toNatClampNeg (l3 + (4 : Int32)))) (X.2 (Int32.toNatClampNeg (l3 + (5 : Int32)))) M) (fun q223 => Option.bind (r_shift (X.2 (Int32.toNatClampNeg (l3 + (1 : Int32)))) (X.2 (Int32.toNatClampNeg (l3 + (2 : Int32)))) (X.2 (Int32.toNatClampNeg (l3 + (3 : Int32)))) (X.2 (Int32.toNatClampNeg (l3 + (4 : Int32)))) (X.2 (Int32.toNatClampNeg (l3 + (5 : Int32)))) q223.2) (fun q224 => (if q223.1 = q224.1 then
                                                                                        (w_law_L18 X n) (l3 + (6 : Int32)) q224.2
                                                                                      else
                                                                                        some ((0 : Int32), q224.2)))))))))
                                                                                    else
                                                                                      (if ((X.2 (Int32.toNatClampNeg l3)) &&& (63 : Int32)) = (39 : Int32) then
                                                                                        i_g (l3 + (1 : Int32)) X.1 (i_g (l3 + (2 : Int32)) X.1 (Option.bind (b_taken (X.2 (Int32.toNatClampNeg (l3 + (1 : Int32)))) (X.2 (Int32.toNatClampNeg (l3 + (2 : Int32)))) M) (fun q229 => Option.bind (r_taken (X.2 (Int32.toNatClampNeg (l3 + (1 : Int32)))) (X.2 (Int32.toNatClampNeg (l3 + (2 : Int32)))) q229.2) (fun q230 => (if q229.1 = q230.1 then
                                                                                          (w_law_L18 X n) (l3 + (6 : Int32)) q230.2
                                                                                        else
                                                                                          some ((0 : Int32), q230.2))))))
                                                                                      else
                                                                                        (if ((X.2 (Int32.toNatClampNeg l3)) &&& (63 : Int32)) = (40 : Int32) then
                                                                                          i_g (l3 + (1 : Int32)) X.1 (Option.bind (b_count (X.2 (Int32.toNatClampNeg (l3 + (1 : Int32)))) M) (fun q234 => Option.bind (r_count (X.2 (Int32.toNatClampNeg (l3 + (1 : Int32)))) q234.2) (fun q235 => (if q234.1 = q235.1 then
                                                                                            (w_law_L18 X n) (l3 + (6 : Int32)) q235.2
                                                                                          else
                                                                                            some ((0 : Int32), q235.2)))))
                                                                                        else
                                                                                          (w_law_L18 X n) (l3 + (6 : Int32)) M)))))))))))))))))))))))))))))))))))))))))))
set_option maxHeartbeats 20000000 in
set_option maxRecDepth 100000 in
theorem ok_w_law_L18 {X : Nat × (Nat → Int32)} {d : Nat} (hd : 81 ≤ d + 1) : ∀ (n : Nat) (l3 : Int32) (M : I_M) (r : (Int32 × I_M)), w_law_L18 X n l3 M = some r → I_RnE (I_Ex d) i_c266 (18, [some (.ref 100), some (.ref 0), some (.ref 50), some (.int l3)], [], i_S X M) (some (.int r.1)) (i_S X r.2) := by
  intro n
  induction n with
  | zero => intro _ M r h; cases h
  | succ n hself =>
    intro l3 M r h
    rw [w_law_L18] at h
    refine i_rs 5 (cf' := (24, [some (.ref 100), some (.ref 0), some (.ref 50), some (.int l3)], [.int ((Int32.ofNat X.1) - (6 : Int32)), .int l3], i_S X M)) rfl ?_
    by_cases c1 : ((Int32.ofNat X.1) - (6 : Int32)) < l3
    · replace h := (if_pos c1).symm.trans h
      refine i_rbT (c := ((Int32.ofNat X.1) - (6 : Int32)) < l3) (t := 1472) (n := 27) rfl c1 ?_
      refine i_rs 1 (cf' := (1473, [some (.ref 100), some (.ref 0), some (.ref 50), some (.int l3)], [.int (1 : Int32)], i_S X M)) rfl ?_
      obtain rfl := Option.some.inj h
      exact i_rretZ rfl (Or.inr rfl) rfl
    · replace h := (if_neg c1).symm.trans h
      refine i_rbF (c := ((Int32.ofNat X.1) - (6 : Int32)) < l3) (t := 1472) (n := 27) rfl c1 ?_
      refine i_rs 2 (cf' := (29, [some (.ref 100), some (.ref 0), some (.ref 50), some (.int l3)], [.int l3, .ref 100], i_S X M)) rfl ?_
      obtain ⟨g2, h⟩ := i_gE h
      refine i_riald (n := X.1) (cf' := (30, [some (.ref 100), some (.ref 0), some (.ref 50), some (.int l3)], [.int (X.2 (Int32.toNatClampNeg l3))], i_S X M)) rfl rfl (by decide) g2 rfl ?_
      refine i_rs 2 (cf' := (33, [some (.ref 100), some (.ref 0), some (.ref 50), some (.int l3)], [.int ((X.2 (Int32.toNatClampNeg l3)) &&& (63 : Int32))], i_S X M)) rfl ?_
      refine i_stp1 (cf' := (i_sw ((X.2 (Int32.toNatClampNeg l3)) &&& (63 : Int32)) 1466 [(0, 212), (1, 235), (2, 268), (3, 311), (4, 354), (5, 387), (6, 410), (7, 423), (8, 466), (9, 499), (10, 542), (11, 555), (12, 588), (13, 621), (14, 664), (15, 687), (16, 720), (17, 753), (18, 776), (19, 799), (20, 822), (21, 855), (22, 868), (23, 901), (24, 934), (25, 967), (26, 1000), (27, 1023), (28, 1036), (29, 1049), (30, 1062), (31, 1075), (32, 1098), (33, 1141), (34, 1164), (35, 1197), (36, 1240), (37, 1313), (38, 1347), (39, 1410), (40, 1443)], [some (.ref 100), some (.ref 0), some (.ref 50), some (.int l3)], [], i_S X M)) rfl ?_
      by_cases c3 : ((X.2 (Int32.toNatClampNeg l3)) &&& (63 : Int32)) = (0 : Int32)
      · replace h := (if_pos c3).symm.trans h
        refine i_rswT c3 ?_
        refine i_rs 5 (cf' := (217, [some (.ref 100), some (.ref 0), some (.ref 50), some (.int l3)], [.int (l3 + (1 : Int32)), .ref 100, .ref 0], i_S X M)) rfl ?_
        obtain ⟨g4, h⟩ := i_gE h
        refine i_riald (n := X.1) (cf' := (218, [some (.ref 100), some (.ref 0), some (.ref 50), some (.int l3)], [.int (X.2 (Int32.toNatClampNeg (l3 + (1 : Int32)))), .ref 0], i_S X M)) rfl rfl (by decide) g4 rfl ?_
        obtain ⟨q5, hq5, h⟩ := i_bdE h
        refine i_rcall (k := 14) (as := [.ref 0, .int (X.2 (Int32.toNatClampNeg (l3 + (1 : Int32))))]) (cf1 := (221, [some (.ref 100), some (.ref 0), some (.ref 50), some (.int l3)], [], i_S X M)) (cf' := (221, [some (.ref 100), some (.ref 0), some (.ref 50), some (.int l3)], [.int q5.1], i_S X q5.2)) rfl (ok_b_land (by omega) hq5) rfl ?_
        refine i_rs 5 (cf' := (226, [some (.ref 100), some (.ref 0), some (.ref 50), some (.int l3)], [.int (l3 + (1 : Int32)), .ref 100, .ref 50, .int q5.1], i_S X q5.2)) rfl ?_
        refine i_riald (n := X.1) (cf' := (227, [some (.ref 100), some (.ref 0), some (.ref 50), some (.int l3)], [.int (X.2 (Int32.toNatClampNeg (l3 + (1 : Int32)))), .ref 50, .int q5.1], i_S X q5.2)) rfl rfl (by decide) g4 rfl ?_
        obtain ⟨q6, hq6, h⟩ := i_bdE h
        refine i_rcall (k := 174) (as := [.ref 50, .int (X.2 (Int32.toNatClampNeg (l3 + (1 : Int32))))]) (cf1 := (230, [some (.ref 100), some (.ref 0), some (.ref 50), some (.int l3)], [.int q5.1], i_S X q5.2)) (cf' := (230, [some (.ref 100), some (.ref 0), some (.ref 50), some (.int l3)], [.int q6.1, .int q5.1], i_S X q6.2)) rfl (ok_r_land (by omega) hq6) rfl ?_
        by_cases c7 : q5.1 = q6.1
        · replace h := (if_pos c7).symm.trans h
          refine i_rbT (c := q5.1 = q6.1) (t := 1466) (n := 233) rfl c7 ?_
          refine i_rs 2 (cf' := (18, [some (.ref 100), some (.ref 0), some (.ref 50), some (.int (l3 + (6 : Int32)))], [], i_S X q6.2)) rfl ?_
          refine i_fg (lv' := [some (.ref 100), some (.ref 0), some (.ref 50), some (.int (l3 + (6 : Int32)))]) (And.intro rfl (And.intro rfl (And.intro rfl (And.intro rfl True.intro)))) ?_
          exact hself (l3 + (6 : Int32)) q6.2 _ h
        · replace h := (if_neg c7).symm.trans h
          refine i_rbF (c := q5.1 = q6.1) (t := 1466) (n := 233) rfl c7 ?_
          refine i_rs 1 (cf' := (234, [some (.ref 100), some (.ref 0), some (.ref 50), some (.int l3)], [.int (0 : Int32)], i_S X q6.2)) rfl ?_
          obtain rfl := Option.some.inj h
          exact i_rretZ rfl (Or.inl rfl) rfl
      · replace h := (if_neg c3).symm.trans h
        refine i_rswF c3 ?_
        by_cases c8 : ((X.2 (Int32.toNatClampNeg l3)) &&& (63 : Int32)) = (1 : Int32)
        · replace h := (if_pos c8).symm.trans h
          refine i_rswT c8 ?_
          refine i_rs 5 (cf' := (240, [some (.ref 100), some (.ref 0), some (.ref 50), some (.int l3)], [.int (l3 + (1 : Int32)), .ref 100, .ref 0], i_S X M)) rfl ?_
          obtain ⟨g9, h⟩ := i_gE h
          refine i_riald (n := X.1) (cf' := (241, [some (.ref 100), some (.ref 0), some (.ref 50), some (.int l3)], [.int (X.2 (Int32.toNatClampNeg (l3 + (1 : Int32)))), .ref 0], i_S X M)) rfl rfl (by decide) g9 rfl ?_
          refine i_rs 4 (cf' := (245, [some (.ref 100), some (.ref 0), some (.ref 50), some (.int l3)], [.int (l3 + (2 : Int32)), .ref 100, .int (X.2 (Int32.toNatClampNeg (l3 + (1 : Int32)))), .ref 0], i_S X M)) rfl ?_
          obtain ⟨g10, h⟩ := i_gE h
          refine i_riald (n := X.1) (cf' := (246, [some (.ref 100), some (.ref 0), some (.ref 50), some (.int l3)], [.int (X.2 (Int32.toNatClampNeg (l3 + (2 : Int32)))), .int (X.2 (Int32.toNatClampNeg (l3 + (1 : Int32)))), .ref 0], i_S X M)) rfl rfl (by decide) g10 rfl ?_
          obtain ⟨q11, hq11, h⟩ := i_bdE h
          refine i_rcall (k := 18) (as := [.ref 0, .int (X.2 (Int32.toNatClampNeg (l3 + (1 : Int32)))), .int (X.2 (Int32.toNatClampNeg (l3 + (2 : Int32))))]) (cf1 := (249, [some (.ref 100), some (.ref 0), some (.ref 50), some (.int l3)], [], i_S X M)) (cf' := (249, [some (.ref 100), some (.ref 0), some (.ref 50), some (.int l3)], [.int q11.1], i_S X q11.2)) rfl (ok_b_bell (by omega) hq11) rfl ?_
          refine i_rs 5 (cf' := (254, [some (.ref 100), some (.ref 0), some (.ref 50), some (.int l3)], [.int (l3 + (1 : Int32)), .ref 100, .ref 50, .int q11.1], i_S X q11.2)) rfl ?_
          refine i_riald (n := X.1) (cf' := (255, [some (.ref 100), some (.ref 0), some (.ref 50), some (.int l3)], [.int (X.2 (Int32.toNatClampNeg (l3 + (1 : Int32)))), .ref 50, .int q11.1], i_S X q11.2)) rfl rfl (by decide) g9 rfl ?_
          refine i_rs 4 (cf' := (259, [some (.ref 100), some (.ref 0), some (.ref 50), some (.int l3)], [.int (l3 + (2 : Int32)), .ref 100, .int (X.2 (Int32.toNatClampNeg (l3 + (1 : Int32)))), .ref 50, .int q11.1], i_S X q11.2)) rfl ?_
          refine i_riald (n := X.1) (cf' := (260, [some (.ref 100), some (.ref 0), some (.ref 50), some (.int l3)], [.int (X.2 (Int32.toNatClampNeg (l3 + (2 : Int32)))), .int (X.2 (Int32.toNatClampNeg (l3 + (1 : Int32)))), .ref 50, .int q11.1], i_S X q11.2)) rfl rfl (by decide) g10 rfl ?_
          obtain ⟨q12, hq12, h⟩ := i_bdE h
          refine i_rcall (k := 176) (as := [.ref 50, .int (X.2 (Int32.toNatClampNeg (l3 + (1 : Int32)))), .int (X.2 (Int32.toNatClampNeg (l3 + (2 : Int32))))]) (cf1 := (263, [some (.ref 100), some (.ref 0), some (.ref 50), some (.int l3)], [.int q11.1], i_S X q11.2)) (cf' := (263, [some (.ref 100), some (.ref 0), some (.ref 50), some (.int l3)], [.int q12.1, .int q11.1], i_S X q12.2)) rfl (ok_r_bell (by omega) hq12) rfl ?_
          by_cases c13 : q11.1 = q12.1
          · replace h := (if_pos c13).symm.trans h
            refine i_rbT (c := q11.1 = q12.1) (t := 1466) (n := 266) rfl c13 ?_
            refine i_rs 2 (cf' := (18, [some (.ref 100), some (.ref 0), some (.ref 50), some (.int (l3 + (6 : Int32)))], [], i_S X q12.2)) rfl ?_
            refine i_fg (lv' := [some (.ref 100), some (.ref 0), some (.ref 50), some (.int (l3 + (6 : Int32)))]) (And.intro rfl (And.intro rfl (And.intro rfl (And.intro rfl True.intro)))) ?_
            exact hself (l3 + (6 : Int32)) q12.2 _ h
          · replace h := (if_neg c13).symm.trans h
            refine i_rbF (c := q11.1 = q12.1) (t := 1466) (n := 266) rfl c13 ?_
            refine i_rs 1 (cf' := (267, [some (.ref 100), some (.ref 0), some (.ref 50), some (.int l3)], [.int (0 : Int32)], i_S X q12.2)) rfl ?_
            obtain rfl := Option.some.inj h
            exact i_rretZ rfl (Or.inl rfl) rfl
        · replace h := (if_neg c8).symm.trans h
          refine i_rswF c8 ?_
          by_cases c14 : ((X.2 (Int32.toNatClampNeg l3)) &&& (63 : Int32)) = (2 : Int32)
          · replace h := (if_pos c14).symm.trans h
            refine i_rswT c14 ?_
            refine i_rs 5 (cf' := (273, [some (.ref 100), some (.ref 0), some (.ref 50), some (.int l3)], [.int (l3 + (1 : Int32)), .ref 100, .ref 0], i_S X M)) rfl ?_
            obtain ⟨g15, h⟩ := i_gE h
            refine i_riald (n := X.1) (cf' := (274, [some (.ref 100), some (.ref 0), some (.ref 50), some (.int l3)], [.int (X.2 (Int32.toNatClampNeg (l3 + (1 : Int32)))), .ref 0], i_S X M)) rfl rfl (by decide) g15 rfl ?_
            refine i_rs 4 (cf' := (278, [some (.ref 100), some (.ref 0), some (.ref 50), some (.int l3)], [.int (l3 + (2 : Int32)), .ref 100, .int (X.2 (Int32.toNatClampNeg (l3 + (1 : Int32)))), .ref 0], i_S X M)) rfl ?_
            obtain ⟨g16, h⟩ := i_gE h
            refine i_riald (n := X.1) (cf' := (279, [some (.ref 100), some (.ref 0), some (.ref 50), some (.int l3)], [.int (X.2 (Int32.toNatClampNeg (l3 + (2 : Int32)))), .int (X.2 (Int32.toNatClampNeg (l3 + (1 : Int32)))), .ref 0], i_S X M)) rfl rfl (by decide) g16 rfl ?_
            refine i_rs 4 (cf' := (283, [some (.ref 100), some (.ref 0), some (.ref 50), some (.int l3)], [.int (l3 + (3 : Int32)), .ref 100, .int (X.2 (Int32.toNatClampNeg (l3 + (2 : Int32)))), .int (X.2 (Int32.toNatClampNeg (l3 + (1 : Int32)))), .ref 0], i_S X M)) rfl ?_
            obtain ⟨g17, h⟩ := i_gE h
            refine i_riald (n := X.1) (cf' := (284, [some (.ref 100), some (.ref 0), some (.ref 50), some (.int l3)], [.int (X.2 (Int32.toNatClampNeg (l3 + (3 : Int32)))), .int (X.2 (Int32.toNatClampNeg (l3 + (2 : Int32)))), .int (X.2 (Int32.toNatClampNeg (l3 + (1 : Int32)))), .ref 0], i_S X M)) rfl rfl (by decide) g17 rfl ?_
            obtain ⟨q18, hq18, h⟩ := i_bdE h
            refine i_rcall (k := 23) (as := [.ref 0, .int (X.2 (Int32.toNatClampNeg (l3 + (1 : Int32)))), .int (X.2 (Int32.toNatClampNeg (l3 + (2 : Int32)))), .int (X.2 (Int32.toNatClampNeg (l3 + (3 : Int32))))]) (cf1 := (287, [some (.ref 100), some (.ref 0), some (.ref 50), some (.int l3)], [], i_S X M)) (cf' := (287, [some (.ref 100), some (.ref 0), some (.ref 50), some (.int l3)], [.int q18.1], i_S X q18.2)) rfl (ok_b_bells (by omega) hq18) rfl ?_
            refine i_rs 5 (cf' := (292, [some (.ref 100), some (.ref 0), some (.ref 50), some (.int l3)], [.int (l3 + (1 : Int32)), .ref 100, .ref 50, .int q18.1], i_S X q18.2)) rfl ?_
            refine i_riald (n := X.1) (cf' := (293, [some (.ref 100), some (.ref 0), some (.ref 50), some (.int l3)], [.int (X.2 (Int32.toNatClampNeg (l3 + (1 : Int32)))), .ref 50, .int q18.1], i_S X q18.2)) rfl rfl (by decide) g15 rfl ?_
            refine i_rs 4 (cf' := (297, [some (.ref 100), some (.ref 0), some (.ref 50), some (.int l3)], [.int (l3 + (2 : Int32)), .ref 100, .int (X.2 (Int32.toNatClampNeg (l3 + (1 : Int32)))), .ref 50, .int q18.1], i_S X q18.2)) rfl ?_
            refine i_riald (n := X.1) (cf' := (298, [some (.ref 100), some (.ref 0), some (.ref 50), some (.int l3)], [.int (X.2 (Int32.toNatClampNeg (l3 + (2 : Int32)))), .int (X.2 (Int32.toNatClampNeg (l3 + (1 : Int32)))), .ref 50, .int q18.1], i_S X q18.2)) rfl rfl (by decide) g16 rfl ?_
            refine i_rs 4 (cf' := (302, [some (.ref 100), some (.ref 0), some (.ref 50), some (.int l3)], [.int (l3 + (3 : Int32)), .ref 100, .int (X.2 (Int32.toNatClampNeg (l3 + (2 : Int32)))), .int (X.2 (Int32.toNatClampNeg (l3 + (1 : Int32)))), .ref 50, .int q18.1], i_S X q18.2)) rfl ?_
            refine i_riald (n := X.1) (cf' := (303, [some (.ref 100), some (.ref 0), some (.ref 50), some (.int l3)], [.int (X.2 (Int32.toNatClampNeg (l3 + (3 : Int32)))), .int (X.2 (Int32.toNatClampNeg (l3 + (2 : Int32)))), .int (X.2 (Int32.toNatClampNeg (l3 + (1 : Int32)))), .ref 50, .int q18.1], i_S X q18.2)) rfl rfl (by decide) g17 rfl ?_
            obtain ⟨q19, hq19, h⟩ := i_bdE h
            refine i_rcall (k := 180) (as := [.ref 50, .int (X.2 (Int32.toNatClampNeg (l3 + (1 : Int32)))), .int (X.2 (Int32.toNatClampNeg (l3 + (2 : Int32)))), .int (X.2 (Int32.toNatClampNeg (l3 + (3 : Int32))))]) (cf1 := (306, [some (.ref 100), some (.ref 0), some (.ref 50), some (.int l3)], [.int q18.1], i_S X q18.2)) (cf' := (306, [some (.ref 100), some (.ref 0), some (.ref 50), some (.int l3)], [.int q19.1, .int q18.1], i_S X q19.2)) rfl (ok_r_bells (by omega) hq19) rfl ?_
            by_cases c20 : q18.1 = q19.1
            · replace h := (if_pos c20).symm.trans h
              refine i_rbT (c := q18.1 = q19.1) (t := 1466) (n := 309) rfl c20 ?_
              refine i_rs 2 (cf' := (18, [some (.ref 100), some (.ref 0), some (.ref 50), some (.int (l3 + (6 : Int32)))], [], i_S X q19.2)) rfl ?_
              refine i_fg (lv' := [some (.ref 100), some (.ref 0), some (.ref 50), some (.int (l3 + (6 : Int32)))]) (And.intro rfl (And.intro rfl (And.intro rfl (And.intro rfl True.intro)))) ?_
              exact hself (l3 + (6 : Int32)) q19.2 _ h
            · replace h := (if_neg c20).symm.trans h
              refine i_rbF (c := q18.1 = q19.1) (t := 1466) (n := 309) rfl c20 ?_
              refine i_rs 1 (cf' := (310, [some (.ref 100), some (.ref 0), some (.ref 50), some (.int l3)], [.int (0 : Int32)], i_S X q19.2)) rfl ?_
              obtain rfl := Option.some.inj h
              exact i_rretZ rfl (Or.inl rfl) rfl
          · replace h := (if_neg c14).symm.trans h
            refine i_rswF c14 ?_
            by_cases c21 : ((X.2 (Int32.toNatClampNeg l3)) &&& (63 : Int32)) = (3 : Int32)
            · replace h := (if_pos c21).symm.trans h
              refine i_rswT c21 ?_
              refine i_rs 5 (cf' := (316, [some (.ref 100), some (.ref 0), some (.ref 50), some (.int l3)], [.int (l3 + (1 : Int32)), .ref 100, .ref 0], i_S X M)) rfl ?_
              obtain ⟨g22, h⟩ := i_gE h
              refine i_riald (n := X.1) (cf' := (317, [some (.ref 100), some (.ref 0), some (.ref 50), some (.int l3)], [.int (X.2 (Int32.toNatClampNeg (l3 + (1 : Int32)))), .ref 0], i_S X M)) rfl rfl (by decide) g22 rfl ?_
              refine i_rs 4 (cf' := (321, [some (.ref 100), some (.ref 0), some (.ref 50), some (.int l3)], [.int (l3 + (2 : Int32)), .ref 100, .int (X.2 (Int32.toNatClampNeg (l3 + (1 : Int32)))), .ref 0], i_S X M)) rfl ?_
              obtain ⟨g23, h⟩ := i_gE h
              refine i_riald (n := X.1) (cf' := (322, [some (.ref 100), some (.ref 0), some (.ref 50), some (.int l3)], [.int (X.2 (Int32.toNatClampNeg (l3 + (2 : Int32)))), .int (X.2 (Int32.toNatClampNeg (l3 + (1 : Int32)))), .ref 0], i_S X M)) rfl rfl (by decide) g23 rfl ?_
              refine i_rs 4 (cf' := (326, [some (.ref 100), some (.ref 0), some (.ref 50), some (.int l3)], [.int (l3 + (3 : Int32)), .ref 100, .int (X.2 (Int32.toNatClampNeg (l3 + (2 : Int32)))), .int (X.2 (Int32.toNatClampNeg (l3 + (1 : Int32)))), .ref 0], i_S X M)) rfl ?_
              obtain ⟨g24, h⟩ := i_gE h
              refine i_riald (n := X.1) (cf' := (327, [some (.ref 100), some (.ref 0), some (.ref 50), some (.int l3)], [.int (X.2 (Int32.toNatClampNeg (l3 + (3 : Int32)))), .int (X.2 (Int32.toNatClampNeg (l3 + (2 : Int32)))), .int (X.2 (Int32.toNatClampNeg (l3 + (1 : Int32)))), .ref 0], i_S X M)) rfl rfl (by decide) g24 rfl ?_
              obtain ⟨q25, hq25, h⟩ := i_bdE h
              refine i_rcall (k := 28) (as := [.ref 0, .int (X.2 (Int32.toNatClampNeg (l3 + (1 : Int32)))), .int (X.2 (Int32.toNatClampNeg (l3 + (2 : Int32)))), .int (X.2 (Int32.toNatClampNeg (l3 + (3 : Int32))))]) (cf1 := (330, [some (.ref 100), some (.ref 0), some (.ref 50), some (.int l3)], [], i_S X M)) (cf' := (330, [some (.ref 100), some (.ref 0), some (.ref 50), some (.int l3)], [.int q25.1], i_S X q25.2)) rfl (ok_b_mend (by omega) hq25) rfl ?_
              refine i_rs 5 (cf' := (335, [some (.ref 100), some (.ref 0), some (.ref 50), some (.int l3)], [.int (l3 + (1 : Int32)), .ref 100, .ref 50, .int q25.1], i_S X q25.2)) rfl ?_
              refine i_riald (n := X.1) (cf' := (336, [some (.ref 100), some (.ref 0), some (.ref 50), some (.int l3)], [.int (X.2 (Int32.toNatClampNeg (l3 + (1 : Int32)))), .ref 50, .int q25.1], i_S X q25.2)) rfl rfl (by decide) g22 rfl ?_
              refine i_rs 4 (cf' := (340, [some (.ref 100), some (.ref 0), some (.ref 50), some (.int l3)], [.int (l3 + (2 : Int32)), .ref 100, .int (X.2 (Int32.toNatClampNeg (l3 + (1 : Int32)))), .ref 50, .int q25.1], i_S X q25.2)) rfl ?_
              refine i_riald (n := X.1) (cf' := (341, [some (.ref 100), some (.ref 0), some (.ref 50), some (.int l3)], [.int (X.2 (Int32.toNatClampNeg (l3 + (2 : Int32)))), .int (X.2 (Int32.toNatClampNeg (l3 + (1 : Int32)))), .ref 50, .int q25.1], i_S X q25.2)) rfl rfl (by decide) g23 rfl ?_
              refine i_rs 4 (cf' := (345, [some (.ref 100), some (.ref 0), some (.ref 50), some (.int l3)], [.int (l3 + (3 : Int32)), .ref 100, .int (X.2 (Int32.toNatClampNeg (l3 + (2 : Int32)))), .int (X.2 (Int32.toNatClampNeg (l3 + (1 : Int32)))), .ref 50, .int q25.1], i_S X q25.2)) rfl ?_
              refine i_riald (n := X.1) (cf' := (346, [some (.ref 100), some (.ref 0), some (.ref 50), some (.int l3)], [.int (X.2 (Int32.toNatClampNeg (l3 + (3 : Int32)))), .int (X.2 (Int32.toNatClampNeg (l3 + (2 : Int32)))), .int (X.2 (Int32.toNatClampNeg (l3 + (1 : Int32)))), .ref 50, .int q25.1], i_S X q25.2)) rfl rfl (by decide) g24 rfl ?_
              obtain ⟨q26, hq26, h⟩ := i_bdE h
              refine i_rcall (k := 182) (as := [.ref 50, .int (X.2 (Int32.toNatClampNeg (l3 + (1 : Int32)))), .int (X.2 (Int32.toNatClampNeg (l3 + (2 : Int32)))), .int (X.2 (Int32.toNatClampNeg (l3 + (3 : Int32))))]) (cf1 := (349, [some (.ref 100), some (.ref 0), some (.ref 50), some (.int l3)], [.int q25.1], i_S X q25.2)) (cf' := (349, [some (.ref 100), some (.ref 0), some (.ref 50), some (.int l3)], [.int q26.1, .int q25.1], i_S X q26.2)) rfl (ok_r_mend (by omega) hq26) rfl ?_
              by_cases c27 : q25.1 = q26.1
              · replace h := (if_pos c27).symm.trans h
                refine i_rbT (c := q25.1 = q26.1) (t := 1466) (n := 352) rfl c27 ?_
                refine i_rs 2 (cf' := (18, [some (.ref 100), some (.ref 0), some (.ref 50), some (.int (l3 + (6 : Int32)))], [], i_S X q26.2)) rfl ?_
                refine i_fg (lv' := [some (.ref 100), some (.ref 0), some (.ref 50), some (.int (l3 + (6 : Int32)))]) (And.intro rfl (And.intro rfl (And.intro rfl (And.intro rfl True.intro)))) ?_
                exact hself (l3 + (6 : Int32)) q26.2 _ h
              · replace h := (if_neg c27).symm.trans h
                refine i_rbF (c := q25.1 = q26.1) (t := 1466) (n := 352) rfl c27 ?_
                refine i_rs 1 (cf' := (353, [some (.ref 100), some (.ref 0), some (.ref 50), some (.int l3)], [.int (0 : Int32)], i_S X q26.2)) rfl ?_
                obtain rfl := Option.some.inj h
                exact i_rretZ rfl (Or.inl rfl) rfl
            · replace h := (if_neg c21).symm.trans h
              refine i_rswF c21 ?_
              by_cases c28 : ((X.2 (Int32.toNatClampNeg l3)) &&& (63 : Int32)) = (4 : Int32)
              · replace h := (if_pos c28).symm.trans h
                refine i_rswT c28 ?_
                refine i_rs 5 (cf' := (359, [some (.ref 100), some (.ref 0), some (.ref 50), some (.int l3)], [.int (l3 + (1 : Int32)), .ref 100, .ref 0], i_S X M)) rfl ?_
                obtain ⟨g29, h⟩ := i_gE h
                refine i_riald (n := X.1) (cf' := (360, [some (.ref 100), some (.ref 0), some (.ref 50), some (.int l3)], [.int (X.2 (Int32.toNatClampNeg (l3 + (1 : Int32)))), .ref 0], i_S X M)) rfl rfl (by decide) g29 rfl ?_
                refine i_rs 4 (cf' := (364, [some (.ref 100), some (.ref 0), some (.ref 50), some (.int l3)], [.int (l3 + (2 : Int32)), .ref 100, .int (X.2 (Int32.toNatClampNeg (l3 + (1 : Int32)))), .ref 0], i_S X M)) rfl ?_
                obtain ⟨g30, h⟩ := i_gE h
                refine i_riald (n := X.1) (cf' := (365, [some (.ref 100), some (.ref 0), some (.ref 50), some (.int l3)], [.int (X.2 (Int32.toNatClampNeg (l3 + (2 : Int32)))), .int (X.2 (Int32.toNatClampNeg (l3 + (1 : Int32)))), .ref 0], i_S X M)) rfl rfl (by decide) g30 rfl ?_
                obtain ⟨q31, hq31, h⟩ := i_bdE h
                refine i_rcall (k := 35) (as := [.ref 0, .int (X.2 (Int32.toNatClampNeg (l3 + (1 : Int32)))), .int (X.2 (Int32.toNatClampNeg (l3 + (2 : Int32))))]) (cf1 := (368, [some (.ref 100), some (.ref 0), some (.ref 50), some (.int l3)], [], i_S X M)) (cf' := (368, [some (.ref 100), some (.ref 0), some (.ref 50), some (.int l3)], [.int q31.1], i_S X q31.2)) rfl (ok_b_of (by omega) hq31) rfl ?_
                refine i_rs 5 (cf' := (373, [some (.ref 100), some (.ref 0), some (.ref 50), some (.int l3)], [.int (l3 + (1 : Int32)), .ref 100, .ref 50, .int q31.1], i_S X q31.2)) rfl ?_
                refine i_riald (n := X.1) (cf' := (374, [some (.ref 100), some (.ref 0), some (.ref 50), some (.int l3)], [.int (X.2 (Int32.toNatClampNeg (l3 + (1 : Int32)))), .ref 50, .int q31.1], i_S X q31.2)) rfl rfl (by decide) g29 rfl ?_
                refine i_rs 4 (cf' := (378, [some (.ref 100), some (.ref 0), some (.ref 50), some (.int l3)], [.int (l3 + (2 : Int32)), .ref 100, .int (X.2 (Int32.toNatClampNeg (l3 + (1 : Int32)))), .ref 50, .int q31.1], i_S X q31.2)) rfl ?_
                refine i_riald (n := X.1) (cf' := (379, [some (.ref 100), some (.ref 0), some (.ref 50), some (.int l3)], [.int (X.2 (Int32.toNatClampNeg (l3 + (2 : Int32)))), .int (X.2 (Int32.toNatClampNeg (l3 + (1 : Int32)))), .ref 50, .int q31.1], i_S X q31.2)) rfl rfl (by decide) g30 rfl ?_
                obtain ⟨q32, hq32, h⟩ := i_bdE h
                refine i_rcall (k := 186) (as := [.ref 50, .int (X.2 (Int32.toNatClampNeg (l3 + (1 : Int32)))), .int (X.2 (Int32.toNatClampNeg (l3 + (2 : Int32))))]) (cf1 := (382, [some (.ref 100), some (.ref 0), some (.ref 50), some (.int l3)], [.int q31.1], i_S X q31.2)) (cf' := (382, [some (.ref 100), some (.ref 0), some (.ref 50), some (.int l3)], [.int q32.1, .int q31.1], i_S X q32.2)) rfl (ok_r_of (by omega) hq32) rfl ?_
                by_cases c33 : q31.1 = q32.1
                · replace h := (if_pos c33).symm.trans h
                  refine i_rbT (c := q31.1 = q32.1) (t := 1466) (n := 385) rfl c33 ?_
                  refine i_rs 2 (cf' := (18, [some (.ref 100), some (.ref 0), some (.ref 50), some (.int (l3 + (6 : Int32)))], [], i_S X q32.2)) rfl ?_
                  refine i_fg (lv' := [some (.ref 100), some (.ref 0), some (.ref 50), some (.int (l3 + (6 : Int32)))]) (And.intro rfl (And.intro rfl (And.intro rfl (And.intro rfl True.intro)))) ?_
                  exact hself (l3 + (6 : Int32)) q32.2 _ h
                · replace h := (if_neg c33).symm.trans h
                  refine i_rbF (c := q31.1 = q32.1) (t := 1466) (n := 385) rfl c33 ?_
                  refine i_rs 1 (cf' := (386, [some (.ref 100), some (.ref 0), some (.ref 50), some (.int l3)], [.int (0 : Int32)], i_S X q32.2)) rfl ?_
                  obtain rfl := Option.some.inj h
                  exact i_rretZ rfl (Or.inl rfl) rfl
              · replace h := (if_neg c28).symm.trans h
                refine i_rswF c28 ?_
                by_cases c34 : ((X.2 (Int32.toNatClampNeg l3)) &&& (63 : Int32)) = (5 : Int32)
                · replace h := (if_pos c34).symm.trans h
                  refine i_rswT c34 ?_
                  refine i_rs 5 (cf' := (392, [some (.ref 100), some (.ref 0), some (.ref 50), some (.int l3)], [.int (l3 + (1 : Int32)), .ref 100, .ref 0], i_S X M)) rfl ?_
                  obtain ⟨g35, h⟩ := i_gE h
                  refine i_riald (n := X.1) (cf' := (393, [some (.ref 100), some (.ref 0), some (.ref 50), some (.int l3)], [.int (X.2 (Int32.toNatClampNeg (l3 + (1 : Int32)))), .ref 0], i_S X M)) rfl rfl (by decide) g35 rfl ?_
                  obtain ⟨q36, hq36, h⟩ := i_bdE h
                  refine i_rcall (k := 42) (as := [.ref 0, .int (X.2 (Int32.toNatClampNeg (l3 + (1 : Int32))))]) (cf1 := (396, [some (.ref 100), some (.ref 0), some (.ref 50), some (.int l3)], [], i_S X M)) (cf' := (396, [some (.ref 100), some (.ref 0), some (.ref 50), some (.int l3)], [.int q36.1], i_S X q36.2)) rfl (ok_b_feed (by omega) hq36) rfl ?_
                  refine i_rs 5 (cf' := (401, [some (.ref 100), some (.ref 0), some (.ref 50), some (.int l3)], [.int (l3 + (1 : Int32)), .ref 100, .ref 50, .int q36.1], i_S X q36.2)) rfl ?_
                  refine i_riald (n := X.1) (cf' := (402, [some (.ref 100), some (.ref 0), some (.ref 50), some (.int l3)], [.int (X.2 (Int32.toNatClampNeg (l3 + (1 : Int32)))), .ref 50, .int q36.1], i_S X q36.2)) rfl rfl (by decide) g35 rfl ?_
                  obtain ⟨q37, hq37, h⟩ := i_bdE h
                  refine i_rcall (k := 189) (as := [.ref 50, .int (X.2 (Int32.toNatClampNeg (l3 + (1 : Int32))))]) (cf1 := (405, [some (.ref 100), some (.ref 0), some (.ref 50), some (.int l3)], [.int q36.1], i_S X q36.2)) (cf' := (405, [some (.ref 100), some (.ref 0), some (.ref 50), some (.int l3)], [.int q37.1, .int q36.1], i_S X q37.2)) rfl (ok_r_feed (by omega) hq37) rfl ?_
                  by_cases c38 : q36.1 = q37.1
                  · replace h := (if_pos c38).symm.trans h
                    refine i_rbT (c := q36.1 = q37.1) (t := 1466) (n := 408) rfl c38 ?_
                    refine i_rs 2 (cf' := (18, [some (.ref 100), some (.ref 0), some (.ref 50), some (.int (l3 + (6 : Int32)))], [], i_S X q37.2)) rfl ?_
                    refine i_fg (lv' := [some (.ref 100), some (.ref 0), some (.ref 50), some (.int (l3 + (6 : Int32)))]) (And.intro rfl (And.intro rfl (And.intro rfl (And.intro rfl True.intro)))) ?_
                    exact hself (l3 + (6 : Int32)) q37.2 _ h
                  · replace h := (if_neg c38).symm.trans h
                    refine i_rbF (c := q36.1 = q37.1) (t := 1466) (n := 408) rfl c38 ?_
                    refine i_rs 1 (cf' := (409, [some (.ref 100), some (.ref 0), some (.ref 50), some (.int l3)], [.int (0 : Int32)], i_S X q37.2)) rfl ?_
                    obtain rfl := Option.some.inj h
                    exact i_rretZ rfl (Or.inl rfl) rfl
                · replace h := (if_neg c34).symm.trans h
                  refine i_rswF c34 ?_
                  by_cases c39 : ((X.2 (Int32.toNatClampNeg l3)) &&& (63 : Int32)) = (6 : Int32)
                  · replace h := (if_pos c39).symm.trans h
                    refine i_rswT c39 ?_
                    refine i_rs 1 (cf' := (411, [some (.ref 100), some (.ref 0), some (.ref 50), some (.int l3)], [.ref 0], i_S X M)) rfl ?_
                    obtain ⟨q40, hq40, h⟩ := i_bdE h
                    refine i_rcall (k := 44) (as := [.ref 0]) (cf1 := (414, [some (.ref 100), some (.ref 0), some (.ref 50), some (.int l3)], [], i_S X M)) (cf' := (414, [some (.ref 100), some (.ref 0), some (.ref 50), some (.int l3)], [.int q40.1], i_S X q40.2)) rfl (ok_b_law (by omega) hq40) rfl ?_
                    refine i_rs 1 (cf' := (415, [some (.ref 100), some (.ref 0), some (.ref 50), some (.int l3)], [.ref 50, .int q40.1], i_S X q40.2)) rfl ?_
                    obtain ⟨q41, hq41, h⟩ := i_bdE h
                    refine i_rcall (k := 190) (as := [.ref 50]) (cf1 := (418, [some (.ref 100), some (.ref 0), some (.ref 50), some (.int l3)], [.int q40.1], i_S X q40.2)) (cf' := (418, [some (.ref 100), some (.ref 0), some (.ref 50), some (.int l3)], [.int q41.1, .int q40.1], i_S X q41.2)) rfl (ok_r_law (by omega) hq41) rfl ?_
                    by_cases c42 : q40.1 = q41.1
                    · replace h := (if_pos c42).symm.trans h
                      refine i_rbT (c := q40.1 = q41.1) (t := 1466) (n := 421) rfl c42 ?_
                      refine i_rs 2 (cf' := (18, [some (.ref 100), some (.ref 0), some (.ref 50), some (.int (l3 + (6 : Int32)))], [], i_S X q41.2)) rfl ?_
                      refine i_fg (lv' := [some (.ref 100), some (.ref 0), some (.ref 50), some (.int (l3 + (6 : Int32)))]) (And.intro rfl (And.intro rfl (And.intro rfl (And.intro rfl True.intro)))) ?_
                      exact hself (l3 + (6 : Int32)) q41.2 _ h
                    · replace h := (if_neg c42).symm.trans h
                      refine i_rbF (c := q40.1 = q41.1) (t := 1466) (n := 421) rfl c42 ?_
                      refine i_rs 1 (cf' := (422, [some (.ref 100), some (.ref 0), some (.ref 50), some (.int l3)], [.int (0 : Int32)], i_S X q41.2)) rfl ?_
                      obtain rfl := Option.some.inj h
                      exact i_rretZ rfl (Or.inl rfl) rfl
                  · replace h := (if_neg c39).symm.trans h
                    refine i_rswF c39 ?_
                    by_cases c43 : ((X.2 (Int32.toNatClampNeg l3)) &&& (63 : Int32)) = (7 : Int32)
                    · replace h := (if_pos c43).symm.trans h
                      refine i_rswT c43 ?_
                      refine i_rs 5 (cf' := (428, [some (.ref 100), some (.ref 0), some (.ref 50), some (.int l3)], [.int (l3 + (1 : Int32)), .ref 100, .ref 0], i_S X M)) rfl ?_
                      obtain ⟨g44, h⟩ := i_gE h
                      refine i_riald (n := X.1) (cf' := (429, [some (.ref 100), some (.ref 0), some (.ref 50), some (.int l3)], [.int (X.2 (Int32.toNatClampNeg (l3 + (1 : Int32)))), .ref 0], i_S X M)) rfl rfl (by decide) g44 rfl ?_
                      refine i_rs 4 (cf' := (433, [some (.ref 100), some (.ref 0), some (.ref 50), some (.int l3)], [.int (l3 + (2 : Int32)), .ref 100, .int (X.2 (Int32.toNatClampNeg (l3 + (1 : Int32)))), .ref 0], i_S X M)) rfl ?_
                      obtain ⟨g45, h⟩ := i_gE h
                      refine i_riald (n := X.1) (cf' := (434, [some (.ref 100), some (.ref 0), some (.ref 50), some (.int l3)], [.int (X.2 (Int32.toNatClampNeg (l3 + (2 : Int32)))), .int (X.2 (Int32.toNatClampNeg (l3 + (1 : Int32)))), .ref 0], i_S X M)) rfl rfl (by decide) g45 rfl ?_
                      refine i_rs 4 (cf' := (438, [some (.ref 100), some (.ref 0), some (.ref 50), some (.int l3)], [.int (l3 + (3 : Int32)), .ref 100, .int (X.2 (Int32.toNatClampNeg (l3 + (2 : Int32)))), .int (X.2 (Int32.toNatClampNeg (l3 + (1 : Int32)))), .ref 0], i_S X M)) rfl ?_
                      obtain ⟨g46, h⟩ := i_gE h
                      refine i_riald (n := X.1) (cf' := (439, [some (.ref 100), some (.ref 0), some (.ref 50), some (.int l3)], [.int (X.2 (Int32.toNatClampNeg (l3 + (3 : Int32)))), .int (X.2 (Int32.toNatClampNeg (l3 + (2 : Int32)))), .int (X.2 (Int32.toNatClampNeg (l3 + (1 : Int32)))), .ref 0], i_S X M)) rfl rfl (by decide) g46 rfl ?_
                      obtain ⟨q47, hq47, h⟩ := i_bdE h
                      refine i_rcall (k := 64) (as := [.ref 0, .int (X.2 (Int32.toNatClampNeg (l3 + (1 : Int32)))), .int (X.2 (Int32.toNatClampNeg (l3 + (2 : Int32)))), .int (X.2 (Int32.toNatClampNeg (l3 + (3 : Int32))))]) (cf1 := (442, [some (.ref 100), some (.ref 0), some (.ref 50), some (.int l3)], [], i_S X M)) (cf' := (442, [some (.ref 100), some (.ref 0), some (.ref 50), some (.int l3)], [.int q47.1], i_S X q47.2)) rfl (ok_b_hum (by omega) hq47) rfl ?_
                      refine i_rs 5 (cf' := (447, [some (.ref 100), some (.ref 0), some (.ref 50), some (.int l3)], [.int (l3 + (1 : Int32)), .ref 100, .ref 50, .int q47.1], i_S X q47.2)) rfl ?_
                      refine i_riald (n := X.1) (cf' := (448, [some (.ref 100), some (.ref 0), some (.ref 50), some (.int l3)], [.int (X.2 (Int32.toNatClampNeg (l3 + (1 : Int32)))), .ref 50, .int q47.1], i_S X q47.2)) rfl rfl (by decide) g44 rfl ?_
                      refine i_rs 4 (cf' := (452, [some (.ref 100), some (.ref 0), some (.ref 50), some (.int l3)], [.int (l3 + (2 : Int32)), .ref 100, .int (X.2 (Int32.toNatClampNeg (l3 + (1 : Int32)))), .ref 50, .int q47.1], i_S X q47.2)) rfl ?_
                      refine i_riald (n := X.1) (cf' := (453, [some (.ref 100), some (.ref 0), some (.ref 50), some (.int l3)], [.int (X.2 (Int32.toNatClampNeg (l3 + (2 : Int32)))), .int (X.2 (Int32.toNatClampNeg (l3 + (1 : Int32)))), .ref 50, .int q47.1], i_S X q47.2)) rfl rfl (by decide) g45 rfl ?_
                      refine i_rs 4 (cf' := (457, [some (.ref 100), some (.ref 0), some (.ref 50), some (.int l3)], [.int (l3 + (3 : Int32)), .ref 100, .int (X.2 (Int32.toNatClampNeg (l3 + (2 : Int32)))), .int (X.2 (Int32.toNatClampNeg (l3 + (1 : Int32)))), .ref 50, .int q47.1], i_S X q47.2)) rfl ?_
                      refine i_riald (n := X.1) (cf' := (458, [some (.ref 100), some (.ref 0), some (.ref 50), some (.int l3)], [.int (X.2 (Int32.toNatClampNeg (l3 + (3 : Int32)))), .int (X.2 (Int32.toNatClampNeg (l3 + (2 : Int32)))), .int (X.2 (Int32.toNatClampNeg (l3 + (1 : Int32)))), .ref 50, .int q47.1], i_S X q47.2)) rfl rfl (by decide) g46 rfl ?_
                      obtain ⟨q48, hq48, h⟩ := i_bdE h
                      refine i_rcall (k := 202) (as := [.ref 50, .int (X.2 (Int32.toNatClampNeg (l3 + (1 : Int32)))), .int (X.2 (Int32.toNatClampNeg (l3 + (2 : Int32)))), .int (X.2 (Int32.toNatClampNeg (l3 + (3 : Int32))))]) (cf1 := (461, [some (.ref 100), some (.ref 0), some (.ref 50), some (.int l3)], [.int q47.1], i_S X q47.2)) (cf' := (461, [some (.ref 100), some (.ref 0), some (.ref 50), some (.int l3)], [.int q48.1, .int q47.1], i_S X q48.2)) rfl (ok_r_hum (by omega) hq48) rfl ?_
                      by_cases c49 : q47.1 = q48.1
                      · replace h := (if_pos c49).symm.trans h
                        refine i_rbT (c := q47.1 = q48.1) (t := 1466) (n := 464) rfl c49 ?_
                        refine i_rs 2 (cf' := (18, [some (.ref 100), some (.ref 0), some (.ref 50), some (.int (l3 + (6 : Int32)))], [], i_S X q48.2)) rfl ?_
                        refine i_fg (lv' := [some (.ref 100), some (.ref 0), some (.ref 50), some (.int (l3 + (6 : Int32)))]) (And.intro rfl (And.intro rfl (And.intro rfl (And.intro rfl True.intro)))) ?_
                        exact hself (l3 + (6 : Int32)) q48.2 _ h
                      · replace h := (if_neg c49).symm.trans h
                        refine i_rbF (c := q47.1 = q48.1) (t := 1466) (n := 464) rfl c49 ?_
                        refine i_rs 1 (cf' := (465, [some (.ref 100), some (.ref 0), some (.ref 50), some (.int l3)], [.int (0 : Int32)], i_S X q48.2)) rfl ?_
                        obtain rfl := Option.some.inj h
                        exact i_rretZ rfl (Or.inl rfl) rfl
                    · replace h := (if_neg c43).symm.trans h
                      refine i_rswF c43 ?_
                      by_cases c50 : ((X.2 (Int32.toNatClampNeg l3)) &&& (63 : Int32)) = (8 : Int32)
                      · replace h := (if_pos c50).symm.trans h
                        refine i_rswT c50 ?_
                        refine i_rs 5 (cf' := (471, [some (.ref 100), some (.ref 0), some (.ref 50), some (.int l3)], [.int (l3 + (1 : Int32)), .ref 100, .ref 0], i_S X M)) rfl ?_
                        obtain ⟨g51, h⟩ := i_gE h
                        refine i_riald (n := X.1) (cf' := (472, [some (.ref 100), some (.ref 0), some (.ref 50), some (.int l3)], [.int (X.2 (Int32.toNatClampNeg (l3 + (1 : Int32)))), .ref 0], i_S X M)) rfl rfl (by decide) g51 rfl ?_
                        refine i_rs 4 (cf' := (476, [some (.ref 100), some (.ref 0), some (.ref 50), some (.int l3)], [.int (l3 + (2 : Int32)), .ref 100, .int (X.2 (Int32.toNatClampNeg (l3 + (1 : Int32)))), .ref 0], i_S X M)) rfl ?_
                        obtain ⟨g52, h⟩ := i_gE h
                        refine i_riald (n := X.1) (cf' := (477, [some (.ref 100), some (.ref 0), some (.ref 50), some (.int l3)], [.int (X.2 (Int32.toNatClampNeg (l3 + (2 : Int32)))), .int (X.2 (Int32.toNatClampNeg (l3 + (1 : Int32)))), .ref 0], i_S X M)) rfl rfl (by decide) g52 rfl ?_
                        obtain ⟨q53, hq53, h⟩ := i_bdE h
                        refine i_rcall (k := 74) (as := [.ref 0, .int (X.2 (Int32.toNatClampNeg (l3 + (1 : Int32)))), .int (X.2 (Int32.toNatClampNeg (l3 + (2 : Int32))))]) (cf1 := (480, [some (.ref 100), some (.ref 0), some (.ref 50), some (.int l3)], [], i_S X M)) (cf' := (480, [some (.ref 100), some (.ref 0), some (.ref 50), some (.int l3)], [.int q53.1], i_S X q53.2)) rfl (ok_b_heard (by omega) hq53) rfl ?_
                        refine i_rs 5 (cf' := (485, [some (.ref 100), some (.ref 0), some (.ref 50), some (.int l3)], [.int (l3 + (1 : Int32)), .ref 100, .ref 50, .int q53.1], i_S X q53.2)) rfl ?_
                        refine i_riald (n := X.1) (cf' := (486, [some (.ref 100), some (.ref 0), some (.ref 50), some (.int l3)], [.int (X.2 (Int32.toNatClampNeg (l3 + (1 : Int32)))), .ref 50, .int q53.1], i_S X q53.2)) rfl rfl (by decide) g51 rfl ?_
                        refine i_rs 4 (cf' := (490, [some (.ref 100), some (.ref 0), some (.ref 50), some (.int l3)], [.int (l3 + (2 : Int32)), .ref 100, .int (X.2 (Int32.toNatClampNeg (l3 + (1 : Int32)))), .ref 50, .int q53.1], i_S X q53.2)) rfl ?_
                        refine i_riald (n := X.1) (cf' := (491, [some (.ref 100), some (.ref 0), some (.ref 50), some (.int l3)], [.int (X.2 (Int32.toNatClampNeg (l3 + (2 : Int32)))), .int (X.2 (Int32.toNatClampNeg (l3 + (1 : Int32)))), .ref 50, .int q53.1], i_S X q53.2)) rfl rfl (by decide) g52 rfl ?_
                        obtain ⟨q54, hq54, h⟩ := i_bdE h
                        refine i_rcall (k := 207) (as := [.ref 50, .int (X.2 (Int32.toNatClampNeg (l3 + (1 : Int32)))), .int (X.2 (Int32.toNatClampNeg (l3 + (2 : Int32))))]) (cf1 := (494, [some (.ref 100), some (.ref 0), some (.ref 50), some (.int l3)], [.int q53.1], i_S X q53.2)) (cf' := (494, [some (.ref 100), some (.ref 0), some (.ref 50), some (.int l3)], [.int q54.1, .int q53.1], i_S X q54.2)) rfl (ok_r_heard (by omega) hq54) rfl ?_
                        by_cases c55 : q53.1 = q54.1
                        · replace h := (if_pos c55).symm.trans h
                          refine i_rbT (c := q53.1 = q54.1) (t := 1466) (n := 497) rfl c55 ?_
                          refine i_rs 2 (cf' := (18, [some (.ref 100), some (.ref 0), some (.ref 50), some (.int (l3 + (6 : Int32)))], [], i_S X q54.2)) rfl ?_
                          refine i_fg (lv' := [some (.ref 100), some (.ref 0), some (.ref 50), some (.int (l3 + (6 : Int32)))]) (And.intro rfl (And.intro rfl (And.intro rfl (And.intro rfl True.intro)))) ?_
                          exact hself (l3 + (6 : Int32)) q54.2 _ h
                        · replace h := (if_neg c55).symm.trans h
                          refine i_rbF (c := q53.1 = q54.1) (t := 1466) (n := 497) rfl c55 ?_
                          refine i_rs 1 (cf' := (498, [some (.ref 100), some (.ref 0), some (.ref 50), some (.int l3)], [.int (0 : Int32)], i_S X q54.2)) rfl ?_
                          obtain rfl := Option.some.inj h
                          exact i_rretZ rfl (Or.inl rfl) rfl
                      · replace h := (if_neg c50).symm.trans h
                        refine i_rswF c50 ?_
                        by_cases c56 : ((X.2 (Int32.toNatClampNeg l3)) &&& (63 : Int32)) = (9 : Int32)
                        · replace h := (if_pos c56).symm.trans h
                          refine i_rswT c56 ?_
                          refine i_rs 5 (cf' := (504, [some (.ref 100), some (.ref 0), some (.ref 50), some (.int l3)], [.int (l3 + (1 : Int32)), .ref 100, .ref 0], i_S X M)) rfl ?_
                          obtain ⟨g57, h⟩ := i_gE h
                          refine i_riald (n := X.1) (cf' := (505, [some (.ref 100), some (.ref 0), some (.ref 50), some (.int l3)], [.int (X.2 (Int32.toNatClampNeg (l3 + (1 : Int32)))), .ref 0], i_S X M)) rfl rfl (by decide) g57 rfl ?_
                          refine i_rs 4 (cf' := (509, [some (.ref 100), some (.ref 0), some (.ref 50), some (.int l3)], [.int (l3 + (2 : Int32)), .ref 100, .int (X.2 (Int32.toNatClampNeg (l3 + (1 : Int32)))), .ref 0], i_S X M)) rfl ?_
                          obtain ⟨g58, h⟩ := i_gE h
                          refine i_riald (n := X.1) (cf' := (510, [some (.ref 100), some (.ref 0), some (.ref 50), some (.int l3)], [.int (X.2 (Int32.toNatClampNeg (l3 + (2 : Int32)))), .int (X.2 (Int32.toNatClampNeg (l3 + (1 : Int32)))), .ref 0], i_S X M)) rfl rfl (by decide) g58 rfl ?_
                          refine i_rs 4 (cf' := (514, [some (.ref 100), some (.ref 0), some (.ref 50), some (.int l3)], [.int (l3 + (3 : Int32)), .ref 100, .int (X.2 (Int32.toNatClampNeg (l3 + (2 : Int32)))), .int (X.2 (Int32.toNatClampNeg (l3 + (1 : Int32)))), .ref 0], i_S X M)) rfl ?_
                          obtain ⟨g59, h⟩ := i_gE h
                          refine i_riald (n := X.1) (cf' := (515, [some (.ref 100), some (.ref 0), some (.ref 50), some (.int l3)], [.int (X.2 (Int32.toNatClampNeg (l3 + (3 : Int32)))), .int (X.2 (Int32.toNatClampNeg (l3 + (2 : Int32)))), .int (X.2 (Int32.toNatClampNeg (l3 + (1 : Int32)))), .ref 0], i_S X M)) rfl rfl (by decide) g59 rfl ?_
                          obtain ⟨q60, hq60, h⟩ := i_bdE h
                          refine i_rcall (k := 77) (as := [.ref 0, .int (X.2 (Int32.toNatClampNeg (l3 + (1 : Int32)))), .int (X.2 (Int32.toNatClampNeg (l3 + (2 : Int32)))), .int (X.2 (Int32.toNatClampNeg (l3 + (3 : Int32))))]) (cf1 := (518, [some (.ref 100), some (.ref 0), some (.ref 50), some (.int l3)], [], i_S X M)) (cf' := (518, [some (.ref 100), some (.ref 0), some (.ref 50), some (.int l3)], [.int q60.1], i_S X q60.2)) rfl (ok_b_hearing (by omega) hq60) rfl ?_
                          refine i_rs 5 (cf' := (523, [some (.ref 100), some (.ref 0), some (.ref 50), some (.int l3)], [.int (l3 + (1 : Int32)), .ref 100, .ref 50, .int q60.1], i_S X q60.2)) rfl ?_
                          refine i_riald (n := X.1) (cf' := (524, [some (.ref 100), some (.ref 0), some (.ref 50), some (.int l3)], [.int (X.2 (Int32.toNatClampNeg (l3 + (1 : Int32)))), .ref 50, .int q60.1], i_S X q60.2)) rfl rfl (by decide) g57 rfl ?_
                          refine i_rs 4 (cf' := (528, [some (.ref 100), some (.ref 0), some (.ref 50), some (.int l3)], [.int (l3 + (2 : Int32)), .ref 100, .int (X.2 (Int32.toNatClampNeg (l3 + (1 : Int32)))), .ref 50, .int q60.1], i_S X q60.2)) rfl ?_
                          refine i_riald (n := X.1) (cf' := (529, [some (.ref 100), some (.ref 0), some (.ref 50), some (.int l3)], [.int (X.2 (Int32.toNatClampNeg (l3 + (2 : Int32)))), .int (X.2 (Int32.toNatClampNeg (l3 + (1 : Int32)))), .ref 50, .int q60.1], i_S X q60.2)) rfl rfl (by decide) g58 rfl ?_
                          refine i_rs 4 (cf' := (533, [some (.ref 100), some (.ref 0), some (.ref 50), some (.int l3)], [.int (l3 + (3 : Int32)), .ref 100, .int (X.2 (Int32.toNatClampNeg (l3 + (2 : Int32)))), .int (X.2 (Int32.toNatClampNeg (l3 + (1 : Int32)))), .ref 50, .int q60.1], i_S X q60.2)) rfl ?_
                          refine i_riald (n := X.1) (cf' := (534, [some (.ref 100), some (.ref 0), some (.ref 50), some (.int l3)], [.int (X.2 (Int32.toNatClampNeg (l3 + (3 : Int32)))), .int (X.2 (Int32.toNatClampNeg (l3 + (2 : Int32)))), .int (X.2 (Int32.toNatClampNeg (l3 + (1 : Int32)))), .ref 50, .int q60.1], i_S X q60.2)) rfl rfl (by decide) g59 rfl ?_
                          obtain ⟨q61, hq61, h⟩ := i_bdE h
                          refine i_rcall (k := 210) (as := [.ref 50, .int (X.2 (Int32.toNatClampNeg (l3 + (1 : Int32)))), .int (X.2 (Int32.toNatClampNeg (l3 + (2 : Int32)))), .int (X.2 (Int32.toNatClampNeg (l3 + (3 : Int32))))]) (cf1 := (537, [some (.ref 100), some (.ref 0), some (.ref 50), some (.int l3)], [.int q60.1], i_S X q60.2)) (cf' := (537, [some (.ref 100), some (.ref 0), some (.ref 50), some (.int l3)], [.int q61.1, .int q60.1], i_S X q61.2)) rfl (ok_r_hearing (by omega) hq61) rfl ?_
                          by_cases c62 : q60.1 = q61.1
                          · replace h := (if_pos c62).symm.trans h
                            refine i_rbT (c := q60.1 = q61.1) (t := 1466) (n := 540) rfl c62 ?_
                            refine i_rs 2 (cf' := (18, [some (.ref 100), some (.ref 0), some (.ref 50), some (.int (l3 + (6 : Int32)))], [], i_S X q61.2)) rfl ?_
                            refine i_fg (lv' := [some (.ref 100), some (.ref 0), some (.ref 50), some (.int (l3 + (6 : Int32)))]) (And.intro rfl (And.intro rfl (And.intro rfl (And.intro rfl True.intro)))) ?_
                            exact hself (l3 + (6 : Int32)) q61.2 _ h
                          · replace h := (if_neg c62).symm.trans h
                            refine i_rbF (c := q60.1 = q61.1) (t := 1466) (n := 540) rfl c62 ?_
                            refine i_rs 1 (cf' := (541, [some (.ref 100), some (.ref 0), some (.ref 50), some (.int l3)], [.int (0 : Int32)], i_S X q61.2)) rfl ?_
                            obtain rfl := Option.some.inj h
                            exact i_rretZ rfl (Or.inl rfl) rfl
                        · replace h := (if_neg c56).symm.trans h
                          refine i_rswF c56 ?_
                          by_cases c63 : ((X.2 (Int32.toNatClampNeg l3)) &&& (63 : Int32)) = (10 : Int32)
                          · replace h := (if_pos c63).symm.trans h
                            refine i_rswT c63 ?_
                            refine i_rs 1 (cf' := (543, [some (.ref 100), some (.ref 0), some (.ref 50), some (.int l3)], [.ref 0], i_S X M)) rfl ?_
                            obtain ⟨q64, hq64, h⟩ := i_bdE h
                            refine i_rcall (k := 79) (as := [.ref 0]) (cf1 := (546, [some (.ref 100), some (.ref 0), some (.ref 50), some (.int l3)], [], i_S X M)) (cf' := (546, [some (.ref 100), some (.ref 0), some (.ref 50), some (.int l3)], [.int q64.1], i_S X q64.2)) rfl (ok_b_forget (by omega) hq64) rfl ?_
                            refine i_rs 1 (cf' := (547, [some (.ref 100), some (.ref 0), some (.ref 50), some (.int l3)], [.ref 50, .int q64.1], i_S X q64.2)) rfl ?_
                            obtain ⟨q65, hq65, h⟩ := i_bdE h
                            refine i_rcall (k := 211) (as := [.ref 50]) (cf1 := (550, [some (.ref 100), some (.ref 0), some (.ref 50), some (.int l3)], [.int q64.1], i_S X q64.2)) (cf' := (550, [some (.ref 100), some (.ref 0), some (.ref 50), some (.int l3)], [.int q65.1, .int q64.1], i_S X q65.2)) rfl (ok_r_forget (by omega) hq65) rfl ?_
                            by_cases c66 : q64.1 = q65.1
                            · replace h := (if_pos c66).symm.trans h
                              refine i_rbT (c := q64.1 = q65.1) (t := 1466) (n := 553) rfl c66 ?_
                              refine i_rs 2 (cf' := (18, [some (.ref 100), some (.ref 0), some (.ref 50), some (.int (l3 + (6 : Int32)))], [], i_S X q65.2)) rfl ?_
                              refine i_fg (lv' := [some (.ref 100), some (.ref 0), some (.ref 50), some (.int (l3 + (6 : Int32)))]) (And.intro rfl (And.intro rfl (And.intro rfl (And.intro rfl True.intro)))) ?_
                              exact hself (l3 + (6 : Int32)) q65.2 _ h
                            · replace h := (if_neg c66).symm.trans h
                              refine i_rbF (c := q64.1 = q65.1) (t := 1466) (n := 553) rfl c66 ?_
                              refine i_rs 1 (cf' := (554, [some (.ref 100), some (.ref 0), some (.ref 50), some (.int l3)], [.int (0 : Int32)], i_S X q65.2)) rfl ?_
                              obtain rfl := Option.some.inj h
                              exact i_rretZ rfl (Or.inl rfl) rfl
                          · replace h := (if_neg c63).symm.trans h
                            refine i_rswF c63 ?_
                            by_cases c67 : ((X.2 (Int32.toNatClampNeg l3)) &&& (63 : Int32)) = (11 : Int32)
                            · replace h := (if_pos c67).symm.trans h
                              refine i_rswT c67 ?_
                              refine i_rs 5 (cf' := (560, [some (.ref 100), some (.ref 0), some (.ref 50), some (.int l3)], [.int (l3 + (1 : Int32)), .ref 100, .ref 0], i_S X M)) rfl ?_
                              obtain ⟨g68, h⟩ := i_gE h
                              refine i_riald (n := X.1) (cf' := (561, [some (.ref 100), some (.ref 0), some (.ref 50), some (.int l3)], [.int (X.2 (Int32.toNatClampNeg (l3 + (1 : Int32)))), .ref 0], i_S X M)) rfl rfl (by decide) g68 rfl ?_
                              refine i_rs 4 (cf' := (565, [some (.ref 100), some (.ref 0), some (.ref 50), some (.int l3)], [.int (l3 + (2 : Int32)), .ref 100, .int (X.2 (Int32.toNatClampNeg (l3 + (1 : Int32)))), .ref 0], i_S X M)) rfl ?_
                              obtain ⟨g69, h⟩ := i_gE h
                              refine i_riald (n := X.1) (cf' := (566, [some (.ref 100), some (.ref 0), some (.ref 50), some (.int l3)], [.int (X.2 (Int32.toNatClampNeg (l3 + (2 : Int32)))), .int (X.2 (Int32.toNatClampNeg (l3 + (1 : Int32)))), .ref 0], i_S X M)) rfl rfl (by decide) g69 rfl ?_
                              obtain ⟨q70, hq70, h⟩ := i_bdE h
                              refine i_rcall (k := 80) (as := [.ref 0, .int (X.2 (Int32.toNatClampNeg (l3 + (1 : Int32)))), .int (X.2 (Int32.toNatClampNeg (l3 + (2 : Int32))))]) (cf1 := (569, [some (.ref 100), some (.ref 0), some (.ref 50), some (.int l3)], [], i_S X M)) (cf' := (569, [some (.ref 100), some (.ref 0), some (.ref 50), some (.int l3)], [.int q70.1], i_S X q70.2)) rfl (ok_b_ways (by omega) hq70) rfl ?_
                              refine i_rs 5 (cf' := (574, [some (.ref 100), some (.ref 0), some (.ref 50), some (.int l3)], [.int (l3 + (1 : Int32)), .ref 100, .ref 50, .int q70.1], i_S X q70.2)) rfl ?_
                              refine i_riald (n := X.1) (cf' := (575, [some (.ref 100), some (.ref 0), some (.ref 50), some (.int l3)], [.int (X.2 (Int32.toNatClampNeg (l3 + (1 : Int32)))), .ref 50, .int q70.1], i_S X q70.2)) rfl rfl (by decide) g68 rfl ?_
                              refine i_rs 4 (cf' := (579, [some (.ref 100), some (.ref 0), some (.ref 50), some (.int l3)], [.int (l3 + (2 : Int32)), .ref 100, .int (X.2 (Int32.toNatClampNeg (l3 + (1 : Int32)))), .ref 50, .int q70.1], i_S X q70.2)) rfl ?_
                              refine i_riald (n := X.1) (cf' := (580, [some (.ref 100), some (.ref 0), some (.ref 50), some (.int l3)], [.int (X.2 (Int32.toNatClampNeg (l3 + (2 : Int32)))), .int (X.2 (Int32.toNatClampNeg (l3 + (1 : Int32)))), .ref 50, .int q70.1], i_S X q70.2)) rfl rfl (by decide) g69 rfl ?_
                              obtain ⟨q71, hq71, h⟩ := i_bdE h
                              refine i_rcall (k := 212) (as := [.ref 50, .int (X.2 (Int32.toNatClampNeg (l3 + (1 : Int32)))), .int (X.2 (Int32.toNatClampNeg (l3 + (2 : Int32))))]) (cf1 := (583, [some (.ref 100), some (.ref 0), some (.ref 50), some (.int l3)], [.int q70.1], i_S X q70.2)) (cf' := (583, [some (.ref 100), some (.ref 0), some (.ref 50), some (.int l3)], [.int q71.1, .int q70.1], i_S X q71.2)) rfl (ok_r_ways (by omega) hq71) rfl ?_
                              by_cases c72 : q70.1 = q71.1
                              · replace h := (if_pos c72).symm.trans h
                                refine i_rbT (c := q70.1 = q71.1) (t := 1466) (n := 586) rfl c72 ?_
                                refine i_rs 2 (cf' := (18, [some (.ref 100), some (.ref 0), some (.ref 50), some (.int (l3 + (6 : Int32)))], [], i_S X q71.2)) rfl ?_
                                refine i_fg (lv' := [some (.ref 100), some (.ref 0), some (.ref 50), some (.int (l3 + (6 : Int32)))]) (And.intro rfl (And.intro rfl (And.intro rfl (And.intro rfl True.intro)))) ?_
                                exact hself (l3 + (6 : Int32)) q71.2 _ h
                              · replace h := (if_neg c72).symm.trans h
                                refine i_rbF (c := q70.1 = q71.1) (t := 1466) (n := 586) rfl c72 ?_
                                refine i_rs 1 (cf' := (587, [some (.ref 100), some (.ref 0), some (.ref 50), some (.int l3)], [.int (0 : Int32)], i_S X q71.2)) rfl ?_
                                obtain rfl := Option.some.inj h
                                exact i_rretZ rfl (Or.inl rfl) rfl
                            · replace h := (if_neg c67).symm.trans h
                              refine i_rswF c67 ?_
                              by_cases c73 : ((X.2 (Int32.toNatClampNeg l3)) &&& (63 : Int32)) = (12 : Int32)
                              · replace h := (if_pos c73).symm.trans h
                                refine i_rswT c73 ?_
                                refine i_rs 5 (cf' := (593, [some (.ref 100), some (.ref 0), some (.ref 50), some (.int l3)], [.int (l3 + (1 : Int32)), .ref 100, .ref 0], i_S X M)) rfl ?_
                                obtain ⟨g74, h⟩ := i_gE h
                                refine i_riald (n := X.1) (cf' := (594, [some (.ref 100), some (.ref 0), some (.ref 50), some (.int l3)], [.int (X.2 (Int32.toNatClampNeg (l3 + (1 : Int32)))), .ref 0], i_S X M)) rfl rfl (by decide) g74 rfl ?_
                                refine i_rs 4 (cf' := (598, [some (.ref 100), some (.ref 0), some (.ref 50), some (.int l3)], [.int (l3 + (2 : Int32)), .ref 100, .int (X.2 (Int32.toNatClampNeg (l3 + (1 : Int32)))), .ref 0], i_S X M)) rfl ?_
                                obtain ⟨g75, h⟩ := i_gE h
                                refine i_riald (n := X.1) (cf' := (599, [some (.ref 100), some (.ref 0), some (.ref 50), some (.int l3)], [.int (X.2 (Int32.toNatClampNeg (l3 + (2 : Int32)))), .int (X.2 (Int32.toNatClampNeg (l3 + (1 : Int32)))), .ref 0], i_S X M)) rfl rfl (by decide) g75 rfl ?_
                                obtain ⟨q76, hq76, h⟩ := i_bdE h
                                refine i_rcall (k := 90) (as := [.ref 0, .int (X.2 (Int32.toNatClampNeg (l3 + (1 : Int32)))), .int (X.2 (Int32.toNatClampNeg (l3 + (2 : Int32))))]) (cf1 := (602, [some (.ref 100), some (.ref 0), some (.ref 50), some (.int l3)], [], i_S X M)) (cf' := (602, [some (.ref 100), some (.ref 0), some (.ref 50), some (.int l3)], [.int q76.1], i_S X q76.2)) rfl (ok_b_sure (by omega) hq76) rfl ?_
                                refine i_rs 5 (cf' := (607, [some (.ref 100), some (.ref 0), some (.ref 50), some (.int l3)], [.int (l3 + (1 : Int32)), .ref 100, .ref 50, .int q76.1], i_S X q76.2)) rfl ?_
                                refine i_riald (n := X.1) (cf' := (608, [some (.ref 100), some (.ref 0), some (.ref 50), some (.int l3)], [.int (X.2 (Int32.toNatClampNeg (l3 + (1 : Int32)))), .ref 50, .int q76.1], i_S X q76.2)) rfl rfl (by decide) g74 rfl ?_
                                refine i_rs 4 (cf' := (612, [some (.ref 100), some (.ref 0), some (.ref 50), some (.int l3)], [.int (l3 + (2 : Int32)), .ref 100, .int (X.2 (Int32.toNatClampNeg (l3 + (1 : Int32)))), .ref 50, .int q76.1], i_S X q76.2)) rfl ?_
                                refine i_riald (n := X.1) (cf' := (613, [some (.ref 100), some (.ref 0), some (.ref 50), some (.int l3)], [.int (X.2 (Int32.toNatClampNeg (l3 + (2 : Int32)))), .int (X.2 (Int32.toNatClampNeg (l3 + (1 : Int32)))), .ref 50, .int q76.1], i_S X q76.2)) rfl rfl (by decide) g75 rfl ?_
                                obtain ⟨q77, hq77, h⟩ := i_bdE h
                                refine i_rcall (k := 219) (as := [.ref 50, .int (X.2 (Int32.toNatClampNeg (l3 + (1 : Int32)))), .int (X.2 (Int32.toNatClampNeg (l3 + (2 : Int32))))]) (cf1 := (616, [some (.ref 100), some (.ref 0), some (.ref 50), some (.int l3)], [.int q76.1], i_S X q76.2)) (cf' := (616, [some (.ref 100), some (.ref 0), some (.ref 50), some (.int l3)], [.int q77.1, .int q76.1], i_S X q77.2)) rfl (ok_r_sure (by omega) hq77) rfl ?_
                                by_cases c78 : q76.1 = q77.1
                                · replace h := (if_pos c78).symm.trans h
                                  refine i_rbT (c := q76.1 = q77.1) (t := 1466) (n := 619) rfl c78 ?_
                                  refine i_rs 2 (cf' := (18, [some (.ref 100), some (.ref 0), some (.ref 50), some (.int (l3 + (6 : Int32)))], [], i_S X q77.2)) rfl ?_
                                  refine i_fg (lv' := [some (.ref 100), some (.ref 0), some (.ref 50), some (.int (l3 + (6 : Int32)))]) (And.intro rfl (And.intro rfl (And.intro rfl (And.intro rfl True.intro)))) ?_
                                  exact hself (l3 + (6 : Int32)) q77.2 _ h
                                · replace h := (if_neg c78).symm.trans h
                                  refine i_rbF (c := q76.1 = q77.1) (t := 1466) (n := 619) rfl c78 ?_
                                  refine i_rs 1 (cf' := (620, [some (.ref 100), some (.ref 0), some (.ref 50), some (.int l3)], [.int (0 : Int32)], i_S X q77.2)) rfl ?_
                                  obtain rfl := Option.some.inj h
                                  exact i_rretZ rfl (Or.inl rfl) rfl
                              · replace h := (if_neg c73).symm.trans h
                                refine i_rswF c73 ?_
                                by_cases c79 : ((X.2 (Int32.toNatClampNeg l3)) &&& (63 : Int32)) = (13 : Int32)
                                · replace h := (if_pos c79).symm.trans h
                                  refine i_rswT c79 ?_
                                  refine i_rs 5 (cf' := (626, [some (.ref 100), some (.ref 0), some (.ref 50), some (.int l3)], [.int (l3 + (1 : Int32)), .ref 100, .ref 0], i_S X M)) rfl ?_
                                  obtain ⟨g80, h⟩ := i_gE h
                                  refine i_riald (n := X.1) (cf' := (627, [some (.ref 100), some (.ref 0), some (.ref 50), some (.int l3)], [.int (X.2 (Int32.toNatClampNeg (l3 + (1 : Int32)))), .ref 0], i_S X M)) rfl rfl (by decide) g80 rfl ?_
                                  refine i_rs 4 (cf' := (631, [some (.ref 100), some (.ref 0), some (.ref 50), some (.int l3)], [.int (l3 + (2 : Int32)), .ref 100, .int (X.2 (Int32.toNatClampNeg (l3 + (1 : Int32)))), .ref 0], i_S X M)) rfl ?_
                                  obtain ⟨g81, h⟩ := i_gE h
                                  refine i_riald (n := X.1) (cf' := (632, [some (.ref 100), some (.ref 0), some (.ref 50), some (.int l3)], [.int (X.2 (Int32.toNatClampNeg (l3 + (2 : Int32)))), .int (X.2 (Int32.toNatClampNeg (l3 + (1 : Int32)))), .ref 0], i_S X M)) rfl rfl (by decide) g81 rfl ?_
                                  refine i_rs 4 (cf' := (636, [some (.ref 100), some (.ref 0), some (.ref 50), some (.int l3)], [.int (l3 + (3 : Int32)), .ref 100, .int (X.2 (Int32.toNatClampNeg (l3 + (2 : Int32)))), .int (X.2 (Int32.toNatClampNeg (l3 + (1 : Int32)))), .ref 0], i_S X M)) rfl ?_
                                  obtain ⟨g82, h⟩ := i_gE h
                                  refine i_riald (n := X.1) (cf' := (637, [some (.ref 100), some (.ref 0), some (.ref 50), some (.int l3)], [.int (X.2 (Int32.toNatClampNeg (l3 + (3 : Int32)))), .int (X.2 (Int32.toNatClampNeg (l3 + (2 : Int32)))), .int (X.2 (Int32.toNatClampNeg (l3 + (1 : Int32)))), .ref 0], i_S X M)) rfl rfl (by decide) g82 rfl ?_
                                  obtain ⟨q83, hq83, h⟩ := i_bdE h
                                  refine i_rcall (k := 92) (as := [.ref 0, .int (X.2 (Int32.toNatClampNeg (l3 + (1 : Int32)))), .int (X.2 (Int32.toNatClampNeg (l3 + (2 : Int32)))), .int (X.2 (Int32.toNatClampNeg (l3 + (3 : Int32))))]) (cf1 := (640, [some (.ref 100), some (.ref 0), some (.ref 50), some (.int l3)], [], i_S X M)) (cf' := (640, [some (.ref 100), some (.ref 0), some (.ref 50), some (.int l3)], [.int q83.1], i_S X q83.2)) rfl (ok_b_chance (by omega) hq83) rfl ?_
                                  refine i_rs 5 (cf' := (645, [some (.ref 100), some (.ref 0), some (.ref 50), some (.int l3)], [.int (l3 + (1 : Int32)), .ref 100, .ref 50, .int q83.1], i_S X q83.2)) rfl ?_
                                  refine i_riald (n := X.1) (cf' := (646, [some (.ref 100), some (.ref 0), some (.ref 50), some (.int l3)], [.int (X.2 (Int32.toNatClampNeg (l3 + (1 : Int32)))), .ref 50, .int q83.1], i_S X q83.2)) rfl rfl (by decide) g80 rfl ?_
                                  refine i_rs 4 (cf' := (650, [some (.ref 100), some (.ref 0), some (.ref 50), some (.int l3)], [.int (l3 + (2 : Int32)), .ref 100, .int (X.2 (Int32.toNatClampNeg (l3 + (1 : Int32)))), .ref 50, .int q83.1], i_S X q83.2)) rfl ?_
                                  refine i_riald (n := X.1) (cf' := (651, [some (.ref 100), some (.ref 0), some (.ref 50), some (.int l3)], [.int (X.2 (Int32.toNatClampNeg (l3 + (2 : Int32)))), .int (X.2 (Int32.toNatClampNeg (l3 + (1 : Int32)))), .ref 50, .int q83.1], i_S X q83.2)) rfl rfl (by decide) g81 rfl ?_
                                  refine i_rs 4 (cf' := (655, [some (.ref 100), some (.ref 0), some (.ref 50), some (.int l3)], [.int (l3 + (3 : Int32)), .ref 100, .int (X.2 (Int32.toNatClampNeg (l3 + (2 : Int32)))), .int (X.2 (Int32.toNatClampNeg (l3 + (1 : Int32)))), .ref 50, .int q83.1], i_S X q83.2)) rfl ?_
                                  refine i_riald (n := X.1) (cf' := (656, [some (.ref 100), some (.ref 0), some (.ref 50), some (.int l3)], [.int (X.2 (Int32.toNatClampNeg (l3 + (3 : Int32)))), .int (X.2 (Int32.toNatClampNeg (l3 + (2 : Int32)))), .int (X.2 (Int32.toNatClampNeg (l3 + (1 : Int32)))), .ref 50, .int q83.1], i_S X q83.2)) rfl rfl (by decide) g82 rfl ?_
                                  obtain ⟨q84, hq84, h⟩ := i_bdE h
                                  refine i_rcall (k := 220) (as := [.ref 50, .int (X.2 (Int32.toNatClampNeg (l3 + (1 : Int32)))), .int (X.2 (Int32.toNatClampNeg (l3 + (2 : Int32)))), .int (X.2 (Int32.toNatClampNeg (l3 + (3 : Int32))))]) (cf1 := (659, [some (.ref 100), some (.ref 0), some (.ref 50), some (.int l3)], [.int q83.1], i_S X q83.2)) (cf' := (659, [some (.ref 100), some (.ref 0), some (.ref 50), some (.int l3)], [.int q84.1, .int q83.1], i_S X q84.2)) rfl (ok_r_chance (by omega) hq84) rfl ?_
                                  by_cases c85 : q83.1 = q84.1
                                  · replace h := (if_pos c85).symm.trans h
                                    refine i_rbT (c := q83.1 = q84.1) (t := 1466) (n := 662) rfl c85 ?_
                                    refine i_rs 2 (cf' := (18, [some (.ref 100), some (.ref 0), some (.ref 50), some (.int (l3 + (6 : Int32)))], [], i_S X q84.2)) rfl ?_
                                    refine i_fg (lv' := [some (.ref 100), some (.ref 0), some (.ref 50), some (.int (l3 + (6 : Int32)))]) (And.intro rfl (And.intro rfl (And.intro rfl (And.intro rfl True.intro)))) ?_
                                    exact hself (l3 + (6 : Int32)) q84.2 _ h
                                  · replace h := (if_neg c85).symm.trans h
                                    refine i_rbF (c := q83.1 = q84.1) (t := 1466) (n := 662) rfl c85 ?_
                                    refine i_rs 1 (cf' := (663, [some (.ref 100), some (.ref 0), some (.ref 50), some (.int l3)], [.int (0 : Int32)], i_S X q84.2)) rfl ?_
                                    obtain rfl := Option.some.inj h
                                    exact i_rretZ rfl (Or.inl rfl) rfl
                                · replace h := (if_neg c79).symm.trans h
                                  refine i_rswF c79 ?_
                                  by_cases c86 : ((X.2 (Int32.toNatClampNeg l3)) &&& (63 : Int32)) = (14 : Int32)
                                  · replace h := (if_pos c86).symm.trans h
                                    refine i_rswT c86 ?_
                                    refine i_rs 5 (cf' := (669, [some (.ref 100), some (.ref 0), some (.ref 50), some (.int l3)], [.int (l3 + (1 : Int32)), .ref 100, .ref 0], i_S X M)) rfl ?_
                                    obtain ⟨g87, h⟩ := i_gE h
                                    refine i_riald (n := X.1) (cf' := (670, [some (.ref 100), some (.ref 0), some (.ref 50), some (.int l3)], [.int (X.2 (Int32.toNatClampNeg (l3 + (1 : Int32)))), .ref 0], i_S X M)) rfl rfl (by decide) g87 rfl ?_
                                    obtain ⟨q88, hq88, h⟩ := i_bdE h
                                    refine i_rcall (k := 94) (as := [.ref 0, .int (X.2 (Int32.toNatClampNeg (l3 + (1 : Int32))))]) (cf1 := (673, [some (.ref 100), some (.ref 0), some (.ref 50), some (.int l3)], [], i_S X M)) (cf' := (673, [some (.ref 100), some (.ref 0), some (.ref 50), some (.int l3)], [.int q88.1], i_S X q88.2)) rfl (ok_b_dig (by omega) hq88) rfl ?_
                                    refine i_rs 5 (cf' := (678, [some (.ref 100), some (.ref 0), some (.ref 50), some (.int l3)], [.int (l3 + (1 : Int32)), .ref 100, .ref 50, .int q88.1], i_S X q88.2)) rfl ?_
                                    refine i_riald (n := X.1) (cf' := (679, [some (.ref 100), some (.ref 0), some (.ref 50), some (.int l3)], [.int (X.2 (Int32.toNatClampNeg (l3 + (1 : Int32)))), .ref 50, .int q88.1], i_S X q88.2)) rfl rfl (by decide) g87 rfl ?_
                                    obtain ⟨q89, hq89, h⟩ := i_bdE h
                                    refine i_rcall (k := 222) (as := [.ref 50, .int (X.2 (Int32.toNatClampNeg (l3 + (1 : Int32))))]) (cf1 := (682, [some (.ref 100), some (.ref 0), some (.ref 50), some (.int l3)], [.int q88.1], i_S X q88.2)) (cf' := (682, [some (.ref 100), some (.ref 0), some (.ref 50), some (.int l3)], [.int q89.1, .int q88.1], i_S X q89.2)) rfl (ok_r_dig (by omega) hq89) rfl ?_
                                    by_cases c90 : q88.1 = q89.1
                                    · replace h := (if_pos c90).symm.trans h
                                      refine i_rbT (c := q88.1 = q89.1) (t := 1466) (n := 685) rfl c90 ?_
                                      refine i_rs 2 (cf' := (18, [some (.ref 100), some (.ref 0), some (.ref 50), some (.int (l3 + (6 : Int32)))], [], i_S X q89.2)) rfl ?_
                                      refine i_fg (lv' := [some (.ref 100), some (.ref 0), some (.ref 50), some (.int (l3 + (6 : Int32)))]) (And.intro rfl (And.intro rfl (And.intro rfl (And.intro rfl True.intro)))) ?_
                                      exact hself (l3 + (6 : Int32)) q89.2 _ h
                                    · replace h := (if_neg c90).symm.trans h
                                      refine i_rbF (c := q88.1 = q89.1) (t := 1466) (n := 685) rfl c90 ?_
                                      refine i_rs 1 (cf' := (686, [some (.ref 100), some (.ref 0), some (.ref 50), some (.int l3)], [.int (0 : Int32)], i_S X q89.2)) rfl ?_
                                      obtain rfl := Option.some.inj h
                                      exact i_rretZ rfl (Or.inl rfl) rfl
                                  · replace h := (if_neg c86).symm.trans h
                                    refine i_rswF c86 ?_
                                    by_cases c91 : ((X.2 (Int32.toNatClampNeg l3)) &&& (63 : Int32)) = (15 : Int32)
                                    · replace h := (if_pos c91).symm.trans h
                                      refine i_rswT c91 ?_
                                      refine i_rs 5 (cf' := (692, [some (.ref 100), some (.ref 0), some (.ref 50), some (.int l3)], [.int (l3 + (1 : Int32)), .ref 100, .ref 0], i_S X M)) rfl ?_
                                      obtain ⟨g92, h⟩ := i_gE h
                                      refine i_riald (n := X.1) (cf' := (693, [some (.ref 100), some (.ref 0), some (.ref 50), some (.int l3)], [.int (X.2 (Int32.toNatClampNeg (l3 + (1 : Int32)))), .ref 0], i_S X M)) rfl rfl (by decide) g92 rfl ?_
                                      refine i_rs 4 (cf' := (697, [some (.ref 100), some (.ref 0), some (.ref 50), some (.int l3)], [.int (l3 + (2 : Int32)), .ref 100, .int (X.2 (Int32.toNatClampNeg (l3 + (1 : Int32)))), .ref 0], i_S X M)) rfl ?_
                                      obtain ⟨g93, h⟩ := i_gE h
                                      refine i_riald (n := X.1) (cf' := (698, [some (.ref 100), some (.ref 0), some (.ref 50), some (.int l3)], [.int (X.2 (Int32.toNatClampNeg (l3 + (2 : Int32)))), .int (X.2 (Int32.toNatClampNeg (l3 + (1 : Int32)))), .ref 0], i_S X M)) rfl rfl (by decide) g93 rfl ?_
                                      obtain ⟨q94, hq94, h⟩ := i_bdE h
                                      refine i_rcall (k := 96) (as := [.ref 0, .int (X.2 (Int32.toNatClampNeg (l3 + (1 : Int32)))), .int (X.2 (Int32.toNatClampNeg (l3 + (2 : Int32))))]) (cf1 := (701, [some (.ref 100), some (.ref 0), some (.ref 50), some (.int l3)], [], i_S X M)) (cf' := (701, [some (.ref 100), some (.ref 0), some (.ref 50), some (.int l3)], [.int q94.1], i_S X q94.2)) rfl (ok_b_next (by omega) hq94) rfl ?_
                                      refine i_rs 5 (cf' := (706, [some (.ref 100), some (.ref 0), some (.ref 50), some (.int l3)], [.int (l3 + (1 : Int32)), .ref 100, .ref 50, .int q94.1], i_S X q94.2)) rfl ?_
                                      refine i_riald (n := X.1) (cf' := (707, [some (.ref 100), some (.ref 0), some (.ref 50), some (.int l3)], [.int (X.2 (Int32.toNatClampNeg (l3 + (1 : Int32)))), .ref 50, .int q94.1], i_S X q94.2)) rfl rfl (by decide) g92 rfl ?_
                                      refine i_rs 4 (cf' := (711, [some (.ref 100), some (.ref 0), some (.ref 50), some (.int l3)], [.int (l3 + (2 : Int32)), .ref 100, .int (X.2 (Int32.toNatClampNeg (l3 + (1 : Int32)))), .ref 50, .int q94.1], i_S X q94.2)) rfl ?_
                                      refine i_riald (n := X.1) (cf' := (712, [some (.ref 100), some (.ref 0), some (.ref 50), some (.int l3)], [.int (X.2 (Int32.toNatClampNeg (l3 + (2 : Int32)))), .int (X.2 (Int32.toNatClampNeg (l3 + (1 : Int32)))), .ref 50, .int q94.1], i_S X q94.2)) rfl rfl (by decide) g93 rfl ?_
                                      obtain ⟨q95, hq95, h⟩ := i_bdE h
                                      refine i_rcall (k := 223) (as := [.ref 50, .int (X.2 (Int32.toNatClampNeg (l3 + (1 : Int32)))), .int (X.2 (Int32.toNatClampNeg (l3 + (2 : Int32))))]) (cf1 := (715, [some (.ref 100), some (.ref 0), some (.ref 50), some (.int l3)], [.int q94.1], i_S X q94.2)) (cf' := (715, [some (.ref 100), some (.ref 0), some (.ref 50), some (.int l3)], [.int q95.1, .int q94.1], i_S X q95.2)) rfl (ok_r_next (by omega) hq95) rfl ?_
                                      by_cases c96 : q94.1 = q95.1
                                      · replace h := (if_pos c96).symm.trans h
                                        refine i_rbT (c := q94.1 = q95.1) (t := 1466) (n := 718) rfl c96 ?_
                                        refine i_rs 2 (cf' := (18, [some (.ref 100), some (.ref 0), some (.ref 50), some (.int (l3 + (6 : Int32)))], [], i_S X q95.2)) rfl ?_
                                        refine i_fg (lv' := [some (.ref 100), some (.ref 0), some (.ref 50), some (.int (l3 + (6 : Int32)))]) (And.intro rfl (And.intro rfl (And.intro rfl (And.intro rfl True.intro)))) ?_
                                        exact hself (l3 + (6 : Int32)) q95.2 _ h
                                      · replace h := (if_neg c96).symm.trans h
                                        refine i_rbF (c := q94.1 = q95.1) (t := 1466) (n := 718) rfl c96 ?_
                                        refine i_rs 1 (cf' := (719, [some (.ref 100), some (.ref 0), some (.ref 50), some (.int l3)], [.int (0 : Int32)], i_S X q95.2)) rfl ?_
                                        obtain rfl := Option.some.inj h
                                        exact i_rretZ rfl (Or.inl rfl) rfl
                                    · replace h := (if_neg c91).symm.trans h
                                      refine i_rswF c91 ?_
                                      by_cases c97 : ((X.2 (Int32.toNatClampNeg l3)) &&& (63 : Int32)) = (16 : Int32)
                                      · replace h := (if_pos c97).symm.trans h
                                        refine i_rswT c97 ?_
                                        refine i_rs 5 (cf' := (725, [some (.ref 100), some (.ref 0), some (.ref 50), some (.int l3)], [.int (l3 + (1 : Int32)), .ref 100, .ref 0], i_S X M)) rfl ?_
                                        obtain ⟨g98, h⟩ := i_gE h
                                        refine i_riald (n := X.1) (cf' := (726, [some (.ref 100), some (.ref 0), some (.ref 50), some (.int l3)], [.int (X.2 (Int32.toNatClampNeg (l3 + (1 : Int32)))), .ref 0], i_S X M)) rfl rfl (by decide) g98 rfl ?_
                                        refine i_rs 4 (cf' := (730, [some (.ref 100), some (.ref 0), some (.ref 50), some (.int l3)], [.int (l3 + (2 : Int32)), .ref 100, .int (X.2 (Int32.toNatClampNeg (l3 + (1 : Int32)))), .ref 0], i_S X M)) rfl ?_
                                        obtain ⟨g99, h⟩ := i_gE h
                                        refine i_riald (n := X.1) (cf' := (731, [some (.ref 100), some (.ref 0), some (.ref 50), some (.int l3)], [.int (X.2 (Int32.toNatClampNeg (l3 + (2 : Int32)))), .int (X.2 (Int32.toNatClampNeg (l3 + (1 : Int32)))), .ref 0], i_S X M)) rfl rfl (by decide) g99 rfl ?_
                                        obtain ⟨q100, hq100, h⟩ := i_bdE h
                                        refine i_rcall (k := 101) (as := [.ref 0, .int (X.2 (Int32.toNatClampNeg (l3 + (1 : Int32)))), .int (X.2 (Int32.toNatClampNeg (l3 + (2 : Int32))))]) (cf1 := (734, [some (.ref 100), some (.ref 0), some (.ref 50), some (.int l3)], [], i_S X M)) (cf' := (734, [some (.ref 100), some (.ref 0), some (.ref 50), some (.int l3)], [.int q100.1], i_S X q100.2)) rfl (ok_b_told (by omega) hq100) rfl ?_
                                        refine i_rs 5 (cf' := (739, [some (.ref 100), some (.ref 0), some (.ref 50), some (.int l3)], [.int (l3 + (1 : Int32)), .ref 100, .ref 50, .int q100.1], i_S X q100.2)) rfl ?_
                                        refine i_riald (n := X.1) (cf' := (740, [some (.ref 100), some (.ref 0), some (.ref 50), some (.int l3)], [.int (X.2 (Int32.toNatClampNeg (l3 + (1 : Int32)))), .ref 50, .int q100.1], i_S X q100.2)) rfl rfl (by decide) g98 rfl ?_
                                        refine i_rs 4 (cf' := (744, [some (.ref 100), some (.ref 0), some (.ref 50), some (.int l3)], [.int (l3 + (2 : Int32)), .ref 100, .int (X.2 (Int32.toNatClampNeg (l3 + (1 : Int32)))), .ref 50, .int q100.1], i_S X q100.2)) rfl ?_
                                        refine i_riald (n := X.1) (cf' := (745, [some (.ref 100), some (.ref 0), some (.ref 50), some (.int l3)], [.int (X.2 (Int32.toNatClampNeg (l3 + (2 : Int32)))), .int (X.2 (Int32.toNatClampNeg (l3 + (1 : Int32)))), .ref 50, .int q100.1], i_S X q100.2)) rfl rfl (by decide) g99 rfl ?_
                                        obtain ⟨q101, hq101, h⟩ := i_bdE h
                                        refine i_rcall (k := 225) (as := [.ref 50, .int (X.2 (Int32.toNatClampNeg (l3 + (1 : Int32)))), .int (X.2 (Int32.toNatClampNeg (l3 + (2 : Int32))))]) (cf1 := (748, [some (.ref 100), some (.ref 0), some (.ref 50), some (.int l3)], [.int q100.1], i_S X q100.2)) (cf' := (748, [some (.ref 100), some (.ref 0), some (.ref 50), some (.int l3)], [.int q101.1, .int q100.1], i_S X q101.2)) rfl (ok_r_told (by omega) hq101) rfl ?_
                                        by_cases c102 : q100.1 = q101.1
                                        · replace h := (if_pos c102).symm.trans h
                                          refine i_rbT (c := q100.1 = q101.1) (t := 1466) (n := 751) rfl c102 ?_
                                          refine i_rs 2 (cf' := (18, [some (.ref 100), some (.ref 0), some (.ref 50), some (.int (l3 + (6 : Int32)))], [], i_S X q101.2)) rfl ?_
                                          refine i_fg (lv' := [some (.ref 100), some (.ref 0), some (.ref 50), some (.int (l3 + (6 : Int32)))]) (And.intro rfl (And.intro rfl (And.intro rfl (And.intro rfl True.intro)))) ?_
                                          exact hself (l3 + (6 : Int32)) q101.2 _ h
                                        · replace h := (if_neg c102).symm.trans h
                                          refine i_rbF (c := q100.1 = q101.1) (t := 1466) (n := 751) rfl c102 ?_
                                          refine i_rs 1 (cf' := (752, [some (.ref 100), some (.ref 0), some (.ref 50), some (.int l3)], [.int (0 : Int32)], i_S X q101.2)) rfl ?_
                                          obtain rfl := Option.some.inj h
                                          exact i_rretZ rfl (Or.inl rfl) rfl
                                      · replace h := (if_neg c97).symm.trans h
                                        refine i_rswF c97 ?_
                                        by_cases c103 : ((X.2 (Int32.toNatClampNeg l3)) &&& (63 : Int32)) = (17 : Int32)
                                        · replace h := (if_pos c103).symm.trans h
                                          refine i_rswT c103 ?_
                                          refine i_rs 5 (cf' := (758, [some (.ref 100), some (.ref 0), some (.ref 50), some (.int l3)], [.int (l3 + (1 : Int32)), .ref 100, .ref 0], i_S X M)) rfl ?_
                                          obtain ⟨g104, h⟩ := i_gE h
                                          refine i_riald (n := X.1) (cf' := (759, [some (.ref 100), some (.ref 0), some (.ref 50), some (.int l3)], [.int (X.2 (Int32.toNatClampNeg (l3 + (1 : Int32)))), .ref 0], i_S X M)) rfl rfl (by decide) g104 rfl ?_
                                          obtain ⟨q105, hq105, h⟩ := i_bdE h
                                          refine i_rcall (k := 102) (as := [.ref 0, .int (X.2 (Int32.toNatClampNeg (l3 + (1 : Int32))))]) (cf1 := (762, [some (.ref 100), some (.ref 0), some (.ref 50), some (.int l3)], [], i_S X M)) (cf' := (762, [some (.ref 100), some (.ref 0), some (.ref 50), some (.int l3)], [.int q105.1], i_S X q105.2)) rfl (ok_b_liars (by omega) hq105) rfl ?_
                                          refine i_rs 5 (cf' := (767, [some (.ref 100), some (.ref 0), some (.ref 50), some (.int l3)], [.int (l3 + (1 : Int32)), .ref 100, .ref 50, .int q105.1], i_S X q105.2)) rfl ?_
                                          refine i_riald (n := X.1) (cf' := (768, [some (.ref 100), some (.ref 0), some (.ref 50), some (.int l3)], [.int (X.2 (Int32.toNatClampNeg (l3 + (1 : Int32)))), .ref 50, .int q105.1], i_S X q105.2)) rfl rfl (by decide) g104 rfl ?_
                                          obtain ⟨q106, hq106, h⟩ := i_bdE h
                                          refine i_rcall (k := 226) (as := [.ref 50, .int (X.2 (Int32.toNatClampNeg (l3 + (1 : Int32))))]) (cf1 := (771, [some (.ref 100), some (.ref 0), some (.ref 50), some (.int l3)], [.int q105.1], i_S X q105.2)) (cf' := (771, [some (.ref 100), some (.ref 0), some (.ref 50), some (.int l3)], [.int q106.1, .int q105.1], i_S X q106.2)) rfl (ok_r_liars (by omega) hq106) rfl ?_
                                          by_cases c107 : q105.1 = q106.1
                                          · replace h := (if_pos c107).symm.trans h
                                            refine i_rbT (c := q105.1 = q106.1) (t := 1466) (n := 774) rfl c107 ?_
                                            refine i_rs 2 (cf' := (18, [some (.ref 100), some (.ref 0), some (.ref 50), some (.int (l3 + (6 : Int32)))], [], i_S X q106.2)) rfl ?_
                                            refine i_fg (lv' := [some (.ref 100), some (.ref 0), some (.ref 50), some (.int (l3 + (6 : Int32)))]) (And.intro rfl (And.intro rfl (And.intro rfl (And.intro rfl True.intro)))) ?_
                                            exact hself (l3 + (6 : Int32)) q106.2 _ h
                                          · replace h := (if_neg c107).symm.trans h
                                            refine i_rbF (c := q105.1 = q106.1) (t := 1466) (n := 774) rfl c107 ?_
                                            refine i_rs 1 (cf' := (775, [some (.ref 100), some (.ref 0), some (.ref 50), some (.int l3)], [.int (0 : Int32)], i_S X q106.2)) rfl ?_
                                            obtain rfl := Option.some.inj h
                                            exact i_rretZ rfl (Or.inl rfl) rfl
                                        · replace h := (if_neg c103).symm.trans h
                                          refine i_rswF c103 ?_
                                          by_cases c108 : ((X.2 (Int32.toNatClampNeg l3)) &&& (63 : Int32)) = (18 : Int32)
                                          · replace h := (if_pos c108).symm.trans h
                                            refine i_rswT c108 ?_
                                            refine i_rs 5 (cf' := (781, [some (.ref 100), some (.ref 0), some (.ref 50), some (.int l3)], [.int (l3 + (1 : Int32)), .ref 100, .ref 0], i_S X M)) rfl ?_
                                            obtain ⟨g109, h⟩ := i_gE h
                                            refine i_riald (n := X.1) (cf' := (782, [some (.ref 100), some (.ref 0), some (.ref 50), some (.int l3)], [.int (X.2 (Int32.toNatClampNeg (l3 + (1 : Int32)))), .ref 0], i_S X M)) rfl rfl (by decide) g109 rfl ?_
                                            obtain ⟨q110, hq110, h⟩ := i_bdE h
                                            refine i_rcall (k := 106) (as := [.ref 0, .int (X.2 (Int32.toNatClampNeg (l3 + (1 : Int32))))]) (cf1 := (785, [some (.ref 100), some (.ref 0), some (.ref 50), some (.int l3)], [], i_S X M)) (cf' := (785, [some (.ref 100), some (.ref 0), some (.ref 50), some (.int l3)], [.int q110.1], i_S X q110.2)) rfl (ok_b_shows (by omega) hq110) rfl ?_
                                            refine i_rs 5 (cf' := (790, [some (.ref 100), some (.ref 0), some (.ref 50), some (.int l3)], [.int (l3 + (1 : Int32)), .ref 100, .ref 50, .int q110.1], i_S X q110.2)) rfl ?_
                                            refine i_riald (n := X.1) (cf' := (791, [some (.ref 100), some (.ref 0), some (.ref 50), some (.int l3)], [.int (X.2 (Int32.toNatClampNeg (l3 + (1 : Int32)))), .ref 50, .int q110.1], i_S X q110.2)) rfl rfl (by decide) g109 rfl ?_
                                            obtain ⟨q111, hq111, h⟩ := i_bdE h
                                            refine i_rcall (k := 227) (as := [.ref 50, .int (X.2 (Int32.toNatClampNeg (l3 + (1 : Int32))))]) (cf1 := (794, [some (.ref 100), some (.ref 0), some (.ref 50), some (.int l3)], [.int q110.1], i_S X q110.2)) (cf' := (794, [some (.ref 100), some (.ref 0), some (.ref 50), some (.int l3)], [.int q111.1, .int q110.1], i_S X q111.2)) rfl (ok_r_shows (by omega) hq111) rfl ?_
                                            by_cases c112 : q110.1 = q111.1
                                            · replace h := (if_pos c112).symm.trans h
                                              refine i_rbT (c := q110.1 = q111.1) (t := 1466) (n := 797) rfl c112 ?_
                                              refine i_rs 2 (cf' := (18, [some (.ref 100), some (.ref 0), some (.ref 50), some (.int (l3 + (6 : Int32)))], [], i_S X q111.2)) rfl ?_
                                              refine i_fg (lv' := [some (.ref 100), some (.ref 0), some (.ref 50), some (.int (l3 + (6 : Int32)))]) (And.intro rfl (And.intro rfl (And.intro rfl (And.intro rfl True.intro)))) ?_
                                              exact hself (l3 + (6 : Int32)) q111.2 _ h
                                            · replace h := (if_neg c112).symm.trans h
                                              refine i_rbF (c := q110.1 = q111.1) (t := 1466) (n := 797) rfl c112 ?_
                                              refine i_rs 1 (cf' := (798, [some (.ref 100), some (.ref 0), some (.ref 50), some (.int l3)], [.int (0 : Int32)], i_S X q111.2)) rfl ?_
                                              obtain rfl := Option.some.inj h
                                              exact i_rretZ rfl (Or.inl rfl) rfl
                                          · replace h := (if_neg c108).symm.trans h
                                            refine i_rswF c108 ?_
                                            by_cases c113 : ((X.2 (Int32.toNatClampNeg l3)) &&& (63 : Int32)) = (19 : Int32)
                                            · replace h := (if_pos c113).symm.trans h
                                              refine i_rswT c113 ?_
                                              refine i_rs 5 (cf' := (804, [some (.ref 100), some (.ref 0), some (.ref 50), some (.int l3)], [.int (l3 + (1 : Int32)), .ref 100, .ref 0], i_S X M)) rfl ?_
                                              obtain ⟨g114, h⟩ := i_gE h
                                              refine i_riald (n := X.1) (cf' := (805, [some (.ref 100), some (.ref 0), some (.ref 50), some (.int l3)], [.int (X.2 (Int32.toNatClampNeg (l3 + (1 : Int32)))), .ref 0], i_S X M)) rfl rfl (by decide) g114 rfl ?_
                                              obtain ⟨q115, hq115, h⟩ := i_bdE h
                                              refine i_rcall (k := 108) (as := [.ref 0, .int (X.2 (Int32.toNatClampNeg (l3 + (1 : Int32))))]) (cf1 := (808, [some (.ref 100), some (.ref 0), some (.ref 50), some (.int l3)], [], i_S X M)) (cf' := (808, [some (.ref 100), some (.ref 0), some (.ref 50), some (.int l3)], [.int q115.1], i_S X q115.2)) rfl (ok_b_chain (by omega) hq115) rfl ?_
                                              refine i_rs 5 (cf' := (813, [some (.ref 100), some (.ref 0), some (.ref 50), some (.int l3)], [.int (l3 + (1 : Int32)), .ref 100, .ref 50, .int q115.1], i_S X q115.2)) rfl ?_
                                              refine i_riald (n := X.1) (cf' := (814, [some (.ref 100), some (.ref 0), some (.ref 50), some (.int l3)], [.int (X.2 (Int32.toNatClampNeg (l3 + (1 : Int32)))), .ref 50, .int q115.1], i_S X q115.2)) rfl rfl (by decide) g114 rfl ?_
                                              obtain ⟨q116, hq116, h⟩ := i_bdE h
                                              refine i_rcall (k := 229) (as := [.ref 50, .int (X.2 (Int32.toNatClampNeg (l3 + (1 : Int32))))]) (cf1 := (817, [some (.ref 100), some (.ref 0), some (.ref 50), some (.int l3)], [.int q115.1], i_S X q115.2)) (cf' := (817, [some (.ref 100), some (.ref 0), some (.ref 50), some (.int l3)], [.int q116.1, .int q115.1], i_S X q116.2)) rfl (ok_r_chain (by omega) hq116) rfl ?_
                                              by_cases c117 : q115.1 = q116.1
                                              · replace h := (if_pos c117).symm.trans h
                                                refine i_rbT (c := q115.1 = q116.1) (t := 1466) (n := 820) rfl c117 ?_
                                                refine i_rs 2 (cf' := (18, [some (.ref 100), some (.ref 0), some (.ref 50), some (.int (l3 + (6 : Int32)))], [], i_S X q116.2)) rfl ?_
                                                refine i_fg (lv' := [some (.ref 100), some (.ref 0), some (.ref 50), some (.int (l3 + (6 : Int32)))]) (And.intro rfl (And.intro rfl (And.intro rfl (And.intro rfl True.intro)))) ?_
                                                exact hself (l3 + (6 : Int32)) q116.2 _ h
                                              · replace h := (if_neg c117).symm.trans h
                                                refine i_rbF (c := q115.1 = q116.1) (t := 1466) (n := 820) rfl c117 ?_
                                                refine i_rs 1 (cf' := (821, [some (.ref 100), some (.ref 0), some (.ref 50), some (.int l3)], [.int (0 : Int32)], i_S X q116.2)) rfl ?_
                                                obtain rfl := Option.some.inj h
                                                exact i_rretZ rfl (Or.inl rfl) rfl
                                            · replace h := (if_neg c113).symm.trans h
                                              refine i_rswF c113 ?_
                                              by_cases c118 : ((X.2 (Int32.toNatClampNeg l3)) &&& (63 : Int32)) = (20 : Int32)
                                              · replace h := (if_pos c118).symm.trans h
                                                refine i_rswT c118 ?_
                                                refine i_rs 5 (cf' := (827, [some (.ref 100), some (.ref 0), some (.ref 50), some (.int l3)], [.int (l3 + (1 : Int32)), .ref 100, .ref 0], i_S X M)) rfl ?_
                                                obtain ⟨g119, h⟩ := i_gE h
                                                refine i_riald (n := X.1) (cf' := (828, [some (.ref 100), some (.ref 0), some (.ref 50), some (.int l3)], [.int (X.2 (Int32.toNatClampNeg (l3 + (1 : Int32)))), .ref 0], i_S X M)) rfl rfl (by decide) g119 rfl ?_
                                                refine i_rs 4 (cf' := (832, [some (.ref 100), some (.ref 0), some (.ref 50), some (.int l3)], [.int (l3 + (2 : Int32)), .ref 100, .int (X.2 (Int32.toNatClampNeg (l3 + (1 : Int32)))), .ref 0], i_S X M)) rfl ?_
                                                obtain ⟨g120, h⟩ := i_gE h
                                                refine i_riald (n := X.1) (cf' := (833, [some (.ref 100), some (.ref 0), some (.ref 50), some (.int l3)], [.int (X.2 (Int32.toNatClampNeg (l3 + (2 : Int32)))), .int (X.2 (Int32.toNatClampNeg (l3 + (1 : Int32)))), .ref 0], i_S X M)) rfl rfl (by decide) g120 rfl ?_
                                                obtain ⟨q121, hq121, h⟩ := i_bdE h
                                                refine i_rcall (k := 114) (as := [.ref 0, .int (X.2 (Int32.toNatClampNeg (l3 + (1 : Int32)))), .int (X.2 (Int32.toNatClampNeg (l3 + (2 : Int32))))]) (cf1 := (836, [some (.ref 100), some (.ref 0), some (.ref 50), some (.int l3)], [], i_S X M)) (cf' := (836, [some (.ref 100), some (.ref 0), some (.ref 50), some (.int l3)], [.int q121.1], i_S X q121.2)) rfl (ok_b_strikes (by omega) hq121) rfl ?_
                                                refine i_rs 5 (cf' := (841, [some (.ref 100), some (.ref 0), some (.ref 50), some (.int l3)], [.int (l3 + (1 : Int32)), .ref 100, .ref 50, .int q121.1], i_S X q121.2)) rfl ?_
                                                refine i_riald (n := X.1) (cf' := (842, [some (.ref 100), some (.ref 0), some (.ref 50), some (.int l3)], [.int (X.2 (Int32.toNatClampNeg (l3 + (1 : Int32)))), .ref 50, .int q121.1], i_S X q121.2)) rfl rfl (by decide) g119 rfl ?_
                                                refine i_rs 4 (cf' := (846, [some (.ref 100), some (.ref 0), some (.ref 50), some (.int l3)], [.int (l3 + (2 : Int32)), .ref 100, .int (X.2 (Int32.toNatClampNeg (l3 + (1 : Int32)))), .ref 50, .int q121.1], i_S X q121.2)) rfl ?_
                                                refine i_riald (n := X.1) (cf' := (847, [some (.ref 100), some (.ref 0), some (.ref 50), some (.int l3)], [.int (X.2 (Int32.toNatClampNeg (l3 + (2 : Int32)))), .int (X.2 (Int32.toNatClampNeg (l3 + (1 : Int32)))), .ref 50, .int q121.1], i_S X q121.2)) rfl rfl (by decide) g120 rfl ?_
                                                obtain ⟨q122, hq122, h⟩ := i_bdE h
                                                refine i_rcall (k := 233) (as := [.ref 50, .int (X.2 (Int32.toNatClampNeg (l3 + (1 : Int32)))), .int (X.2 (Int32.toNatClampNeg (l3 + (2 : Int32))))]) (cf1 := (850, [some (.ref 100), some (.ref 0), some (.ref 50), some (.int l3)], [.int q121.1], i_S X q121.2)) (cf' := (850, [some (.ref 100), some (.ref 0), some (.ref 50), some (.int l3)], [.int q122.1, .int q121.1], i_S X q122.2)) rfl (ok_r_strikes (by omega) hq122) rfl ?_
                                                by_cases c123 : q121.1 = q122.1
                                                · replace h := (if_pos c123).symm.trans h
                                                  refine i_rbT (c := q121.1 = q122.1) (t := 1466) (n := 853) rfl c123 ?_
                                                  refine i_rs 2 (cf' := (18, [some (.ref 100), some (.ref 0), some (.ref 50), some (.int (l3 + (6 : Int32)))], [], i_S X q122.2)) rfl ?_
                                                  refine i_fg (lv' := [some (.ref 100), some (.ref 0), some (.ref 50), some (.int (l3 + (6 : Int32)))]) (And.intro rfl (And.intro rfl (And.intro rfl (And.intro rfl True.intro)))) ?_
                                                  exact hself (l3 + (6 : Int32)) q122.2 _ h
                                                · replace h := (if_neg c123).symm.trans h
                                                  refine i_rbF (c := q121.1 = q122.1) (t := 1466) (n := 853) rfl c123 ?_
                                                  refine i_rs 1 (cf' := (854, [some (.ref 100), some (.ref 0), some (.ref 50), some (.int l3)], [.int (0 : Int32)], i_S X q122.2)) rfl ?_
                                                  obtain rfl := Option.some.inj h
                                                  exact i_rretZ rfl (Or.inl rfl) rfl
                                              · replace h := (if_neg c118).symm.trans h
                                                refine i_rswF c118 ?_
                                                by_cases c124 : ((X.2 (Int32.toNatClampNeg l3)) &&& (63 : Int32)) = (21 : Int32)
                                                · replace h := (if_pos c124).symm.trans h
                                                  refine i_rswT c124 ?_
                                                  refine i_rs 1 (cf' := (856, [some (.ref 100), some (.ref 0), some (.ref 50), some (.int l3)], [.ref 0], i_S X M)) rfl ?_
                                                  obtain ⟨q125, hq125, h⟩ := i_bdE h
                                                  refine i_rcall (k := 118) (as := [.ref 0]) (cf1 := (859, [some (.ref 100), some (.ref 0), some (.ref 50), some (.int l3)], [], i_S X M)) (cf' := (859, [some (.ref 100), some (.ref 0), some (.ref 50), some (.int l3)], [.int q125.1], i_S X q125.2)) rfl (ok_b_source (by omega) hq125) rfl ?_
                                                  refine i_rs 1 (cf' := (860, [some (.ref 100), some (.ref 0), some (.ref 50), some (.int l3)], [.ref 50, .int q125.1], i_S X q125.2)) rfl ?_
                                                  obtain ⟨q126, hq126, h⟩ := i_bdE h
                                                  refine i_rcall (k := 235) (as := [.ref 50]) (cf1 := (863, [some (.ref 100), some (.ref 0), some (.ref 50), some (.int l3)], [.int q125.1], i_S X q125.2)) (cf' := (863, [some (.ref 100), some (.ref 0), some (.ref 50), some (.int l3)], [.int q126.1, .int q125.1], i_S X q126.2)) rfl (ok_r_source (by omega) hq126) rfl ?_
                                                  by_cases c127 : q125.1 = q126.1
                                                  · replace h := (if_pos c127).symm.trans h
                                                    refine i_rbT (c := q125.1 = q126.1) (t := 1466) (n := 866) rfl c127 ?_
                                                    refine i_rs 2 (cf' := (18, [some (.ref 100), some (.ref 0), some (.ref 50), some (.int (l3 + (6 : Int32)))], [], i_S X q126.2)) rfl ?_
                                                    refine i_fg (lv' := [some (.ref 100), some (.ref 0), some (.ref 50), some (.int (l3 + (6 : Int32)))]) (And.intro rfl (And.intro rfl (And.intro rfl (And.intro rfl True.intro)))) ?_
                                                    exact hself (l3 + (6 : Int32)) q126.2 _ h
                                                  · replace h := (if_neg c127).symm.trans h
                                                    refine i_rbF (c := q125.1 = q126.1) (t := 1466) (n := 866) rfl c127 ?_
                                                    refine i_rs 1 (cf' := (867, [some (.ref 100), some (.ref 0), some (.ref 50), some (.int l3)], [.int (0 : Int32)], i_S X q126.2)) rfl ?_
                                                    obtain rfl := Option.some.inj h
                                                    exact i_rretZ rfl (Or.inl rfl) rfl
                                                · replace h := (if_neg c124).symm.trans h
                                                  refine i_rswF c124 ?_
                                                  by_cases c128 : ((X.2 (Int32.toNatClampNeg l3)) &&& (63 : Int32)) = (22 : Int32)
                                                  · replace h := (if_pos c128).symm.trans h
                                                    refine i_rswT c128 ?_
                                                    refine i_rs 5 (cf' := (873, [some (.ref 100), some (.ref 0), some (.ref 50), some (.int l3)], [.int (l3 + (1 : Int32)), .ref 100, .ref 0], i_S X M)) rfl ?_
                                                    obtain ⟨g129, h⟩ := i_gE h
                                                    refine i_riald (n := X.1) (cf' := (874, [some (.ref 100), some (.ref 0), some (.ref 50), some (.int l3)], [.int (X.2 (Int32.toNatClampNeg (l3 + (1 : Int32)))), .ref 0], i_S X M)) rfl rfl (by decide) g129 rfl ?_
                                                    refine i_rs 4 (cf' := (878, [some (.ref 100), some (.ref 0), some (.ref 50), some (.int l3)], [.int (l3 + (2 : Int32)), .ref 100, .int (X.2 (Int32.toNatClampNeg (l3 + (1 : Int32)))), .ref 0], i_S X M)) rfl ?_
                                                    obtain ⟨g130, h⟩ := i_gE h
                                                    refine i_riald (n := X.1) (cf' := (879, [some (.ref 100), some (.ref 0), some (.ref 50), some (.int l3)], [.int (X.2 (Int32.toNatClampNeg (l3 + (2 : Int32)))), .int (X.2 (Int32.toNatClampNeg (l3 + (1 : Int32)))), .ref 0], i_S X M)) rfl rfl (by decide) g130 rfl ?_
                                                    obtain ⟨q131, hq131, h⟩ := i_bdE h
                                                    refine i_rcall (k := 120) (as := [.ref 0, .int (X.2 (Int32.toNatClampNeg (l3 + (1 : Int32)))), .int (X.2 (Int32.toNatClampNeg (l3 + (2 : Int32))))]) (cf1 := (882, [some (.ref 100), some (.ref 0), some (.ref 50), some (.int l3)], [], i_S X M)) (cf' := (882, [some (.ref 100), some (.ref 0), some (.ref 50), some (.int l3)], [.int q131.1], i_S X q131.2)) rfl (ok_b_tune (by omega) hq131) rfl ?_
                                                    refine i_rs 5 (cf' := (887, [some (.ref 100), some (.ref 0), some (.ref 50), some (.int l3)], [.int (l3 + (1 : Int32)), .ref 100, .ref 50, .int q131.1], i_S X q131.2)) rfl ?_
                                                    refine i_riald (n := X.1) (cf' := (888, [some (.ref 100), some (.ref 0), some (.ref 50), some (.int l3)], [.int (X.2 (Int32.toNatClampNeg (l3 + (1 : Int32)))), .ref 50, .int q131.1], i_S X q131.2)) rfl rfl (by decide) g129 rfl ?_
                                                    refine i_rs 4 (cf' := (892, [some (.ref 100), some (.ref 0), some (.ref 50), some (.int l3)], [.int (l3 + (2 : Int32)), .ref 100, .int (X.2 (Int32.toNatClampNeg (l3 + (1 : Int32)))), .ref 50, .int q131.1], i_S X q131.2)) rfl ?_
                                                    refine i_riald (n := X.1) (cf' := (893, [some (.ref 100), some (.ref 0), some (.ref 50), some (.int l3)], [.int (X.2 (Int32.toNatClampNeg (l3 + (2 : Int32)))), .int (X.2 (Int32.toNatClampNeg (l3 + (1 : Int32)))), .ref 50, .int q131.1], i_S X q131.2)) rfl rfl (by decide) g130 rfl ?_
                                                    obtain ⟨q132, hq132, h⟩ := i_bdE h
                                                    refine i_rcall (k := 236) (as := [.ref 50, .int (X.2 (Int32.toNatClampNeg (l3 + (1 : Int32)))), .int (X.2 (Int32.toNatClampNeg (l3 + (2 : Int32))))]) (cf1 := (896, [some (.ref 100), some (.ref 0), some (.ref 50), some (.int l3)], [.int q131.1], i_S X q131.2)) (cf' := (896, [some (.ref 100), some (.ref 0), some (.ref 50), some (.int l3)], [.int q132.1, .int q131.1], i_S X q132.2)) rfl (ok_r_tune (by omega) hq132) rfl ?_
                                                    by_cases c133 : q131.1 = q132.1
                                                    · replace h := (if_pos c133).symm.trans h
                                                      refine i_rbT (c := q131.1 = q132.1) (t := 1466) (n := 899) rfl c133 ?_
                                                      refine i_rs 2 (cf' := (18, [some (.ref 100), some (.ref 0), some (.ref 50), some (.int (l3 + (6 : Int32)))], [], i_S X q132.2)) rfl ?_
                                                      refine i_fg (lv' := [some (.ref 100), some (.ref 0), some (.ref 50), some (.int (l3 + (6 : Int32)))]) (And.intro rfl (And.intro rfl (And.intro rfl (And.intro rfl True.intro)))) ?_
                                                      exact hself (l3 + (6 : Int32)) q132.2 _ h
                                                    · replace h := (if_neg c133).symm.trans h
                                                      refine i_rbF (c := q131.1 = q132.1) (t := 1466) (n := 899) rfl c133 ?_
                                                      refine i_rs 1 (cf' := (900, [some (.ref 100), some (.ref 0), some (.ref 50), some (.int l3)], [.int (0 : Int32)], i_S X q132.2)) rfl ?_
                                                      obtain rfl := Option.some.inj h
                                                      exact i_rretZ rfl (Or.inl rfl) rfl
                                                  · replace h := (if_neg c128).symm.trans h
                                                    refine i_rswF c128 ?_
                                                    by_cases c134 : ((X.2 (Int32.toNatClampNeg l3)) &&& (63 : Int32)) = (23 : Int32)
                                                    · replace h := (if_pos c134).symm.trans h
                                                      refine i_rswT c134 ?_
                                                      refine i_rs 5 (cf' := (906, [some (.ref 100), some (.ref 0), some (.ref 50), some (.int l3)], [.int (l3 + (1 : Int32)), .ref 100, .ref 0], i_S X M)) rfl ?_
                                                      obtain ⟨g135, h⟩ := i_gE h
                                                      refine i_riald (n := X.1) (cf' := (907, [some (.ref 100), some (.ref 0), some (.ref 50), some (.int l3)], [.int (X.2 (Int32.toNatClampNeg (l3 + (1 : Int32)))), .ref 0], i_S X M)) rfl rfl (by decide) g135 rfl ?_
                                                      refine i_rs 4 (cf' := (911, [some (.ref 100), some (.ref 0), some (.ref 50), some (.int l3)], [.int (l3 + (2 : Int32)), .ref 100, .int (X.2 (Int32.toNatClampNeg (l3 + (1 : Int32)))), .ref 0], i_S X M)) rfl ?_
                                                      obtain ⟨g136, h⟩ := i_gE h
                                                      refine i_riald (n := X.1) (cf' := (912, [some (.ref 100), some (.ref 0), some (.ref 50), some (.int l3)], [.int (X.2 (Int32.toNatClampNeg (l3 + (2 : Int32)))), .int (X.2 (Int32.toNatClampNeg (l3 + (1 : Int32)))), .ref 0], i_S X M)) rfl rfl (by decide) g136 rfl ?_
                                                      obtain ⟨q137, hq137, h⟩ := i_bdE h
                                                      refine i_rcall (k := 121) (as := [.ref 0, .int (X.2 (Int32.toNatClampNeg (l3 + (1 : Int32)))), .int (X.2 (Int32.toNatClampNeg (l3 + (2 : Int32))))]) (cf1 := (915, [some (.ref 100), some (.ref 0), some (.ref 50), some (.int l3)], [], i_S X M)) (cf' := (915, [some (.ref 100), some (.ref 0), some (.ref 50), some (.int l3)], [.int q137.1], i_S X q137.2)) rfl (ok_b_whose (by omega) hq137) rfl ?_
                                                      refine i_rs 5 (cf' := (920, [some (.ref 100), some (.ref 0), some (.ref 50), some (.int l3)], [.int (l3 + (1 : Int32)), .ref 100, .ref 50, .int q137.1], i_S X q137.2)) rfl ?_
                                                      refine i_riald (n := X.1) (cf' := (921, [some (.ref 100), some (.ref 0), some (.ref 50), some (.int l3)], [.int (X.2 (Int32.toNatClampNeg (l3 + (1 : Int32)))), .ref 50, .int q137.1], i_S X q137.2)) rfl rfl (by decide) g135 rfl ?_
                                                      refine i_rs 4 (cf' := (925, [some (.ref 100), some (.ref 0), some (.ref 50), some (.int l3)], [.int (l3 + (2 : Int32)), .ref 100, .int (X.2 (Int32.toNatClampNeg (l3 + (1 : Int32)))), .ref 50, .int q137.1], i_S X q137.2)) rfl ?_
                                                      refine i_riald (n := X.1) (cf' := (926, [some (.ref 100), some (.ref 0), some (.ref 50), some (.int l3)], [.int (X.2 (Int32.toNatClampNeg (l3 + (2 : Int32)))), .int (X.2 (Int32.toNatClampNeg (l3 + (1 : Int32)))), .ref 50, .int q137.1], i_S X q137.2)) rfl rfl (by decide) g136 rfl ?_
                                                      obtain ⟨q138, hq138, h⟩ := i_bdE h
                                                      refine i_rcall (k := 237) (as := [.ref 50, .int (X.2 (Int32.toNatClampNeg (l3 + (1 : Int32)))), .int (X.2 (Int32.toNatClampNeg (l3 + (2 : Int32))))]) (cf1 := (929, [some (.ref 100), some (.ref 0), some (.ref 50), some (.int l3)], [.int q137.1], i_S X q137.2)) (cf' := (929, [some (.ref 100), some (.ref 0), some (.ref 50), some (.int l3)], [.int q138.1, .int q137.1], i_S X q138.2)) rfl (ok_r_whose (by omega) hq138) rfl ?_
                                                      by_cases c139 : q137.1 = q138.1
                                                      · replace h := (if_pos c139).symm.trans h
                                                        refine i_rbT (c := q137.1 = q138.1) (t := 1466) (n := 932) rfl c139 ?_
                                                        refine i_rs 2 (cf' := (18, [some (.ref 100), some (.ref 0), some (.ref 50), some (.int (l3 + (6 : Int32)))], [], i_S X q138.2)) rfl ?_
                                                        refine i_fg (lv' := [some (.ref 100), some (.ref 0), some (.ref 50), some (.int (l3 + (6 : Int32)))]) (And.intro rfl (And.intro rfl (And.intro rfl (And.intro rfl True.intro)))) ?_
                                                        exact hself (l3 + (6 : Int32)) q138.2 _ h
                                                      · replace h := (if_neg c139).symm.trans h
                                                        refine i_rbF (c := q137.1 = q138.1) (t := 1466) (n := 932) rfl c139 ?_
                                                        refine i_rs 1 (cf' := (933, [some (.ref 100), some (.ref 0), some (.ref 50), some (.int l3)], [.int (0 : Int32)], i_S X q138.2)) rfl ?_
                                                        obtain rfl := Option.some.inj h
                                                        exact i_rretZ rfl (Or.inl rfl) rfl
                                                    · replace h := (if_neg c134).symm.trans h
                                                      refine i_rswF c134 ?_
                                                      by_cases c140 : ((X.2 (Int32.toNatClampNeg l3)) &&& (63 : Int32)) = (24 : Int32)
                                                      · replace h := (if_pos c140).symm.trans h
                                                        refine i_rswT c140 ?_
                                                        refine i_rs 5 (cf' := (939, [some (.ref 100), some (.ref 0), some (.ref 50), some (.int l3)], [.int (l3 + (1 : Int32)), .ref 100, .ref 0], i_S X M)) rfl ?_
                                                        obtain ⟨g141, h⟩ := i_gE h
                                                        refine i_riald (n := X.1) (cf' := (940, [some (.ref 100), some (.ref 0), some (.ref 50), some (.int l3)], [.int (X.2 (Int32.toNatClampNeg (l3 + (1 : Int32)))), .ref 0], i_S X M)) rfl rfl (by decide) g141 rfl ?_
                                                        refine i_rs 4 (cf' := (944, [some (.ref 100), some (.ref 0), some (.ref 50), some (.int l3)], [.int (l3 + (2 : Int32)), .ref 100, .int (X.2 (Int32.toNatClampNeg (l3 + (1 : Int32)))), .ref 0], i_S X M)) rfl ?_
                                                        obtain ⟨g142, h⟩ := i_gE h
                                                        refine i_riald (n := X.1) (cf' := (945, [some (.ref 100), some (.ref 0), some (.ref 50), some (.int l3)], [.int (X.2 (Int32.toNatClampNeg (l3 + (2 : Int32)))), .int (X.2 (Int32.toNatClampNeg (l3 + (1 : Int32)))), .ref 0], i_S X M)) rfl rfl (by decide) g142 rfl ?_
                                                        obtain ⟨q143, hq143, h⟩ := i_bdE h
                                                        refine i_rcall (k := 124) (as := [.ref 0, .int (X.2 (Int32.toNatClampNeg (l3 + (1 : Int32)))), .int (X.2 (Int32.toNatClampNeg (l3 + (2 : Int32))))]) (cf1 := (948, [some (.ref 100), some (.ref 0), some (.ref 50), some (.int l3)], [], i_S X M)) (cf' := (948, [some (.ref 100), some (.ref 0), some (.ref 50), some (.int l3)], [.int q143.1], i_S X q143.2)) rfl (ok_b_years (by omega) hq143) rfl ?_
                                                        refine i_rs 5 (cf' := (953, [some (.ref 100), some (.ref 0), some (.ref 50), some (.int l3)], [.int (l3 + (1 : Int32)), .ref 100, .ref 50, .int q143.1], i_S X q143.2)) rfl ?_
                                                        refine i_riald (n := X.1) (cf' := (954, [some (.ref 100), some (.ref 0), some (.ref 50), some (.int l3)], [.int (X.2 (Int32.toNatClampNeg (l3 + (1 : Int32)))), .ref 50, .int q143.1], i_S X q143.2)) rfl rfl (by decide) g141 rfl ?_
                                                        refine i_rs 4 (cf' := (958, [some (.ref 100), some (.ref 0), some (.ref 50), some (.int l3)], [.int (l3 + (2 : Int32)), .ref 100, .int (X.2 (Int32.toNatClampNeg (l3 + (1 : Int32)))), .ref 50, .int q143.1], i_S X q143.2)) rfl ?_
                                                        refine i_riald (n := X.1) (cf' := (959, [some (.ref 100), some (.ref 0), some (.ref 50), some (.int l3)], [.int (X.2 (Int32.toNatClampNeg (l3 + (2 : Int32)))), .int (X.2 (Int32.toNatClampNeg (l3 + (1 : Int32)))), .ref 50, .int q143.1], i_S X q143.2)) rfl rfl (by decide) g142 rfl ?_
                                                        obtain ⟨q144, hq144, h⟩ := i_bdE h
                                                        refine i_rcall (k := 239) (as := [.ref 50, .int (X.2 (Int32.toNatClampNeg (l3 + (1 : Int32)))), .int (X.2 (Int32.toNatClampNeg (l3 + (2 : Int32))))]) (cf1 := (962, [some (.ref 100), some (.ref 0), some (.ref 50), some (.int l3)], [.int q143.1], i_S X q143.2)) (cf' := (962, [some (.ref 100), some (.ref 0), some (.ref 50), some (.int l3)], [.int q144.1, .int q143.1], i_S X q144.2)) rfl (ok_r_years (by omega) hq144) rfl ?_
                                                        by_cases c145 : q143.1 = q144.1
                                                        · replace h := (if_pos c145).symm.trans h
                                                          refine i_rbT (c := q143.1 = q144.1) (t := 1466) (n := 965) rfl c145 ?_
                                                          refine i_rs 2 (cf' := (18, [some (.ref 100), some (.ref 0), some (.ref 50), some (.int (l3 + (6 : Int32)))], [], i_S X q144.2)) rfl ?_
                                                          refine i_fg (lv' := [some (.ref 100), some (.ref 0), some (.ref 50), some (.int (l3 + (6 : Int32)))]) (And.intro rfl (And.intro rfl (And.intro rfl (And.intro rfl True.intro)))) ?_
                                                          exact hself (l3 + (6 : Int32)) q144.2 _ h
                                                        · replace h := (if_neg c145).symm.trans h
                                                          refine i_rbF (c := q143.1 = q144.1) (t := 1466) (n := 965) rfl c145 ?_
                                                          refine i_rs 1 (cf' := (966, [some (.ref 100), some (.ref 0), some (.ref 50), some (.int l3)], [.int (0 : Int32)], i_S X q144.2)) rfl ?_
                                                          obtain rfl := Option.some.inj h
                                                          exact i_rretZ rfl (Or.inl rfl) rfl
                                                      · replace h := (if_neg c140).symm.trans h
                                                        refine i_rswF c140 ?_
                                                        by_cases c146 : ((X.2 (Int32.toNatClampNeg l3)) &&& (63 : Int32)) = (25 : Int32)
                                                        · replace h := (if_pos c146).symm.trans h
                                                          refine i_rswT c146 ?_
                                                          refine i_rs 5 (cf' := (972, [some (.ref 100), some (.ref 0), some (.ref 50), some (.int l3)], [.int (l3 + (1 : Int32)), .ref 100, .ref 0], i_S X M)) rfl ?_
                                                          obtain ⟨g147, h⟩ := i_gE h
                                                          refine i_riald (n := X.1) (cf' := (973, [some (.ref 100), some (.ref 0), some (.ref 50), some (.int l3)], [.int (X.2 (Int32.toNatClampNeg (l3 + (1 : Int32)))), .ref 0], i_S X M)) rfl rfl (by decide) g147 rfl ?_
                                                          refine i_rs 4 (cf' := (977, [some (.ref 100), some (.ref 0), some (.ref 50), some (.int l3)], [.int (l3 + (2 : Int32)), .ref 100, .int (X.2 (Int32.toNatClampNeg (l3 + (1 : Int32)))), .ref 0], i_S X M)) rfl ?_
                                                          obtain ⟨g148, h⟩ := i_gE h
                                                          refine i_riald (n := X.1) (cf' := (978, [some (.ref 100), some (.ref 0), some (.ref 50), some (.int l3)], [.int (X.2 (Int32.toNatClampNeg (l3 + (2 : Int32)))), .int (X.2 (Int32.toNatClampNeg (l3 + (1 : Int32)))), .ref 0], i_S X M)) rfl rfl (by decide) g148 rfl ?_
                                                          obtain ⟨q149, hq149, h⟩ := i_bdE h
                                                          refine i_rcall (k := 130) (as := [.ref 0, .int (X.2 (Int32.toNatClampNeg (l3 + (1 : Int32)))), .int (X.2 (Int32.toNatClampNeg (l3 + (2 : Int32))))]) (cf1 := (981, [some (.ref 100), some (.ref 0), some (.ref 50), some (.int l3)], [], i_S X M)) (cf' := (981, [some (.ref 100), some (.ref 0), some (.ref 50), some (.int l3)], [.int q149.1], i_S X q149.2)) rfl (ok_b_dug (by omega) hq149) rfl ?_
                                                          refine i_rs 5 (cf' := (986, [some (.ref 100), some (.ref 0), some (.ref 50), some (.int l3)], [.int (l3 + (1 : Int32)), .ref 100, .ref 50, .int q149.1], i_S X q149.2)) rfl ?_
                                                          refine i_riald (n := X.1) (cf' := (987, [some (.ref 100), some (.ref 0), some (.ref 50), some (.int l3)], [.int (X.2 (Int32.toNatClampNeg (l3 + (1 : Int32)))), .ref 50, .int q149.1], i_S X q149.2)) rfl rfl (by decide) g147 rfl ?_
                                                          refine i_rs 4 (cf' := (991, [some (.ref 100), some (.ref 0), some (.ref 50), some (.int l3)], [.int (l3 + (2 : Int32)), .ref 100, .int (X.2 (Int32.toNatClampNeg (l3 + (1 : Int32)))), .ref 50, .int q149.1], i_S X q149.2)) rfl ?_
                                                          refine i_riald (n := X.1) (cf' := (992, [some (.ref 100), some (.ref 0), some (.ref 50), some (.int l3)], [.int (X.2 (Int32.toNatClampNeg (l3 + (2 : Int32)))), .int (X.2 (Int32.toNatClampNeg (l3 + (1 : Int32)))), .ref 50, .int q149.1], i_S X q149.2)) rfl rfl (by decide) g148 rfl ?_
                                                          obtain ⟨q150, hq150, h⟩ := i_bdE h
                                                          refine i_rcall (k := 242) (as := [.ref 50, .int (X.2 (Int32.toNatClampNeg (l3 + (1 : Int32)))), .int (X.2 (Int32.toNatClampNeg (l3 + (2 : Int32))))]) (cf1 := (995, [some (.ref 100), some (.ref 0), some (.ref 50), some (.int l3)], [.int q149.1], i_S X q149.2)) (cf' := (995, [some (.ref 100), some (.ref 0), some (.ref 50), some (.int l3)], [.int q150.1, .int q149.1], i_S X q150.2)) rfl (ok_r_dug (by omega) hq150) rfl ?_
                                                          by_cases c151 : q149.1 = q150.1
                                                          · replace h := (if_pos c151).symm.trans h
                                                            refine i_rbT (c := q149.1 = q150.1) (t := 1466) (n := 998) rfl c151 ?_
                                                            refine i_rs 2 (cf' := (18, [some (.ref 100), some (.ref 0), some (.ref 50), some (.int (l3 + (6 : Int32)))], [], i_S X q150.2)) rfl ?_
                                                            refine i_fg (lv' := [some (.ref 100), some (.ref 0), some (.ref 50), some (.int (l3 + (6 : Int32)))]) (And.intro rfl (And.intro rfl (And.intro rfl (And.intro rfl True.intro)))) ?_
                                                            exact hself (l3 + (6 : Int32)) q150.2 _ h
                                                          · replace h := (if_neg c151).symm.trans h
                                                            refine i_rbF (c := q149.1 = q150.1) (t := 1466) (n := 998) rfl c151 ?_
                                                            refine i_rs 1 (cf' := (999, [some (.ref 100), some (.ref 0), some (.ref 50), some (.int l3)], [.int (0 : Int32)], i_S X q150.2)) rfl ?_
                                                            obtain rfl := Option.some.inj h
                                                            exact i_rretZ rfl (Or.inl rfl) rfl
                                                        · replace h := (if_neg c146).symm.trans h
                                                          refine i_rswF c146 ?_
                                                          by_cases c152 : ((X.2 (Int32.toNatClampNeg l3)) &&& (63 : Int32)) = (26 : Int32)
                                                          · replace h := (if_pos c152).symm.trans h
                                                            refine i_rswT c152 ?_
                                                            refine i_rs 5 (cf' := (1005, [some (.ref 100), some (.ref 0), some (.ref 50), some (.int l3)], [.int (l3 + (1 : Int32)), .ref 100, .ref 0], i_S X M)) rfl ?_
                                                            obtain ⟨g153, h⟩ := i_gE h
                                                            refine i_riald (n := X.1) (cf' := (1006, [some (.ref 100), some (.ref 0), some (.ref 50), some (.int l3)], [.int (X.2 (Int32.toNatClampNeg (l3 + (1 : Int32)))), .ref 0], i_S X M)) rfl rfl (by decide) g153 rfl ?_
                                                            obtain ⟨q154, hq154, h⟩ := i_bdE h
                                                            refine i_rcall (k := 132) (as := [.ref 0, .int (X.2 (Int32.toNatClampNeg (l3 + (1 : Int32))))]) (cf1 := (1009, [some (.ref 100), some (.ref 0), some (.ref 50), some (.int l3)], [], i_S X M)) (cf' := (1009, [some (.ref 100), some (.ref 0), some (.ref 50), some (.int l3)], [.int q154.1], i_S X q154.2)) rfl (ok_b_judge (by omega) hq154) rfl ?_
                                                            refine i_rs 5 (cf' := (1014, [some (.ref 100), some (.ref 0), some (.ref 50), some (.int l3)], [.int (l3 + (1 : Int32)), .ref 100, .ref 50, .int q154.1], i_S X q154.2)) rfl ?_
                                                            refine i_riald (n := X.1) (cf' := (1015, [some (.ref 100), some (.ref 0), some (.ref 50), some (.int l3)], [.int (X.2 (Int32.toNatClampNeg (l3 + (1 : Int32)))), .ref 50, .int q154.1], i_S X q154.2)) rfl rfl (by decide) g153 rfl ?_
                                                            obtain ⟨q155, hq155, h⟩ := i_bdE h
                                                            refine i_rcall (k := 243) (as := [.ref 50, .int (X.2 (Int32.toNatClampNeg (l3 + (1 : Int32))))]) (cf1 := (1018, [some (.ref 100), some (.ref 0), some (.ref 50), some (.int l3)], [.int q154.1], i_S X q154.2)) (cf' := (1018, [some (.ref 100), some (.ref 0), some (.ref 50), some (.int l3)], [.int q155.1, .int q154.1], i_S X q155.2)) rfl (ok_r_judge (by omega) hq155) rfl ?_
                                                            by_cases c156 : q154.1 = q155.1
                                                            · replace h := (if_pos c156).symm.trans h
                                                              refine i_rbT (c := q154.1 = q155.1) (t := 1466) (n := 1021) rfl c156 ?_
                                                              refine i_rs 2 (cf' := (18, [some (.ref 100), some (.ref 0), some (.ref 50), some (.int (l3 + (6 : Int32)))], [], i_S X q155.2)) rfl ?_
                                                              refine i_fg (lv' := [some (.ref 100), some (.ref 0), some (.ref 50), some (.int (l3 + (6 : Int32)))]) (And.intro rfl (And.intro rfl (And.intro rfl (And.intro rfl True.intro)))) ?_
                                                              exact hself (l3 + (6 : Int32)) q155.2 _ h
                                                            · replace h := (if_neg c156).symm.trans h
                                                              refine i_rbF (c := q154.1 = q155.1) (t := 1466) (n := 1021) rfl c156 ?_
                                                              refine i_rs 1 (cf' := (1022, [some (.ref 100), some (.ref 0), some (.ref 50), some (.int l3)], [.int (0 : Int32)], i_S X q155.2)) rfl ?_
                                                              obtain rfl := Option.some.inj h
                                                              exact i_rretZ rfl (Or.inl rfl) rfl
                                                          · replace h := (if_neg c152).symm.trans h
                                                            refine i_rswF c152 ?_
                                                            by_cases c157 : ((X.2 (Int32.toNatClampNeg l3)) &&& (63 : Int32)) = (27 : Int32)
                                                            · replace h := (if_pos c157).symm.trans h
                                                              refine i_rswT c157 ?_
                                                              refine i_rs 1 (cf' := (1024, [some (.ref 100), some (.ref 0), some (.ref 50), some (.int l3)], [.ref 0], i_S X M)) rfl ?_
                                                              obtain ⟨q158, hq158, h⟩ := i_bdE h
                                                              refine i_rcall (k := 133) (as := [.ref 0]) (cf1 := (1027, [some (.ref 100), some (.ref 0), some (.ref 50), some (.int l3)], [], i_S X M)) (cf' := (1027, [some (.ref 100), some (.ref 0), some (.ref 50), some (.int l3)], [.int q158.1], i_S X q158.2)) rfl (ok_b_image (by omega) hq158) rfl ?_
                                                              refine i_rs 1 (cf' := (1028, [some (.ref 100), some (.ref 0), some (.ref 50), some (.int l3)], [.ref 50, .int q158.1], i_S X q158.2)) rfl ?_
                                                              obtain ⟨q159, hq159, h⟩ := i_bdE h
                                                              refine i_rcall (k := 244) (as := [.ref 50]) (cf1 := (1031, [some (.ref 100), some (.ref 0), some (.ref 50), some (.int l3)], [.int q158.1], i_S X q158.2)) (cf' := (1031, [some (.ref 100), some (.ref 0), some (.ref 50), some (.int l3)], [.int q159.1, .int q158.1], i_S X q159.2)) rfl (ok_r_image (by omega) hq159) rfl ?_
                                                              by_cases c160 : q158.1 = q159.1
                                                              · replace h := (if_pos c160).symm.trans h
                                                                refine i_rbT (c := q158.1 = q159.1) (t := 1466) (n := 1034) rfl c160 ?_
                                                                refine i_rs 2 (cf' := (18, [some (.ref 100), some (.ref 0), some (.ref 50), some (.int (l3 + (6 : Int32)))], [], i_S X q159.2)) rfl ?_
                                                                refine i_fg (lv' := [some (.ref 100), some (.ref 0), some (.ref 50), some (.int (l3 + (6 : Int32)))]) (And.intro rfl (And.intro rfl (And.intro rfl (And.intro rfl True.intro)))) ?_
                                                                exact hself (l3 + (6 : Int32)) q159.2 _ h
                                                              · replace h := (if_neg c160).symm.trans h
                                                                refine i_rbF (c := q158.1 = q159.1) (t := 1466) (n := 1034) rfl c160 ?_
                                                                refine i_rs 1 (cf' := (1035, [some (.ref 100), some (.ref 0), some (.ref 50), some (.int l3)], [.int (0 : Int32)], i_S X q159.2)) rfl ?_
                                                                obtain rfl := Option.some.inj h
                                                                exact i_rretZ rfl (Or.inl rfl) rfl
                                                            · replace h := (if_neg c157).symm.trans h
                                                              refine i_rswF c157 ?_
                                                              by_cases c161 : ((X.2 (Int32.toNatClampNeg l3)) &&& (63 : Int32)) = (28 : Int32)
                                                              · replace h := (if_pos c161).symm.trans h
                                                                refine i_rswT c161 ?_
                                                                refine i_rs 1 (cf' := (1037, [some (.ref 100), some (.ref 0), some (.ref 50), some (.int l3)], [.ref 0], i_S X M)) rfl ?_
                                                                obtain ⟨q162, hq162, h⟩ := i_bdE h
                                                                refine i_rcall (k := 135) (as := [.ref 0]) (cf1 := (1040, [some (.ref 100), some (.ref 0), some (.ref 50), some (.int l3)], [], i_S X M)) (cf' := (1040, [some (.ref 100), some (.ref 0), some (.ref 50), some (.int l3)], [.int q162.1], i_S X q162.2)) rfl (ok_b_back (by omega) hq162) rfl ?_
                                                                refine i_rs 1 (cf' := (1041, [some (.ref 100), some (.ref 0), some (.ref 50), some (.int l3)], [.ref 50, .int q162.1], i_S X q162.2)) rfl ?_
                                                                obtain ⟨q163, hq163, h⟩ := i_bdE h
                                                                refine i_rcall (k := 245) (as := [.ref 50]) (cf1 := (1044, [some (.ref 100), some (.ref 0), some (.ref 50), some (.int l3)], [.int q162.1], i_S X q162.2)) (cf' := (1044, [some (.ref 100), some (.ref 0), some (.ref 50), some (.int l3)], [.int q163.1, .int q162.1], i_S X q163.2)) rfl (ok_r_back (by omega) hq163) rfl ?_
                                                                by_cases c164 : q162.1 = q163.1
                                                                · replace h := (if_pos c164).symm.trans h
                                                                  refine i_rbT (c := q162.1 = q163.1) (t := 1466) (n := 1047) rfl c164 ?_
                                                                  refine i_rs 2 (cf' := (18, [some (.ref 100), some (.ref 0), some (.ref 50), some (.int (l3 + (6 : Int32)))], [], i_S X q163.2)) rfl ?_
                                                                  refine i_fg (lv' := [some (.ref 100), some (.ref 0), some (.ref 50), some (.int (l3 + (6 : Int32)))]) (And.intro rfl (And.intro rfl (And.intro rfl (And.intro rfl True.intro)))) ?_
                                                                  exact hself (l3 + (6 : Int32)) q163.2 _ h
                                                                · replace h := (if_neg c164).symm.trans h
                                                                  refine i_rbF (c := q162.1 = q163.1) (t := 1466) (n := 1047) rfl c164 ?_
                                                                  refine i_rs 1 (cf' := (1048, [some (.ref 100), some (.ref 0), some (.ref 50), some (.int l3)], [.int (0 : Int32)], i_S X q163.2)) rfl ?_
                                                                  obtain rfl := Option.some.inj h
                                                                  exact i_rretZ rfl (Or.inl rfl) rfl
                                                              · replace h := (if_neg c161).symm.trans h
                                                                refine i_rswF c161 ?_
                                                                by_cases c165 : ((X.2 (Int32.toNatClampNeg l3)) &&& (63 : Int32)) = (29 : Int32)
                                                                · replace h := (if_pos c165).symm.trans h
                                                                  refine i_rswT c165 ?_
                                                                  refine i_rs 1 (cf' := (1050, [some (.ref 100), some (.ref 0), some (.ref 50), some (.int l3)], [.ref 0], i_S X M)) rfl ?_
                                                                  obtain ⟨q166, hq166, h⟩ := i_bdE h
                                                                  refine i_rcall (k := 136) (as := [.ref 0]) (cf1 := (1053, [some (.ref 100), some (.ref 0), some (.ref 50), some (.int l3)], [], i_S X M)) (cf' := (1053, [some (.ref 100), some (.ref 0), some (.ref 50), some (.int l3)], [.int q166.1], i_S X q166.2)) rfl (ok_b_undo (by omega) hq166) rfl ?_
                                                                  refine i_rs 1 (cf' := (1054, [some (.ref 100), some (.ref 0), some (.ref 50), some (.int l3)], [.ref 50, .int q166.1], i_S X q166.2)) rfl ?_
                                                                  obtain ⟨q167, hq167, h⟩ := i_bdE h
                                                                  refine i_rcall (k := 172) (as := [.ref 50]) (cf1 := (1057, [some (.ref 100), some (.ref 0), some (.ref 50), some (.int l3)], [.int q166.1], i_S X q166.2)) (cf' := (1057, [some (.ref 100), some (.ref 0), some (.ref 50), some (.int l3)], [.int q167.1, .int q166.1], i_S X q167.2)) rfl (ok_r_undo (by omega) hq167) rfl ?_
                                                                  by_cases c168 : q166.1 = q167.1
                                                                  · replace h := (if_pos c168).symm.trans h
                                                                    refine i_rbT (c := q166.1 = q167.1) (t := 1466) (n := 1060) rfl c168 ?_
                                                                    refine i_rs 2 (cf' := (18, [some (.ref 100), some (.ref 0), some (.ref 50), some (.int (l3 + (6 : Int32)))], [], i_S X q167.2)) rfl ?_
                                                                    refine i_fg (lv' := [some (.ref 100), some (.ref 0), some (.ref 50), some (.int (l3 + (6 : Int32)))]) (And.intro rfl (And.intro rfl (And.intro rfl (And.intro rfl True.intro)))) ?_
                                                                    exact hself (l3 + (6 : Int32)) q167.2 _ h
                                                                  · replace h := (if_neg c168).symm.trans h
                                                                    refine i_rbF (c := q166.1 = q167.1) (t := 1466) (n := 1060) rfl c168 ?_
                                                                    refine i_rs 1 (cf' := (1061, [some (.ref 100), some (.ref 0), some (.ref 50), some (.int l3)], [.int (0 : Int32)], i_S X q167.2)) rfl ?_
                                                                    obtain rfl := Option.some.inj h
                                                                    exact i_rretZ rfl (Or.inl rfl) rfl
                                                                · replace h := (if_neg c165).symm.trans h
                                                                  refine i_rswF c165 ?_
                                                                  by_cases c169 : ((X.2 (Int32.toNatClampNeg l3)) &&& (63 : Int32)) = (30 : Int32)
                                                                  · replace h := (if_pos c169).symm.trans h
                                                                    refine i_rswT c169 ?_
                                                                    refine i_rs 1 (cf' := (1063, [some (.ref 100), some (.ref 0), some (.ref 50), some (.int l3)], [.ref 0], i_S X M)) rfl ?_
                                                                    obtain ⟨q170, hq170, h⟩ := i_bdE h
                                                                    refine i_rcall (k := 138) (as := [.ref 0]) (cf1 := (1066, [some (.ref 100), some (.ref 0), some (.ref 50), some (.int l3)], [], i_S X M)) (cf' := (1066, [some (.ref 100), some (.ref 0), some (.ref 50), some (.int l3)], [.int q170.1], i_S X q170.2)) rfl (ok_b_redo (by omega) hq170) rfl ?_
                                                                    refine i_rs 1 (cf' := (1067, [some (.ref 100), some (.ref 0), some (.ref 50), some (.int l3)], [.ref 50, .int q170.1], i_S X q170.2)) rfl ?_
                                                                    obtain ⟨q171, hq171, h⟩ := i_bdE h
                                                                    refine i_rcall (k := 173) (as := [.ref 50]) (cf1 := (1070, [some (.ref 100), some (.ref 0), some (.ref 50), some (.int l3)], [.int q170.1], i_S X q170.2)) (cf' := (1070, [some (.ref 100), some (.ref 0), some (.ref 50), some (.int l3)], [.int q171.1, .int q170.1], i_S X q171.2)) rfl (ok_r_redo (by omega) hq171) rfl ?_
                                                                    by_cases c172 : q170.1 = q171.1
                                                                    · replace h := (if_pos c172).symm.trans h
                                                                      refine i_rbT (c := q170.1 = q171.1) (t := 1466) (n := 1073) rfl c172 ?_
                                                                      refine i_rs 2 (cf' := (18, [some (.ref 100), some (.ref 0), some (.ref 50), some (.int (l3 + (6 : Int32)))], [], i_S X q171.2)) rfl ?_
                                                                      refine i_fg (lv' := [some (.ref 100), some (.ref 0), some (.ref 50), some (.int (l3 + (6 : Int32)))]) (And.intro rfl (And.intro rfl (And.intro rfl (And.intro rfl True.intro)))) ?_
                                                                      exact hself (l3 + (6 : Int32)) q171.2 _ h
                                                                    · replace h := (if_neg c172).symm.trans h
                                                                      refine i_rbF (c := q170.1 = q171.1) (t := 1466) (n := 1073) rfl c172 ?_
                                                                      refine i_rs 1 (cf' := (1074, [some (.ref 100), some (.ref 0), some (.ref 50), some (.int l3)], [.int (0 : Int32)], i_S X q171.2)) rfl ?_
                                                                      obtain rfl := Option.some.inj h
                                                                      exact i_rretZ rfl (Or.inl rfl) rfl
                                                                  · replace h := (if_neg c169).symm.trans h
                                                                    refine i_rswF c169 ?_
                                                                    by_cases c173 : ((X.2 (Int32.toNatClampNeg l3)) &&& (63 : Int32)) = (31 : Int32)
                                                                    · replace h := (if_pos c173).symm.trans h
                                                                      refine i_rswT c173 ?_
                                                                      refine i_rs 5 (cf' := (1080, [some (.ref 100), some (.ref 0), some (.ref 50), some (.int l3)], [.int (l3 + (1 : Int32)), .ref 100, .ref 0], i_S X M)) rfl ?_
                                                                      obtain ⟨g174, h⟩ := i_gE h
                                                                      refine i_riald (n := X.1) (cf' := (1081, [some (.ref 100), some (.ref 0), some (.ref 50), some (.int l3)], [.int (X.2 (Int32.toNatClampNeg (l3 + (1 : Int32)))), .ref 0], i_S X M)) rfl rfl (by decide) g174 rfl ?_
                                                                      obtain ⟨q175, hq175, h⟩ := i_bdE h
                                                                      refine i_rcall (k := 140) (as := [.ref 0, .int (X.2 (Int32.toNatClampNeg (l3 + (1 : Int32))))]) (cf1 := (1084, [some (.ref 100), some (.ref 0), some (.ref 50), some (.int l3)], [], i_S X M)) (cf' := (1084, [some (.ref 100), some (.ref 0), some (.ref 50), some (.int l3)], [.int q175.1], i_S X q175.2)) rfl (ok_b_body (by omega) hq175) rfl ?_
                                                                      refine i_rs 5 (cf' := (1089, [some (.ref 100), some (.ref 0), some (.ref 50), some (.int l3)], [.int (l3 + (1 : Int32)), .ref 100, .ref 50, .int q175.1], i_S X q175.2)) rfl ?_
                                                                      refine i_riald (n := X.1) (cf' := (1090, [some (.ref 100), some (.ref 0), some (.ref 50), some (.int l3)], [.int (X.2 (Int32.toNatClampNeg (l3 + (1 : Int32)))), .ref 50, .int q175.1], i_S X q175.2)) rfl rfl (by decide) g174 rfl ?_
                                                                      obtain ⟨q176, hq176, h⟩ := i_bdE h
                                                                      refine i_rcall (k := 246) (as := [.ref 50, .int (X.2 (Int32.toNatClampNeg (l3 + (1 : Int32))))]) (cf1 := (1093, [some (.ref 100), some (.ref 0), some (.ref 50), some (.int l3)], [.int q175.1], i_S X q175.2)) (cf' := (1093, [some (.ref 100), some (.ref 0), some (.ref 50), some (.int l3)], [.int q176.1, .int q175.1], i_S X q176.2)) rfl (ok_r_body (by omega) hq176) rfl ?_
                                                                      by_cases c177 : q175.1 = q176.1
                                                                      · replace h := (if_pos c177).symm.trans h
                                                                        refine i_rbT (c := q175.1 = q176.1) (t := 1466) (n := 1096) rfl c177 ?_
                                                                        refine i_rs 2 (cf' := (18, [some (.ref 100), some (.ref 0), some (.ref 50), some (.int (l3 + (6 : Int32)))], [], i_S X q176.2)) rfl ?_
                                                                        refine i_fg (lv' := [some (.ref 100), some (.ref 0), some (.ref 50), some (.int (l3 + (6 : Int32)))]) (And.intro rfl (And.intro rfl (And.intro rfl (And.intro rfl True.intro)))) ?_
                                                                        exact hself (l3 + (6 : Int32)) q176.2 _ h
                                                                      · replace h := (if_neg c177).symm.trans h
                                                                        refine i_rbF (c := q175.1 = q176.1) (t := 1466) (n := 1096) rfl c177 ?_
                                                                        refine i_rs 1 (cf' := (1097, [some (.ref 100), some (.ref 0), some (.ref 50), some (.int l3)], [.int (0 : Int32)], i_S X q176.2)) rfl ?_
                                                                        obtain rfl := Option.some.inj h
                                                                        exact i_rretZ rfl (Or.inl rfl) rfl
                                                                    · replace h := (if_neg c173).symm.trans h
                                                                      refine i_rswF c173 ?_
                                                                      by_cases c178 : ((X.2 (Int32.toNatClampNeg l3)) &&& (63 : Int32)) = (32 : Int32)
                                                                      · replace h := (if_pos c178).symm.trans h
                                                                        refine i_rswT c178 ?_
                                                                        refine i_rs 5 (cf' := (1103, [some (.ref 100), some (.ref 0), some (.ref 50), some (.int l3)], [.int (l3 + (1 : Int32)), .ref 100, .ref 0], i_S X M)) rfl ?_
                                                                        obtain ⟨g179, h⟩ := i_gE h
                                                                        refine i_riald (n := X.1) (cf' := (1104, [some (.ref 100), some (.ref 0), some (.ref 50), some (.int l3)], [.int (X.2 (Int32.toNatClampNeg (l3 + (1 : Int32)))), .ref 0], i_S X M)) rfl rfl (by decide) g179 rfl ?_
                                                                        refine i_rs 4 (cf' := (1108, [some (.ref 100), some (.ref 0), some (.ref 50), some (.int l3)], [.int (l3 + (2 : Int32)), .ref 100, .int (X.2 (Int32.toNatClampNeg (l3 + (1 : Int32)))), .ref 0], i_S X M)) rfl ?_
                                                                        obtain ⟨g180, h⟩ := i_gE h
                                                                        refine i_riald (n := X.1) (cf' := (1109, [some (.ref 100), some (.ref 0), some (.ref 50), some (.int l3)], [.int (X.2 (Int32.toNatClampNeg (l3 + (2 : Int32)))), .int (X.2 (Int32.toNatClampNeg (l3 + (1 : Int32)))), .ref 0], i_S X M)) rfl rfl (by decide) g180 rfl ?_
                                                                        refine i_rs 4 (cf' := (1113, [some (.ref 100), some (.ref 0), some (.ref 50), some (.int l3)], [.int (l3 + (3 : Int32)), .ref 100, .int (X.2 (Int32.toNatClampNeg (l3 + (2 : Int32)))), .int (X.2 (Int32.toNatClampNeg (l3 + (1 : Int32)))), .ref 0], i_S X M)) rfl ?_
                                                                        obtain ⟨g181, h⟩ := i_gE h
                                                                        refine i_riald (n := X.1) (cf' := (1114, [some (.ref 100), some (.ref 0), some (.ref 50), some (.int l3)], [.int (X.2 (Int32.toNatClampNeg (l3 + (3 : Int32)))), .int (X.2 (Int32.toNatClampNeg (l3 + (2 : Int32)))), .int (X.2 (Int32.toNatClampNeg (l3 + (1 : Int32)))), .ref 0], i_S X M)) rfl rfl (by decide) g181 rfl ?_
                                                                        obtain ⟨q182, hq182, h⟩ := i_bdE h
                                                                        refine i_rcall (k := 143) (as := [.ref 0, .int (X.2 (Int32.toNatClampNeg (l3 + (1 : Int32)))), .int (X.2 (Int32.toNatClampNeg (l3 + (2 : Int32)))), .int (X.2 (Int32.toNatClampNeg (l3 + (3 : Int32))))]) (cf1 := (1117, [some (.ref 100), some (.ref 0), some (.ref 50), some (.int l3)], [], i_S X M)) (cf' := (1117, [some (.ref 100), some (.ref 0), some (.ref 50), some (.int l3)], [.int q182.1], i_S X q182.2)) rfl (ok_b_act (by omega) hq182) rfl ?_
                                                                        refine i_rs 5 (cf' := (1122, [some (.ref 100), some (.ref 0), some (.ref 50), some (.int l3)], [.int (l3 + (1 : Int32)), .ref 100, .ref 50, .int q182.1], i_S X q182.2)) rfl ?_
                                                                        refine i_riald (n := X.1) (cf' := (1123, [some (.ref 100), some (.ref 0), some (.ref 50), some (.int l3)], [.int (X.2 (Int32.toNatClampNeg (l3 + (1 : Int32)))), .ref 50, .int q182.1], i_S X q182.2)) rfl rfl (by decide) g179 rfl ?_
                                                                        refine i_rs 4 (cf' := (1127, [some (.ref 100), some (.ref 0), some (.ref 50), some (.int l3)], [.int (l3 + (2 : Int32)), .ref 100, .int (X.2 (Int32.toNatClampNeg (l3 + (1 : Int32)))), .ref 50, .int q182.1], i_S X q182.2)) rfl ?_
                                                                        refine i_riald (n := X.1) (cf' := (1128, [some (.ref 100), some (.ref 0), some (.ref 50), some (.int l3)], [.int (X.2 (Int32.toNatClampNeg (l3 + (2 : Int32)))), .int (X.2 (Int32.toNatClampNeg (l3 + (1 : Int32)))), .ref 50, .int q182.1], i_S X q182.2)) rfl rfl (by decide) g180 rfl ?_
                                                                        refine i_rs 4 (cf' := (1132, [some (.ref 100), some (.ref 0), some (.ref 50), some (.int l3)], [.int (l3 + (3 : Int32)), .ref 100, .int (X.2 (Int32.toNatClampNeg (l3 + (2 : Int32)))), .int (X.2 (Int32.toNatClampNeg (l3 + (1 : Int32)))), .ref 50, .int q182.1], i_S X q182.2)) rfl ?_
                                                                        refine i_riald (n := X.1) (cf' := (1133, [some (.ref 100), some (.ref 0), some (.ref 50), some (.int l3)], [.int (X.2 (Int32.toNatClampNeg (l3 + (3 : Int32)))), .int (X.2 (Int32.toNatClampNeg (l3 + (2 : Int32)))), .int (X.2 (Int32.toNatClampNeg (l3 + (1 : Int32)))), .ref 50, .int q182.1], i_S X q182.2)) rfl rfl (by decide) g181 rfl ?_
                                                                        obtain ⟨q183, hq183, h⟩ := i_bdE h
                                                                        refine i_rcall (k := 247) (as := [.ref 50, .int (X.2 (Int32.toNatClampNeg (l3 + (1 : Int32)))), .int (X.2 (Int32.toNatClampNeg (l3 + (2 : Int32)))), .int (X.2 (Int32.toNatClampNeg (l3 + (3 : Int32))))]) (cf1 := (1136, [some (.ref 100), some (.ref 0), some (.ref 50), some (.int l3)], [.int q182.1], i_S X q182.2)) (cf' := (1136, [some (.ref 100), some (.ref 0), some (.ref 50), some (.int l3)], [.int q183.1, .int q182.1], i_S X q183.2)) rfl (ok_r_act (by omega) hq183) rfl ?_
                                                                        by_cases c184 : q182.1 = q183.1
                                                                        · replace h := (if_pos c184).symm.trans h
                                                                          refine i_rbT (c := q182.1 = q183.1) (t := 1466) (n := 1139) rfl c184 ?_
                                                                          refine i_rs 2 (cf' := (18, [some (.ref 100), some (.ref 0), some (.ref 50), some (.int (l3 + (6 : Int32)))], [], i_S X q183.2)) rfl ?_
                                                                          refine i_fg (lv' := [some (.ref 100), some (.ref 0), some (.ref 50), some (.int (l3 + (6 : Int32)))]) (And.intro rfl (And.intro rfl (And.intro rfl (And.intro rfl True.intro)))) ?_
                                                                          exact hself (l3 + (6 : Int32)) q183.2 _ h
                                                                        · replace h := (if_neg c184).symm.trans h
                                                                          refine i_rbF (c := q182.1 = q183.1) (t := 1466) (n := 1139) rfl c184 ?_
                                                                          refine i_rs 1 (cf' := (1140, [some (.ref 100), some (.ref 0), some (.ref 50), some (.int l3)], [.int (0 : Int32)], i_S X q183.2)) rfl ?_
                                                                          obtain rfl := Option.some.inj h
                                                                          exact i_rretZ rfl (Or.inl rfl) rfl
                                                                      · replace h := (if_neg c178).symm.trans h
                                                                        refine i_rswF c178 ?_
                                                                        by_cases c185 : ((X.2 (Int32.toNatClampNeg l3)) &&& (63 : Int32)) = (33 : Int32)
                                                                        · replace h := (if_pos c185).symm.trans h
                                                                          refine i_rswT c185 ?_
                                                                          refine i_rs 5 (cf' := (1146, [some (.ref 100), some (.ref 0), some (.ref 50), some (.int l3)], [.int (l3 + (1 : Int32)), .ref 100, .ref 0], i_S X M)) rfl ?_
                                                                          obtain ⟨g186, h⟩ := i_gE h
                                                                          refine i_riald (n := X.1) (cf' := (1147, [some (.ref 100), some (.ref 0), some (.ref 50), some (.int l3)], [.int (X.2 (Int32.toNatClampNeg (l3 + (1 : Int32)))), .ref 0], i_S X M)) rfl rfl (by decide) g186 rfl ?_
                                                                          obtain ⟨q187, hq187, h⟩ := i_bdE h
                                                                          refine i_rcall (k := 152) (as := [.ref 0, .int (X.2 (Int32.toNatClampNeg (l3 + (1 : Int32))))]) (cf1 := (1150, [some (.ref 100), some (.ref 0), some (.ref 50), some (.int l3)], [], i_S X M)) (cf' := (1150, [some (.ref 100), some (.ref 0), some (.ref 50), some (.int l3)], [.int q187.1], i_S X q187.2)) rfl (ok_b_trace (by omega) hq187) rfl ?_
                                                                          refine i_rs 5 (cf' := (1155, [some (.ref 100), some (.ref 0), some (.ref 50), some (.int l3)], [.int (l3 + (1 : Int32)), .ref 100, .ref 50, .int q187.1], i_S X q187.2)) rfl ?_
                                                                          refine i_riald (n := X.1) (cf' := (1156, [some (.ref 100), some (.ref 0), some (.ref 50), some (.int l3)], [.int (X.2 (Int32.toNatClampNeg (l3 + (1 : Int32)))), .ref 50, .int q187.1], i_S X q187.2)) rfl rfl (by decide) g186 rfl ?_
                                                                          obtain ⟨q188, hq188, h⟩ := i_bdE h
                                                                          refine i_rcall (k := 254) (as := [.ref 50, .int (X.2 (Int32.toNatClampNeg (l3 + (1 : Int32))))]) (cf1 := (1159, [some (.ref 100), some (.ref 0), some (.ref 50), some (.int l3)], [.int q187.1], i_S X q187.2)) (cf' := (1159, [some (.ref 100), some (.ref 0), some (.ref 50), some (.int l3)], [.int q188.1, .int q187.1], i_S X q188.2)) rfl (ok_r_trace (by omega) hq188) rfl ?_
                                                                          by_cases c189 : q187.1 = q188.1
                                                                          · replace h := (if_pos c189).symm.trans h
                                                                            refine i_rbT (c := q187.1 = q188.1) (t := 1466) (n := 1162) rfl c189 ?_
                                                                            refine i_rs 2 (cf' := (18, [some (.ref 100), some (.ref 0), some (.ref 50), some (.int (l3 + (6 : Int32)))], [], i_S X q188.2)) rfl ?_
                                                                            refine i_fg (lv' := [some (.ref 100), some (.ref 0), some (.ref 50), some (.int (l3 + (6 : Int32)))]) (And.intro rfl (And.intro rfl (And.intro rfl (And.intro rfl True.intro)))) ?_
                                                                            exact hself (l3 + (6 : Int32)) q188.2 _ h
                                                                          · replace h := (if_neg c189).symm.trans h
                                                                            refine i_rbF (c := q187.1 = q188.1) (t := 1466) (n := 1162) rfl c189 ?_
                                                                            refine i_rs 1 (cf' := (1163, [some (.ref 100), some (.ref 0), some (.ref 50), some (.int l3)], [.int (0 : Int32)], i_S X q188.2)) rfl ?_
                                                                            obtain rfl := Option.some.inj h
                                                                            exact i_rretZ rfl (Or.inl rfl) rfl
                                                                        · replace h := (if_neg c185).symm.trans h
                                                                          refine i_rswF c185 ?_
                                                                          by_cases c190 : ((X.2 (Int32.toNatClampNeg l3)) &&& (63 : Int32)) = (34 : Int32)
                                                                          · replace h := (if_pos c190).symm.trans h
                                                                            refine i_rswT c190 ?_
                                                                            refine i_rs 5 (cf' := (1169, [some (.ref 100), some (.ref 0), some (.ref 50), some (.int l3)], [.int (l3 + (1 : Int32)), .ref 100, .ref 0], i_S X M)) rfl ?_
                                                                            obtain ⟨g191, h⟩ := i_gE h
                                                                            refine i_riald (n := X.1) (cf' := (1170, [some (.ref 100), some (.ref 0), some (.ref 50), some (.int l3)], [.int (X.2 (Int32.toNatClampNeg (l3 + (1 : Int32)))), .ref 0], i_S X M)) rfl rfl (by decide) g191 rfl ?_
                                                                            refine i_rs 4 (cf' := (1174, [some (.ref 100), some (.ref 0), some (.ref 50), some (.int l3)], [.int (l3 + (2 : Int32)), .ref 100, .int (X.2 (Int32.toNatClampNeg (l3 + (1 : Int32)))), .ref 0], i_S X M)) rfl ?_
                                                                            obtain ⟨g192, h⟩ := i_gE h
                                                                            refine i_riald (n := X.1) (cf' := (1175, [some (.ref 100), some (.ref 0), some (.ref 50), some (.int l3)], [.int (X.2 (Int32.toNatClampNeg (l3 + (2 : Int32)))), .int (X.2 (Int32.toNatClampNeg (l3 + (1 : Int32)))), .ref 0], i_S X M)) rfl rfl (by decide) g192 rfl ?_
                                                                            obtain ⟨q193, hq193, h⟩ := i_bdE h
                                                                            refine i_rcall (k := 154) (as := [.ref 0, .int (X.2 (Int32.toNatClampNeg (l3 + (1 : Int32)))), .int (X.2 (Int32.toNatClampNeg (l3 + (2 : Int32))))]) (cf1 := (1178, [some (.ref 100), some (.ref 0), some (.ref 50), some (.int l3)], [], i_S X M)) (cf' := (1178, [some (.ref 100), some (.ref 0), some (.ref 50), some (.int l3)], [.int q193.1], i_S X q193.2)) rfl (ok_b_keep (by omega) hq193) rfl ?_
                                                                            refine i_rs 5 (cf' := (1183, [some (.ref 100), some (.ref 0), some (.ref 50), some (.int l3)], [.int (l3 + (1 : Int32)), .ref 100, .ref 50, .int q193.1], i_S X q193.2)) rfl ?_
                                                                            refine i_riald (n := X.1) (cf' := (1184, [some (.ref 100), some (.ref 0), some (.ref 50), some (.int l3)], [.int (X.2 (Int32.toNatClampNeg (l3 + (1 : Int32)))), .ref 50, .int q193.1], i_S X q193.2)) rfl rfl (by decide) g191 rfl ?_
                                                                            refine i_rs 4 (cf' := (1188, [some (.ref 100), some (.ref 0), some (.ref 50), some (.int l3)], [.int (l3 + (2 : Int32)), .ref 100, .int (X.2 (Int32.toNatClampNeg (l3 + (1 : Int32)))), .ref 50, .int q193.1], i_S X q193.2)) rfl ?_
                                                                            refine i_riald (n := X.1) (cf' := (1189, [some (.ref 100), some (.ref 0), some (.ref 50), some (.int l3)], [.int (X.2 (Int32.toNatClampNeg (l3 + (2 : Int32)))), .int (X.2 (Int32.toNatClampNeg (l3 + (1 : Int32)))), .ref 50, .int q193.1], i_S X q193.2)) rfl rfl (by decide) g192 rfl ?_
                                                                            obtain ⟨q194, hq194, h⟩ := i_bdE h
                                                                            refine i_rcall (k := 255) (as := [.ref 50, .int (X.2 (Int32.toNatClampNeg (l3 + (1 : Int32)))), .int (X.2 (Int32.toNatClampNeg (l3 + (2 : Int32))))]) (cf1 := (1192, [some (.ref 100), some (.ref 0), some (.ref 50), some (.int l3)], [.int q193.1], i_S X q193.2)) (cf' := (1192, [some (.ref 100), some (.ref 0), some (.ref 50), some (.int l3)], [.int q194.1, .int q193.1], i_S X q194.2)) rfl (ok_r_keep (by omega) hq194) rfl ?_
                                                                            by_cases c195 : q193.1 = q194.1
                                                                            · replace h := (if_pos c195).symm.trans h
                                                                              refine i_rbT (c := q193.1 = q194.1) (t := 1466) (n := 1195) rfl c195 ?_
                                                                              refine i_rs 2 (cf' := (18, [some (.ref 100), some (.ref 0), some (.ref 50), some (.int (l3 + (6 : Int32)))], [], i_S X q194.2)) rfl ?_
                                                                              refine i_fg (lv' := [some (.ref 100), some (.ref 0), some (.ref 50), some (.int (l3 + (6 : Int32)))]) (And.intro rfl (And.intro rfl (And.intro rfl (And.intro rfl True.intro)))) ?_
                                                                              exact hself (l3 + (6 : Int32)) q194.2 _ h
                                                                            · replace h := (if_neg c195).symm.trans h
                                                                              refine i_rbF (c := q193.1 = q194.1) (t := 1466) (n := 1195) rfl c195 ?_
                                                                              refine i_rs 1 (cf' := (1196, [some (.ref 100), some (.ref 0), some (.ref 50), some (.int l3)], [.int (0 : Int32)], i_S X q194.2)) rfl ?_
                                                                              obtain rfl := Option.some.inj h
                                                                              exact i_rretZ rfl (Or.inl rfl) rfl
                                                                          · replace h := (if_neg c190).symm.trans h
                                                                            refine i_rswF c190 ?_
                                                                            by_cases c196 : ((X.2 (Int32.toNatClampNeg l3)) &&& (63 : Int32)) = (35 : Int32)
                                                                            · replace h := (if_pos c196).symm.trans h
                                                                              refine i_rswT c196 ?_
                                                                              refine i_rs 5 (cf' := (1202, [some (.ref 100), some (.ref 0), some (.ref 50), some (.int l3)], [.int (l3 + (1 : Int32)), .ref 100, .ref 0], i_S X M)) rfl ?_
                                                                              obtain ⟨g197, h⟩ := i_gE h
                                                                              refine i_riald (n := X.1) (cf' := (1203, [some (.ref 100), some (.ref 0), some (.ref 50), some (.int l3)], [.int (X.2 (Int32.toNatClampNeg (l3 + (1 : Int32)))), .ref 0], i_S X M)) rfl rfl (by decide) g197 rfl ?_
                                                                              refine i_rs 4 (cf' := (1207, [some (.ref 100), some (.ref 0), some (.ref 50), some (.int l3)], [.int (l3 + (2 : Int32)), .ref 100, .int (X.2 (Int32.toNatClampNeg (l3 + (1 : Int32)))), .ref 0], i_S X M)) rfl ?_
                                                                              obtain ⟨g198, h⟩ := i_gE h
                                                                              refine i_riald (n := X.1) (cf' := (1208, [some (.ref 100), some (.ref 0), some (.ref 50), some (.int l3)], [.int (X.2 (Int32.toNatClampNeg (l3 + (2 : Int32)))), .int (X.2 (Int32.toNatClampNeg (l3 + (1 : Int32)))), .ref 0], i_S X M)) rfl rfl (by decide) g198 rfl ?_
                                                                              refine i_rs 4 (cf' := (1212, [some (.ref 100), some (.ref 0), some (.ref 50), some (.int l3)], [.int (l3 + (3 : Int32)), .ref 100, .int (X.2 (Int32.toNatClampNeg (l3 + (2 : Int32)))), .int (X.2 (Int32.toNatClampNeg (l3 + (1 : Int32)))), .ref 0], i_S X M)) rfl ?_
                                                                              obtain ⟨g199, h⟩ := i_gE h
                                                                              refine i_riald (n := X.1) (cf' := (1213, [some (.ref 100), some (.ref 0), some (.ref 50), some (.int l3)], [.int (X.2 (Int32.toNatClampNeg (l3 + (3 : Int32)))), .int (X.2 (Int32.toNatClampNeg (l3 + (2 : Int32)))), .int (X.2 (Int32.toNatClampNeg (l3 + (1 : Int32)))), .ref 0], i_S X M)) rfl rfl (by decide) g199 rfl ?_
                                                                              obtain ⟨q200, hq200, h⟩ := i_bdE h
                                                                              refine i_rcall (k := 158) (as := [.ref 0, .int (X.2 (Int32.toNatClampNeg (l3 + (1 : Int32)))), .int (X.2 (Int32.toNatClampNeg (l3 + (2 : Int32)))), .int (X.2 (Int32.toNatClampNeg (l3 + (3 : Int32))))]) (cf1 := (1216, [some (.ref 100), some (.ref 0), some (.ref 50), some (.int l3)], [], i_S X M)) (cf' := (1216, [some (.ref 100), some (.ref 0), some (.ref 50), some (.int l3)], [.int q200.1], i_S X q200.2)) rfl (ok_b_row (by omega) hq200) rfl ?_
                                                                              refine i_rs 5 (cf' := (1221, [some (.ref 100), some (.ref 0), some (.ref 50), some (.int l3)], [.int (l3 + (1 : Int32)), .ref 100, .ref 50, .int q200.1], i_S X q200.2)) rfl ?_
                                                                              refine i_riald (n := X.1) (cf' := (1222, [some (.ref 100), some (.ref 0), some (.ref 50), some (.int l3)], [.int (X.2 (Int32.toNatClampNeg (l3 + (1 : Int32)))), .ref 50, .int q200.1], i_S X q200.2)) rfl rfl (by decide) g197 rfl ?_
                                                                              refine i_rs 4 (cf' := (1226, [some (.ref 100), some (.ref 0), some (.ref 50), some (.int l3)], [.int (l3 + (2 : Int32)), .ref 100, .int (X.2 (Int32.toNatClampNeg (l3 + (1 : Int32)))), .ref 50, .int q200.1], i_S X q200.2)) rfl ?_
                                                                              refine i_riald (n := X.1) (cf' := (1227, [some (.ref 100), some (.ref 0), some (.ref 50), some (.int l3)], [.int (X.2 (Int32.toNatClampNeg (l3 + (2 : Int32)))), .int (X.2 (Int32.toNatClampNeg (l3 + (1 : Int32)))), .ref 50, .int q200.1], i_S X q200.2)) rfl rfl (by decide) g198 rfl ?_
                                                                              refine i_rs 4 (cf' := (1231, [some (.ref 100), some (.ref 0), some (.ref 50), some (.int l3)], [.int (l3 + (3 : Int32)), .ref 100, .int (X.2 (Int32.toNatClampNeg (l3 + (2 : Int32)))), .int (X.2 (Int32.toNatClampNeg (l3 + (1 : Int32)))), .ref 50, .int q200.1], i_S X q200.2)) rfl ?_
                                                                              refine i_riald (n := X.1) (cf' := (1232, [some (.ref 100), some (.ref 0), some (.ref 50), some (.int l3)], [.int (X.2 (Int32.toNatClampNeg (l3 + (3 : Int32)))), .int (X.2 (Int32.toNatClampNeg (l3 + (2 : Int32)))), .int (X.2 (Int32.toNatClampNeg (l3 + (1 : Int32)))), .ref 50, .int q200.1], i_S X q200.2)) rfl rfl (by decide) g199 rfl ?_
                                                                              obtain ⟨q201, hq201, h⟩ := i_bdE h
                                                                              refine i_rcall (k := 256) (as := [.ref 50, .int (X.2 (Int32.toNatClampNeg (l3 + (1 : Int32)))), .int (X.2 (Int32.toNatClampNeg (l3 + (2 : Int32)))), .int (X.2 (Int32.toNatClampNeg (l3 + (3 : Int32))))]) (cf1 := (1235, [some (.ref 100), some (.ref 0), some (.ref 50), some (.int l3)], [.int q200.1], i_S X q200.2)) (cf' := (1235, [some (.ref 100), some (.ref 0), some (.ref 50), some (.int l3)], [.int q201.1, .int q200.1], i_S X q201.2)) rfl (ok_r_row (by omega) hq201) rfl ?_
                                                                              by_cases c202 : q200.1 = q201.1
                                                                              · replace h := (if_pos c202).symm.trans h
                                                                                refine i_rbT (c := q200.1 = q201.1) (t := 1466) (n := 1238) rfl c202 ?_
                                                                                refine i_rs 2 (cf' := (18, [some (.ref 100), some (.ref 0), some (.ref 50), some (.int (l3 + (6 : Int32)))], [], i_S X q201.2)) rfl ?_
                                                                                refine i_fg (lv' := [some (.ref 100), some (.ref 0), some (.ref 50), some (.int (l3 + (6 : Int32)))]) (And.intro rfl (And.intro rfl (And.intro rfl (And.intro rfl True.intro)))) ?_
                                                                                exact hself (l3 + (6 : Int32)) q201.2 _ h
                                                                              · replace h := (if_neg c202).symm.trans h
                                                                                refine i_rbF (c := q200.1 = q201.1) (t := 1466) (n := 1238) rfl c202 ?_
                                                                                refine i_rs 1 (cf' := (1239, [some (.ref 100), some (.ref 0), some (.ref 50), some (.int l3)], [.int (0 : Int32)], i_S X q201.2)) rfl ?_
                                                                                obtain rfl := Option.some.inj h
                                                                                exact i_rretZ rfl (Or.inl rfl) rfl
                                                                            · replace h := (if_neg c196).symm.trans h
                                                                              refine i_rswF c196 ?_
                                                                              by_cases c203 : ((X.2 (Int32.toNatClampNeg l3)) &&& (63 : Int32)) = (36 : Int32)
                                                                              · replace h := (if_pos c203).symm.trans h
                                                                                refine i_rswT c203 ?_
                                                                                refine i_rs 5 (cf' := (1245, [some (.ref 100), some (.ref 0), some (.ref 50), some (.int l3)], [.int (l3 + (1 : Int32)), .ref 100, .ref 0], i_S X M)) rfl ?_
                                                                                obtain ⟨g204, h⟩ := i_gE h
                                                                                refine i_riald (n := X.1) (cf' := (1246, [some (.ref 100), some (.ref 0), some (.ref 50), some (.int l3)], [.int (X.2 (Int32.toNatClampNeg (l3 + (1 : Int32)))), .ref 0], i_S X M)) rfl rfl (by decide) g204 rfl ?_
                                                                                refine i_rs 4 (cf' := (1250, [some (.ref 100), some (.ref 0), some (.ref 50), some (.int l3)], [.int (l3 + (2 : Int32)), .ref 100, .int (X.2 (Int32.toNatClampNeg (l3 + (1 : Int32)))), .ref 0], i_S X M)) rfl ?_
                                                                                obtain ⟨g205, h⟩ := i_gE h
                                                                                refine i_riald (n := X.1) (cf' := (1251, [some (.ref 100), some (.ref 0), some (.ref 50), some (.int l3)], [.int (X.2 (Int32.toNatClampNeg (l3 + (2 : Int32)))), .int (X.2 (Int32.toNatClampNeg (l3 + (1 : Int32)))), .ref 0], i_S X M)) rfl rfl (by decide) g205 rfl ?_
                                                                                refine i_rs 4 (cf' := (1255, [some (.ref 100), some (.ref 0), some (.ref 50), some (.int l3)], [.int (l3 + (3 : Int32)), .ref 100, .int (X.2 (Int32.toNatClampNeg (l3 + (2 : Int32)))), .int (X.2 (Int32.toNatClampNeg (l3 + (1 : Int32)))), .ref 0], i_S X M)) rfl ?_
                                                                                obtain ⟨g206, h⟩ := i_gE h
                                                                                refine i_riald (n := X.1) (cf' := (1256, [some (.ref 100), some (.ref 0), some (.ref 50), some (.int l3)], [.int (X.2 (Int32.toNatClampNeg (l3 + (3 : Int32)))), .int (X.2 (Int32.toNatClampNeg (l3 + (2 : Int32)))), .int (X.2 (Int32.toNatClampNeg (l3 + (1 : Int32)))), .ref 0], i_S X M)) rfl rfl (by decide) g206 rfl ?_
                                                                                refine i_rs 7 (cf' := (1264, [some (.ref 100), some (.ref 0), some (.ref 50), some (.int l3)], [.int (l3 + (4 : Int32)), .ref 100, .long ((Int32.toInt64 (X.2 (Int32.toNatClampNeg (l3 + (3 : Int32))))) <<< (Int32.toInt64 (32 : Int32) &&& 63)), .int (X.2 (Int32.toNatClampNeg (l3 + (2 : Int32)))), .int (X.2 (Int32.toNatClampNeg (l3 + (1 : Int32)))), .ref 0], i_S X M)) rfl ?_
                                                                                obtain ⟨g207, h⟩ := i_gE h
                                                                                refine i_riald (n := X.1) (cf' := (1265, [some (.ref 100), some (.ref 0), some (.ref 50), some (.int l3)], [.int (X.2 (Int32.toNatClampNeg (l3 + (4 : Int32)))), .long ((Int32.toInt64 (X.2 (Int32.toNatClampNeg (l3 + (3 : Int32))))) <<< (Int32.toInt64 (32 : Int32) &&& 63)), .int (X.2 (Int32.toNatClampNeg (l3 + (2 : Int32)))), .int (X.2 (Int32.toNatClampNeg (l3 + (1 : Int32)))), .ref 0], i_S X M)) rfl rfl (by decide) g207 rfl ?_
                                                                                refine i_rs 4 (cf' := (1271, [some (.ref 100), some (.ref 0), some (.ref 50), some (.int l3)], [.long (((Int32.toInt64 (X.2 (Int32.toNatClampNeg (l3 + (3 : Int32))))) <<< (Int32.toInt64 (32 : Int32) &&& 63)) ||| ((Int32.toInt64 (X.2 (Int32.toNatClampNeg (l3 + (4 : Int32))))) &&& (4294967295 : Int64))), .int (X.2 (Int32.toNatClampNeg (l3 + (2 : Int32)))), .int (X.2 (Int32.toNatClampNeg (l3 + (1 : Int32)))), .ref 0], i_S X M)) rfl ?_
                                                                                obtain ⟨q208, hq208, h⟩ := i_bdE h
                                                                                refine i_rcall (k := 159) (as := [.ref 0, .int (X.2 (Int32.toNatClampNeg (l3 + (1 : Int32)))), .int (X.2 (Int32.toNatClampNeg (l3 + (2 : Int32)))), .long (((Int32.toInt64 (X.2 (Int32.toNatClampNeg (l3 + (3 : Int32))))) <<< (Int32.toInt64 (32 : Int32) &&& 63)) ||| ((Int32.toInt64 (X.2 (Int32.toNatClampNeg (l3 + (4 : Int32))))) &&& (4294967295 : Int64)))]) (cf1 := (1274, [some (.ref 100), some (.ref 0), some (.ref 50), some (.int l3)], [], i_S X M)) (cf' := (1274, [some (.ref 100), some (.ref 0), some (.ref 50), some (.int l3)], [.int q208.1], i_S X q208.2)) rfl (ok_b_put (by omega) hq208) rfl ?_
                                                                                refine i_rs 5 (cf' := (1279, [some (.ref 100), some (.ref 0), some (.ref 50), some (.int l3)], [.int (l3 + (1 : Int32)), .ref 100, .ref 50, .int q208.1], i_S X q208.2)) rfl ?_
                                                                                refine i_riald (n := X.1) (cf' := (1280, [some (.ref 100), some (.ref 0), some (.ref 50), some (.int l3)], [.int (X.2 (Int32.toNatClampNeg (l3 + (1 : Int32)))), .ref 50, .int q208.1], i_S X q208.2)) rfl rfl (by decide) g204 rfl ?_
                                                                                refine i_rs 4 (cf' := (1284, [some (.ref 100), some (.ref 0), some (.ref 50), some (.int l3)], [.int (l3 + (2 : Int32)), .ref 100, .int (X.2 (Int32.toNatClampNeg (l3 + (1 : Int32)))), .ref 50, .int q208.1], i_S X q208.2)) rfl ?_
                                                                                refine i_riald (n := X.1) (cf' := (1285, [some (.ref 100), some (.ref 0), some (.ref 50), some (.int l3)], [.int (X.2 (Int32.toNatClampNeg (l3 + (2 : Int32)))), .int (X.2 (Int32.toNatClampNeg (l3 + (1 : Int32)))), .ref 50, .int q208.1], i_S X q208.2)) rfl rfl (by decide) g205 rfl ?_
                                                                                refine i_rs 4 (cf' := (1289, [some (.ref 100), some (.ref 0), some (.ref 50), some (.int l3)], [.int (l3 + (3 : Int32)), .ref 100, .int (X.2 (Int32.toNatClampNeg (l3 + (2 : Int32)))), .int (X.2 (Int32.toNatClampNeg (l3 + (1 : Int32)))), .ref 50, .int q208.1], i_S X q208.2)) rfl ?_
                                                                                refine i_riald (n := X.1) (cf' := (1290, [some (.ref 100), some (.ref 0), some (.ref 50), some (.int l3)], [.int (X.2 (Int32.toNatClampNeg (l3 + (3 : Int32)))), .int (X.2 (Int32.toNatClampNeg (l3 + (2 : Int32)))), .int (X.2 (Int32.toNatClampNeg (l3 + (1 : Int32)))), .ref 50, .int q208.1], i_S X q208.2)) rfl rfl (by decide) g206 rfl ?_
                                                                                refine i_rs 7 (cf' := (1298, [some (.ref 100), some (.ref 0), some (.ref 50), some (.int l3)], [.int (l3 + (4 : Int32)), .ref 100, .long ((Int32.toInt64 (X.2 (Int32.toNatClampNeg (l3 + (3 : Int32))))) <<< (Int32.toInt64 (32 : Int32) &&& 63)), .int (X.2 (Int32.toNatClampNeg (l3 + (2 : Int32)))), .int (X.2 (Int32.toNatClampNeg (l3 + (1 : Int32)))), .ref 50, .int q208.1], i_S X q208.2)) rfl ?_
                                                                                refine i_riald (n := X.1) (cf' := (1299, [some (.ref 100), some (.ref 0), some (.ref 50), some (.int l3)], [.int (X.2 (Int32.toNatClampNeg (l3 + (4 : Int32)))), .long ((Int32.toInt64 (X.2 (Int32.toNatClampNeg (l3 + (3 : Int32))))) <<< (Int32.toInt64 (32 : Int32) &&& 63)), .int (X.2 (Int32.toNatClampNeg (l3 + (2 : Int32)))), .int (X.2 (Int32.toNatClampNeg (l3 + (1 : Int32)))), .ref 50, .int q208.1], i_S X q208.2)) rfl rfl (by decide) g207 rfl ?_
                                                                                refine i_rs 4 (cf' := (1305, [some (.ref 100), some (.ref 0), some (.ref 50), some (.int l3)], [.long (((Int32.toInt64 (X.2 (Int32.toNatClampNeg (l3 + (3 : Int32))))) <<< (Int32.toInt64 (32 : Int32) &&& 63)) ||| ((Int32.toInt64 (X.2 (Int32.toNatClampNeg (l3 + (4 : Int32))))) &&& (4294967295 : Int64))), .int (X.2 (Int32.toNatClampNeg (l3 + (2 : Int32)))), .int (X.2 (Int32.toNatClampNeg (l3 + (1 : Int32)))), .ref 50, .int q208.1], i_S X q208.2)) rfl ?_
                                                                                obtain ⟨q209, hq209, h⟩ := i_bdE h
                                                                                refine i_rcall (k := 257) (as := [.ref 50, .int (X.2 (Int32.toNatClampNeg (l3 + (1 : Int32)))), .int (X.2 (Int32.toNatClampNeg (l3 + (2 : Int32)))), .long (((Int32.toInt64 (X.2 (Int32.toNatClampNeg (l3 + (3 : Int32))))) <<< (Int32.toInt64 (32 : Int32) &&& 63)) ||| ((Int32.toInt64 (X.2 (Int32.toNatClampNeg (l3 + (4 : Int32))))) &&& (4294967295 : Int64)))]) (cf1 := (1308, [some (.ref 100), some (.ref 0), some (.ref 50), some (.int l3)], [.int q208.1], i_S X q208.2)) (cf' := (1308, [some (.ref 100), some (.ref 0), some (.ref 50), some (.int l3)], [.int q209.1, .int q208.1], i_S X q209.2)) rfl (ok_r_put (by omega) hq209) rfl ?_
                                                                                by_cases c210 : q208.1 = q209.1
                                                                                · replace h := (if_pos c210).symm.trans h
                                                                                  refine i_rbT (c := q208.1 = q209.1) (t := 1466) (n := 1311) rfl c210 ?_
                                                                                  refine i_rs 2 (cf' := (18, [some (.ref 100), some (.ref 0), some (.ref 50), some (.int (l3 + (6 : Int32)))], [], i_S X q209.2)) rfl ?_
                                                                                  refine i_fg (lv' := [some (.ref 100), some (.ref 0), some (.ref 50), some (.int (l3 + (6 : Int32)))]) (And.intro rfl (And.intro rfl (And.intro rfl (And.intro rfl True.intro)))) ?_
                                                                                  exact hself (l3 + (6 : Int32)) q209.2 _ h
                                                                                · replace h := (if_neg c210).symm.trans h
                                                                                  refine i_rbF (c := q208.1 = q209.1) (t := 1466) (n := 1311) rfl c210 ?_
                                                                                  refine i_rs 1 (cf' := (1312, [some (.ref 100), some (.ref 0), some (.ref 50), some (.int l3)], [.int (0 : Int32)], i_S X q209.2)) rfl ?_
                                                                                  obtain rfl := Option.some.inj h
                                                                                  exact i_rretZ rfl (Or.inl rfl) rfl
                                                                              · replace h := (if_neg c203).symm.trans h
                                                                                refine i_rswF c203 ?_
                                                                                by_cases c211 : ((X.2 (Int32.toNatClampNeg l3)) &&& (63 : Int32)) = (37 : Int32)
                                                                                · replace h := (if_pos c211).symm.trans h
                                                                                  refine i_rswT c211 ?_
                                                                                  refine i_rs 5 (cf' := (1318, [some (.ref 100), some (.ref 0), some (.ref 50), some (.int l3)], [.int (l3 + (1 : Int32)), .ref 100, .ref 0], i_S X M)) rfl ?_
                                                                                  obtain ⟨g212, h⟩ := i_gE h
                                                                                  refine i_riald (n := X.1) (cf' := (1319, [some (.ref 100), some (.ref 0), some (.ref 50), some (.int l3)], [.int (X.2 (Int32.toNatClampNeg (l3 + (1 : Int32)))), .ref 0], i_S X M)) rfl rfl (by decide) g212 rfl ?_
                                                                                  refine i_rs 4 (cf' := (1323, [some (.ref 100), some (.ref 0), some (.ref 50), some (.int l3)], [.int (l3 + (2 : Int32)), .ref 100, .int (X.2 (Int32.toNatClampNeg (l3 + (1 : Int32)))), .ref 0], i_S X M)) rfl ?_
                                                                                  obtain ⟨g213, h⟩ := i_gE h
                                                                                  refine i_riald (n := X.1) (cf' := (1324, [some (.ref 100), some (.ref 0), some (.ref 50), some (.int l3)], [.int (X.2 (Int32.toNatClampNeg (l3 + (2 : Int32)))), .int (X.2 (Int32.toNatClampNeg (l3 + (1 : Int32)))), .ref 0], i_S X M)) rfl rfl (by decide) g213 rfl ?_
                                                                                  obtain ⟨q214, hq214, h⟩ := i_bdE h
                                                                                  refine i_rcall (k := 163) (as := [.ref 0, .int (X.2 (Int32.toNatClampNeg (l3 + (1 : Int32)))), .int (X.2 (Int32.toNatClampNeg (l3 + (2 : Int32))))]) (cf1 := (1327, [some (.ref 100), some (.ref 0), some (.ref 50), some (.int l3)], [], i_S X M)) (cf' := (1327, [some (.ref 100), some (.ref 0), some (.ref 50), some (.int l3)], [.long q214.1], i_S X q214.2)) rfl (ok_b_element (by omega) hq214) rfl ?_
                                                                                  refine i_rs 5 (cf' := (1332, [some (.ref 100), some (.ref 0), some (.ref 50), some (.int l3)], [.int (l3 + (1 : Int32)), .ref 100, .ref 50, .long q214.1], i_S X q214.2)) rfl ?_
                                                                                  refine i_riald (n := X.1) (cf' := (1333, [some (.ref 100), some (.ref 0), some (.ref 50), some (.int l3)], [.int (X.2 (Int32.toNatClampNeg (l3 + (1 : Int32)))), .ref 50, .long q214.1], i_S X q214.2)) rfl rfl (by decide) g212 rfl ?_
                                                                                  refine i_rs 4 (cf' := (1337, [some (.ref 100), some (.ref 0), some (.ref 50), some (.int l3)], [.int (l3 + (2 : Int32)), .ref 100, .int (X.2 (Int32.toNatClampNeg (l3 + (1 : Int32)))), .ref 50, .long q214.1], i_S X q214.2)) rfl ?_
                                                                                  refine i_riald (n := X.1) (cf' := (1338, [some (.ref 100), some (.ref 0), some (.ref 50), some (.int l3)], [.int (X.2 (Int32.toNatClampNeg (l3 + (2 : Int32)))), .int (X.2 (Int32.toNatClampNeg (l3 + (1 : Int32)))), .ref 50, .long q214.1], i_S X q214.2)) rfl rfl (by decide) g213 rfl ?_
                                                                                  obtain ⟨q215, hq215, h⟩ := i_bdE h
                                                                                  refine i_rcall (k := 260) (as := [.ref 50, .int (X.2 (Int32.toNatClampNeg (l3 + (1 : Int32)))), .int (X.2 (Int32.toNatClampNeg (l3 + (2 : Int32))))]) (cf1 := (1341, [some (.ref 100), some (.ref 0), some (.ref 50), some (.int l3)], [.long q214.1], i_S X q214.2)) (cf' := (1341, [some (.ref 100), some (.ref 0), some (.ref 50), some (.int l3)], [.long q215.1, .long q214.1], i_S X q215.2)) rfl (ok_r_element (by omega) hq215) rfl ?_
                                                                                  refine i_rs 1 (cf' := (1342, [some (.ref 100), some (.ref 0), some (.ref 50), some (.int l3)], [.int (lg_cmp q214.1 q215.1)], i_S X q215.2)) rfl ?_
                                                                                  by_cases c216 : (lg_cmp q214.1 q215.1) = (0 : Int32)
                                                                                  · replace h := (if_pos c216).symm.trans h
                                                                                    refine i_rbT (c := (lg_cmp q214.1 q215.1) = (0 : Int32)) (t := 1466) (n := 1345) rfl c216 ?_
                                                                                    refine i_rs 2 (cf' := (18, [some (.ref 100), some (.ref 0), some (.ref 50), some (.int (l3 + (6 : Int32)))], [], i_S X q215.2)) rfl ?_
                                                                                    refine i_fg (lv' := [some (.ref 100), some (.ref 0), some (.ref 50), some (.int (l3 + (6 : Int32)))]) (And.intro rfl (And.intro rfl (And.intro rfl (And.intro rfl True.intro)))) ?_
                                                                                    exact hself (l3 + (6 : Int32)) q215.2 _ h
                                                                                  · replace h := (if_neg c216).symm.trans h
                                                                                    refine i_rbF (c := (lg_cmp q214.1 q215.1) = (0 : Int32)) (t := 1466) (n := 1345) rfl c216 ?_
                                                                                    refine i_rs 1 (cf' := (1346, [some (.ref 100), some (.ref 0), some (.ref 50), some (.int l3)], [.int (0 : Int32)], i_S X q215.2)) rfl ?_
                                                                                    obtain rfl := Option.some.inj h
                                                                                    exact i_rretZ rfl (Or.inl rfl) rfl
                                                                                · replace h := (if_neg c211).symm.trans h
                                                                                  refine i_rswF c211 ?_
                                                                                  by_cases c217 : ((X.2 (Int32.toNatClampNeg l3)) &&& (63 : Int32)) = (38 : Int32)
                                                                                  · replace h := (if_pos c217).symm.trans h
                                                                                    refine i_rswT c217 ?_
                                                                                    refine i_rs 5 (cf' := (1352, [some (.ref 100), some (.ref 0), some (.ref 50), some (.int l3)], [.int (l3 + (1 : Int32)), .ref 100, .ref 0], i_S X M)) rfl ?_
                                                                                    obtain ⟨g218, h⟩ := i_gE h
                                                                                    refine i_riald (n := X.1) (cf' := (1353, [some (.ref 100), some (.ref 0), some (.ref 50), some (.int l3)], [.int (X.2 (Int32.toNatClampNeg (l3 + (1 : Int32)))), .ref 0], i_S X M)) rfl rfl (by decide) g218 rfl ?_
                                                                                    refine i_rs 4 (cf' := (1357, [some (.ref 100), some (.ref 0), some (.ref 50), some (.int l3)], [.int (l3 + (2 : Int32)), .ref 100, .int (X.2 (Int32.toNatClampNeg (l3 + (1 : Int32)))), .ref 0], i_S X M)) rfl ?_
                                                                                    obtain ⟨g219, h⟩ := i_gE h
                                                                                    refine i_riald (n := X.1) (cf' := (1358, [some (.ref 100), some (.ref 0), some (.ref 50), some (.int l3)], [.int (X.2 (Int32.toNatClampNeg (l3 + (2 : Int32)))), .int (X.2 (Int32.toNatClampNeg (l3 + (1 : Int32)))), .ref 0], i_S X M)) rfl rfl (by decide) g219 rfl ?_
                                                                                    refine i_rs 4 (cf' := (1362, [some (.ref 100), some (.ref 0), some (.ref 50), some (.int l3)], [.int (l3 + (3 : Int32)), .ref 100, .int (X.2 (Int32.toNatClampNeg (l3 + (2 : Int32)))), .int (X.2 (Int32.toNatClampNeg (l3 + (1 : Int32)))), .ref 0], i_S X M)) rfl ?_
                                                                                    obtain ⟨g220, h⟩ := i_gE h
                                                                                    refine i_riald (n := X.1) (cf' := (1363, [some (.ref 100), some (.ref 0), some (.ref 50), some (.int l3)], [.int (X.2 (Int32.toNatClampNeg (l3 + (3 : Int32)))), .int (X.2 (Int32.toNatClampNeg (l3 + (2 : Int32)))), .int (X.2 (Int32.toNatClampNeg (l3 + (1 : Int32)))), .ref 0], i_S X M)) rfl rfl (by decide) g220 rfl ?_
                                                                                    refine i_rs 4 (cf' := (1367, [some (.ref 100), some (.ref 0), some (.ref 50), some (.int l3)], [.int (l3 + (4 : Int32)), .ref 100, .int (X.2 (Int32.toNatClampNeg (l3 + (3 : Int32)))), .int (X.2 (Int32.toNatClampNeg (l3 + (2 : Int32)))), .int (X.2 (Int32.toNatClampNeg (l3 + (1 : Int32)))), .ref 0], i_S X M)) rfl ?_
                                                                                    obtain ⟨g221, h⟩ := i_gE h
                                                                                    refine i_riald (n := X.1) (cf' := (1368, [some (.ref 100), some (.ref 0), some (.ref 50), some (.int l3)], [.int (X.2 (Int32.toNatClampNeg (l3 + (4 : Int32)))), .int (X.2 (Int32.toNatClampNeg (l3 + (3 : Int32)))), .int (X.2 (Int32.toNatClampNeg (l3 + (2 : Int32)))), .int (X.2 (Int32.toNatClampNeg (l3 + (1 : Int32)))), .ref 0], i_S X M)) rfl rfl (by decide) g221 rfl ?_
                                                                                    refine i_rs 4 (cf' := (1372, [some (.ref 100), some (.ref 0), some (.ref 50), some (.int l3)], [.int (l3 + (5 : Int32)), .ref 100, .int (X.2 (Int32.toNatClampNeg (l3 + (4 : Int32)))), .int (X.2 (Int32.toNatClampNeg (l3 + (3 : Int32)))), .int (X.2 (Int32.toNatClampNeg (l3 + (2 : Int32)))), .int (X.2 (Int32.toNatClampNeg (l3 + (1 : Int32)))), .ref 0], i_S X M)) rfl ?_
                                                                                    obtain ⟨g222, h⟩ := i_gE h
                                                                                    refine i_riald (n := X.1) (cf' := (1373, [some (.ref 100), some (.ref 0), some (.ref 50), some (.int l3)], [.int (X.2 (Int32.toNatClampNeg (l3 + (5 : Int32)))), .int (X.2 (Int32.toNatClampNeg (l3 + (4 : Int32)))), .int (X.2 (Int32.toNatClampNeg (l3 + (3 : Int32)))), .int (X.2 (Int32.toNatClampNeg (l3 + (2 : Int32)))), .int (X.2 (Int32.toNatClampNeg (l3 + (1 : Int32)))), .ref 0], i_S X M)) rfl rfl (by decide) g222 rfl ?_
                                                                                    obtain ⟨q223, hq223, h⟩ := i_bdE h
                                                                                    refine i_rcall (k := 164) (as := [.ref 0, .int (X.2 (Int32.toNatClampNeg (l3 + (1 : Int32)))), .int (X.2 (Int32.toNatClampNeg (l3 + (2 : Int32)))), .int (X.2 (Int32.toNatClampNeg (l3 + (3 : Int32)))), .int (X.2 (Int32.toNatClampNeg (l3 + (4 : Int32)))), .int (X.2 (Int32.toNatClampNeg (l3 + (5 : Int32))))]) (cf1 := (1376, [some (.ref 100), some (.ref 0), some (.ref 50), some (.int l3)], [], i_S X M)) (cf' := (1376, [some (.ref 100), some (.ref 0), some (.ref 50), some (.int l3)], [.int q223.1], i_S X q223.2)) rfl (ok_b_shift (by omega) hq223) rfl ?_
                                                                                    refine i_rs 5 (cf' := (1381, [some (.ref 100), some (.ref 0), some (.ref 50), some (.int l3)], [.int (l3 + (1 : Int32)), .ref 100, .ref 50, .int q223.1], i_S X q223.2)) rfl ?_
                                                                                    refine i_riald (n := X.1) (cf' := (1382, [some (.ref 100), some (.ref 0), some (.ref 50), some (.int l3)], [.int (X.2 (Int32.toNatClampNeg (l3 + (1 : Int32)))), .ref 50, .int q223.1], i_S X q223.2)) rfl rfl (by decide) g218 rfl ?_
                                                                                    refine i_rs 4 (cf' := (1386, [some (.ref 100), some (.ref 0), some (.ref 50), some (.int l3)], [.int (l3 + (2 : Int32)), .ref 100, .int (X.2 (Int32.toNatClampNeg (l3 + (1 : Int32)))), .ref 50, .int q223.1], i_S X q223.2)) rfl ?_
                                                                                    refine i_riald (n := X.1) (cf' := (1387, [some (.ref 100), some (.ref 0), some (.ref 50), some (.int l3)], [.int (X.2 (Int32.toNatClampNeg (l3 + (2 : Int32)))), .int (X.2 (Int32.toNatClampNeg (l3 + (1 : Int32)))), .ref 50, .int q223.1], i_S X q223.2)) rfl rfl (by decide) g219 rfl ?_
                                                                                    refine i_rs 4 (cf' := (1391, [some (.ref 100), some (.ref 0), some (.ref 50), some (.int l3)], [.int (l3 + (3 : Int32)), .ref 100, .int (X.2 (Int32.toNatClampNeg (l3 + (2 : Int32)))), .int (X.2 (Int32.toNatClampNeg (l3 + (1 : Int32)))), .ref 50, .int q223.1], i_S X q223.2)) rfl ?_
                                                                                    refine i_riald (n := X.1) (cf' := (1392, [some (.ref 100), some (.ref 0), some (.ref 50), some (.int l3)], [.int (X.2 (Int32.toNatClampNeg (l3 + (3 : Int32)))), .int (X.2 (Int32.toNatClampNeg (l3 + (2 : Int32)))), .int (X.2 (Int32.toNatClampNeg (l3 + (1 : Int32)))), .ref 50, .int q223.1], i_S X q223.2)) rfl rfl (by decide) g220 rfl ?_
                                                                                    refine i_rs 4 (cf' := (1396, [some (.ref 100), some (.ref 0), some (.ref 50), some (.int l3)], [.int (l3 + (4 : Int32)), .ref 100, .int (X.2 (Int32.toNatClampNeg (l3 + (3 : Int32)))), .int (X.2 (Int32.toNatClampNeg (l3 + (2 : Int32)))), .int (X.2 (Int32.toNatClampNeg (l3 + (1 : Int32)))), .ref 50, .int q223.1], i_S X q223.2)) rfl ?_
                                                                                    refine i_riald (n := X.1) (cf' := (1397, [some (.ref 100), some (.ref 0), some (.ref 50), some (.int l3)], [.int (X.2 (Int32.toNatClampNeg (l3 + (4 : Int32)))), .int (X.2 (Int32.toNatClampNeg (l3 + (3 : Int32)))), .int (X.2 (Int32.toNatClampNeg (l3 + (2 : Int32)))), .int (X.2 (Int32.toNatClampNeg (l3 + (1 : Int32)))), .ref 50, .int q223.1], i_S X q223.2)) rfl rfl (by decide) g221 rfl ?_
                                                                                    refine i_rs 4 (cf' := (1401, [some (.ref 100), some (.ref 0), some (.ref 50), some (.int l3)], [.int (l3 + (5 : Int32)), .ref 100, .int (X.2 (Int32.toNatClampNeg (l3 + (4 : Int32)))), .int (X.2 (Int32.toNatClampNeg (l3 + (3 : Int32)))), .int (X.2 (Int32.toNatClampNeg (l3 + (2 : Int32)))), .int (X.2 (Int32.toNatClampNeg (l3 + (1 : Int32)))), .ref 50, .int q223.1], i_S X q223.2)) rfl ?_
                                                                                    refine i_riald (n := X.1) (cf' := (1402, [some (.ref 100), some (.ref 0), some (.ref 50), some (.int l3)], [.int (X.2 (Int32.toNatClampNeg (l3 + (5 : Int32)))), .int (X.2 (Int32.toNatClampNeg (l3 + (4 : Int32)))), .int (X.2 (Int32.toNatClampNeg (l3 + (3 : Int32)))), .int (X.2 (Int32.toNatClampNeg (l3 + (2 : Int32)))), .int (X.2 (Int32.toNatClampNeg (l3 + (1 : Int32)))), .ref 50, .int q223.1], i_S X q223.2)) rfl rfl (by decide) g222 rfl ?_
                                                                                    obtain ⟨q224, hq224, h⟩ := i_bdE h
                                                                                    refine i_rcall (k := 261) (as := [.ref 50, .int (X.2 (Int32.toNatClampNeg (l3 + (1 : Int32)))), .int (X.2 (Int32.toNatClampNeg (l3 + (2 : Int32)))), .int (X.2 (Int32.toNatClampNeg (l3 + (3 : Int32)))), .int (X.2 (Int32.toNatClampNeg (l3 + (4 : Int32)))), .int (X.2 (Int32.toNatClampNeg (l3 + (5 : Int32))))]) (cf1 := (1405, [some (.ref 100), some (.ref 0), some (.ref 50), some (.int l3)], [.int q223.1], i_S X q223.2)) (cf' := (1405, [some (.ref 100), some (.ref 0), some (.ref 50), some (.int l3)], [.int q224.1, .int q223.1], i_S X q224.2)) rfl (ok_r_shift (by omega) hq224) rfl ?_
                                                                                    by_cases c225 : q223.1 = q224.1
                                                                                    · replace h := (if_pos c225).symm.trans h
                                                                                      refine i_rbT (c := q223.1 = q224.1) (t := 1466) (n := 1408) rfl c225 ?_
                                                                                      refine i_rs 2 (cf' := (18, [some (.ref 100), some (.ref 0), some (.ref 50), some (.int (l3 + (6 : Int32)))], [], i_S X q224.2)) rfl ?_
                                                                                      refine i_fg (lv' := [some (.ref 100), some (.ref 0), some (.ref 50), some (.int (l3 + (6 : Int32)))]) (And.intro rfl (And.intro rfl (And.intro rfl (And.intro rfl True.intro)))) ?_
                                                                                      exact hself (l3 + (6 : Int32)) q224.2 _ h
                                                                                    · replace h := (if_neg c225).symm.trans h
                                                                                      refine i_rbF (c := q223.1 = q224.1) (t := 1466) (n := 1408) rfl c225 ?_
                                                                                      refine i_rs 1 (cf' := (1409, [some (.ref 100), some (.ref 0), some (.ref 50), some (.int l3)], [.int (0 : Int32)], i_S X q224.2)) rfl ?_
                                                                                      obtain rfl := Option.some.inj h
                                                                                      exact i_rretZ rfl (Or.inl rfl) rfl
                                                                                  · replace h := (if_neg c217).symm.trans h
                                                                                    refine i_rswF c217 ?_
                                                                                    by_cases c226 : ((X.2 (Int32.toNatClampNeg l3)) &&& (63 : Int32)) = (39 : Int32)
                                                                                    · replace h := (if_pos c226).symm.trans h
                                                                                      refine i_rswT c226 ?_
                                                                                      refine i_rs 5 (cf' := (1415, [some (.ref 100), some (.ref 0), some (.ref 50), some (.int l3)], [.int (l3 + (1 : Int32)), .ref 100, .ref 0], i_S X M)) rfl ?_
                                                                                      obtain ⟨g227, h⟩ := i_gE h
                                                                                      refine i_riald (n := X.1) (cf' := (1416, [some (.ref 100), some (.ref 0), some (.ref 50), some (.int l3)], [.int (X.2 (Int32.toNatClampNeg (l3 + (1 : Int32)))), .ref 0], i_S X M)) rfl rfl (by decide) g227 rfl ?_
                                                                                      refine i_rs 4 (cf' := (1420, [some (.ref 100), some (.ref 0), some (.ref 50), some (.int l3)], [.int (l3 + (2 : Int32)), .ref 100, .int (X.2 (Int32.toNatClampNeg (l3 + (1 : Int32)))), .ref 0], i_S X M)) rfl ?_
                                                                                      obtain ⟨g228, h⟩ := i_gE h
                                                                                      refine i_riald (n := X.1) (cf' := (1421, [some (.ref 100), some (.ref 0), some (.ref 50), some (.int l3)], [.int (X.2 (Int32.toNatClampNeg (l3 + (2 : Int32)))), .int (X.2 (Int32.toNatClampNeg (l3 + (1 : Int32)))), .ref 0], i_S X M)) rfl rfl (by decide) g228 rfl ?_
                                                                                      obtain ⟨q229, hq229, h⟩ := i_bdE h
                                                                                      refine i_rcall (k := 167) (as := [.ref 0, .int (X.2 (Int32.toNatClampNeg (l3 + (1 : Int32)))), .int (X.2 (Int32.toNatClampNeg (l3 + (2 : Int32))))]) (cf1 := (1424, [some (.ref 100), some (.ref 0), some (.ref 50), some (.int l3)], [], i_S X M)) (cf' := (1424, [some (.ref 100), some (.ref 0), some (.ref 50), some (.int l3)], [.int q229.1], i_S X q229.2)) rfl (ok_b_taken (by omega) hq229) rfl ?_
                                                                                      refine i_rs 5 (cf' := (1429, [some (.ref 100), some (.ref 0), some (.ref 50), some (.int l3)], [.int (l3 + (1 : Int32)), .ref 100, .ref 50, .int q229.1], i_S X q229.2)) rfl ?_
                                                                                      refine i_riald (n := X.1) (cf' := (1430, [some (.ref 100), some (.ref 0), some (.ref 50), some (.int l3)], [.int (X.2 (Int32.toNatClampNeg (l3 + (1 : Int32)))), .ref 50, .int q229.1], i_S X q229.2)) rfl rfl (by decide) g227 rfl ?_
                                                                                      refine i_rs 4 (cf' := (1434, [some (.ref 100), some (.ref 0), some (.ref 50), some (.int l3)], [.int (l3 + (2 : Int32)), .ref 100, .int (X.2 (Int32.toNatClampNeg (l3 + (1 : Int32)))), .ref 50, .int q229.1], i_S X q229.2)) rfl ?_
                                                                                      refine i_riald (n := X.1) (cf' := (1435, [some (.ref 100), some (.ref 0), some (.ref 50), some (.int l3)], [.int (X.2 (Int32.toNatClampNeg (l3 + (2 : Int32)))), .int (X.2 (Int32.toNatClampNeg (l3 + (1 : Int32)))), .ref 50, .int q229.1], i_S X q229.2)) rfl rfl (by decide) g228 rfl ?_
                                                                                      obtain ⟨q230, hq230, h⟩ := i_bdE h
                                                                                      refine i_rcall (k := 262) (as := [.ref 50, .int (X.2 (Int32.toNatClampNeg (l3 + (1 : Int32)))), .int (X.2 (Int32.toNatClampNeg (l3 + (2 : Int32))))]) (cf1 := (1438, [some (.ref 100), some (.ref 0), some (.ref 50), some (.int l3)], [.int q229.1], i_S X q229.2)) (cf' := (1438, [some (.ref 100), some (.ref 0), some (.ref 50), some (.int l3)], [.int q230.1, .int q229.1], i_S X q230.2)) rfl (ok_r_taken (by omega) hq230) rfl ?_
                                                                                      by_cases c231 : q229.1 = q230.1
                                                                                      · replace h := (if_pos c231).symm.trans h
                                                                                        refine i_rbT (c := q229.1 = q230.1) (t := 1466) (n := 1441) rfl c231 ?_
                                                                                        refine i_rs 2 (cf' := (18, [some (.ref 100), some (.ref 0), some (.ref 50), some (.int (l3 + (6 : Int32)))], [], i_S X q230.2)) rfl ?_
                                                                                        refine i_fg (lv' := [some (.ref 100), some (.ref 0), some (.ref 50), some (.int (l3 + (6 : Int32)))]) (And.intro rfl (And.intro rfl (And.intro rfl (And.intro rfl True.intro)))) ?_
                                                                                        exact hself (l3 + (6 : Int32)) q230.2 _ h
                                                                                      · replace h := (if_neg c231).symm.trans h
                                                                                        refine i_rbF (c := q229.1 = q230.1) (t := 1466) (n := 1441) rfl c231 ?_
                                                                                        refine i_rs 1 (cf' := (1442, [some (.ref 100), some (.ref 0), some (.ref 50), some (.int l3)], [.int (0 : Int32)], i_S X q230.2)) rfl ?_
                                                                                        obtain rfl := Option.some.inj h
                                                                                        exact i_rretZ rfl (Or.inl rfl) rfl
                                                                                    · replace h := (if_neg c226).symm.trans h
                                                                                      refine i_rswF c226 ?_
                                                                                      by_cases c232 : ((X.2 (Int32.toNatClampNeg l3)) &&& (63 : Int32)) = (40 : Int32)
                                                                                      · replace h := (if_pos c232).symm.trans h
                                                                                        refine i_rswT c232 ?_
                                                                                        refine i_rs 5 (cf' := (1448, [some (.ref 100), some (.ref 0), some (.ref 50), some (.int l3)], [.int (l3 + (1 : Int32)), .ref 100, .ref 0], i_S X M)) rfl ?_
                                                                                        obtain ⟨g233, h⟩ := i_gE h
                                                                                        refine i_riald (n := X.1) (cf' := (1449, [some (.ref 100), some (.ref 0), some (.ref 50), some (.int l3)], [.int (X.2 (Int32.toNatClampNeg (l3 + (1 : Int32)))), .ref 0], i_S X M)) rfl rfl (by decide) g233 rfl ?_
                                                                                        obtain ⟨q234, hq234, h⟩ := i_bdE h
                                                                                        refine i_rcall (k := 169) (as := [.ref 0, .int (X.2 (Int32.toNatClampNeg (l3 + (1 : Int32))))]) (cf1 := (1452, [some (.ref 100), some (.ref 0), some (.ref 50), some (.int l3)], [], i_S X M)) (cf' := (1452, [some (.ref 100), some (.ref 0), some (.ref 50), some (.int l3)], [.int q234.1], i_S X q234.2)) rfl (ok_b_count (by omega) hq234) rfl ?_
                                                                                        refine i_rs 5 (cf' := (1457, [some (.ref 100), some (.ref 0), some (.ref 50), some (.int l3)], [.int (l3 + (1 : Int32)), .ref 100, .ref 50, .int q234.1], i_S X q234.2)) rfl ?_
                                                                                        refine i_riald (n := X.1) (cf' := (1458, [some (.ref 100), some (.ref 0), some (.ref 50), some (.int l3)], [.int (X.2 (Int32.toNatClampNeg (l3 + (1 : Int32)))), .ref 50, .int q234.1], i_S X q234.2)) rfl rfl (by decide) g233 rfl ?_
                                                                                        obtain ⟨q235, hq235, h⟩ := i_bdE h
                                                                                        refine i_rcall (k := 265) (as := [.ref 50, .int (X.2 (Int32.toNatClampNeg (l3 + (1 : Int32))))]) (cf1 := (1461, [some (.ref 100), some (.ref 0), some (.ref 50), some (.int l3)], [.int q234.1], i_S X q234.2)) (cf' := (1461, [some (.ref 100), some (.ref 0), some (.ref 50), some (.int l3)], [.int q235.1, .int q234.1], i_S X q235.2)) rfl (ok_r_count (by omega) hq235) rfl ?_
                                                                                        by_cases c236 : q234.1 = q235.1
                                                                                        · replace h := (if_pos c236).symm.trans h
                                                                                          refine i_rbT (c := q234.1 = q235.1) (t := 1466) (n := 1464) rfl c236 ?_
                                                                                          refine i_rs 2 (cf' := (18, [some (.ref 100), some (.ref 0), some (.ref 50), some (.int (l3 + (6 : Int32)))], [], i_S X q235.2)) rfl ?_
                                                                                          refine i_fg (lv' := [some (.ref 100), some (.ref 0), some (.ref 50), some (.int (l3 + (6 : Int32)))]) (And.intro rfl (And.intro rfl (And.intro rfl (And.intro rfl True.intro)))) ?_
                                                                                          exact hself (l3 + (6 : Int32)) q235.2 _ h
                                                                                        · replace h := (if_neg c236).symm.trans h
                                                                                          refine i_rbF (c := q234.1 = q235.1) (t := 1466) (n := 1464) rfl c236 ?_
                                                                                          refine i_rs 1 (cf' := (1465, [some (.ref 100), some (.ref 0), some (.ref 50), some (.int l3)], [.int (0 : Int32)], i_S X q235.2)) rfl ?_
                                                                                          obtain rfl := Option.some.inj h
                                                                                          exact i_rretZ rfl (Or.inl rfl) rfl
                                                                                      · replace h := (if_neg c232).symm.trans h
                                                                                        refine i_rswF c232 ?_
                                                                                        refine i_rs 2 (cf' := (18, [some (.ref 100), some (.ref 0), some (.ref 50), some (.int (l3 + (6 : Int32)))], [], i_S X M)) rfl ?_
                                                                                        refine i_fg (lv' := [some (.ref 100), some (.ref 0), some (.ref 50), some (.int (l3 + (6 : Int32)))]) (And.intro rfl (And.intro rfl (And.intro rfl (And.intro rfl True.intro)))) ?_
                                                                                        exact hself (l3 + (6 : Int32)) M _ h
