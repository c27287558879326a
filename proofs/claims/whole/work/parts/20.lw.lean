def o_L_law (N : Nat) (L : Nat) (xs : (Nat → Int32)) : Nat → Nat → Nat → Int32 → Int32 → (Nat → Int32) → (Nat → Int32) → (Nat → Int32) → Int32 → (Nat → Int32) → Int32 → Int32 → Int32 → Int32 → (Nat → Int32) → (Nat → Int32) → (Nat → Int32) → Int32 → Int32 → Int32 → Int32 → Int32 → Int32 → (Nat → Int32) → (Nat → Int32) → (Nat → Int32) → Int32 → Int32 → Int32 → Int32 → Int32 → (Nat → Int32) → Int32 → (Nat → Int32) → (Nat → Int32) → (Nat → Int32) → (Nat → Int32) → Int32 → Int32 → Int32 → Int32 → (Nat → Int32) → (Nat → Int32) → (Nat → Int32) → Int32 → Int32 → Int32 → Int32 → Int32 → Int32 → Int32 → Int32 → Int32 → Int32 → (Nat → Int32) → (Nat → Int32) → (Nat → Int32) → (Nat → Int32) → (Nat → Int32) → (Nat → Int32) → (Nat → Int32) → (Nat → Int32) → (Nat → Int32) → (Nat → Int32) → (Nat → Int32) → (Nat → Int32) → (Nat → Int32) → (Nat → Int32) → (Nat → Int32) → (Nat → Int32) → (Nat → Int32) → Int32 → Option Int32
  | 0 => fun _ _ _ _ _ _ _ _ _ _ _ _ _ _ _ _ _ _ _ _ _ _ _ _ _ _ _ _ _ _ _ _ _ _ _ _ _ _ _ _ _ _ _ _ _ _ _ _ _ _ _ _ _ _ _ _ _ _ _ _ _ _ _ _ _ _ _ _ _ _ _ => none
  | n + 1 => fun a_p1_ways_best a_p1_ways_better p1_latestFault p1_latestFinding p1_rows_lane p1_rows_size p1_rows_items p1_tape_length p1_tape_bytes p1_reader_value p1_now_players p1_now_round p1_now_time p1_now_kind p1_now_hand p1_now_leader p1_now_course_first p1_now_course_second p1_now_course_thrown p1_trial_players p1_trial_round p1_trial_time p1_trial_kind p1_trial_hand p1_trial_leader p1_trial_course_first p1_trial_course_second p1_trial_course_thrown p1_acts_kept p1_acts_next p1_acts_halls p1_ways_groups p1_ways_group p1_ways_train p1_ways_best p1_ways_better p1_ways_course_first p1_ways_course_second p1_ways_course_thrown p1_asks_length p1_asks_numbers p1_images p1_imageKept p2_manyActs p2_status p2_tapeLong p2_fault p2_winner p2_throwsOf p2_handA p2_handB p2_fewestSo p2_traced p2_now p2_kept p2_isKept p2_acts p2_was p2_lanes p2_longs p2_isThere p2_items p2_copied p2_tape p2_readSorts p2_readHands p2_inTurn p2_ends p2_bestHands p2_traces l3 =>
    if ((Int32.ofNat L) - 6) < l3 then
      some (1)
    else
      ogd (inb l3 L) (
      if ((xs (Int32.toNatClampNeg l3)) &&& 31) = 0 then
        ogd (inb (l3 + 1) L) (
        ogd (inb (l3 + 2) L) (
        ogd (inb (l3 + 3) L) (
        Option.bind (o_X8_row N p1_latestFinding p1_rows_lane p1_rows_size p1_rows_items (xs (Int32.toNatClampNeg (l3 + 1))) (xs (Int32.toNatClampNeg (l3 + 2))) (xs (Int32.toNatClampNeg (l3 + 3)))) (fun r184 =>
        ogd (inb (l3 + 1) L) (
        ogd (inb (l3 + 2) L) (
        ogd (inb (l3 + 3) L) (
        Option.bind (o_X9_row N p2_status p2_lanes p2_longs p2_isThere p2_items (xs (Int32.toNatClampNeg (l3 + 1))) (xs (Int32.toNatClampNeg (l3 + 2))) (xs (Int32.toNatClampNeg (l3 + 3)))) (fun r203 =>
        if r184.1 = r203.1 then
          o_L_law N L xs n a_p1_ways_best a_p1_ways_better p1_latestFault r184.2.1 r184.2.2.1 r184.2.2.2.1 r184.2.2.2.2 p1_tape_length p1_tape_bytes p1_reader_value p1_now_players p1_now_round p1_now_time p1_now_kind p1_now_hand p1_now_leader p1_now_course_first p1_now_course_second p1_now_course_thrown p1_trial_players p1_trial_round p1_trial_time p1_trial_kind p1_trial_hand p1_trial_leader p1_trial_course_first p1_trial_course_second p1_trial_course_thrown p1_acts_kept p1_acts_next p1_acts_halls p1_ways_groups p1_ways_group p1_ways_train p1_ways_best p1_ways_better p1_ways_course_first p1_ways_course_second p1_ways_course_thrown p1_asks_length p1_asks_numbers p1_images p1_imageKept p2_manyActs r203.2.1 p2_tapeLong p2_fault p2_winner p2_throwsOf p2_handA p2_handB p2_fewestSo p2_traced p2_now p2_kept p2_isKept p2_acts p2_was r203.2.2.1 r203.2.2.2.1 r203.2.2.2.2.1 r203.2.2.2.2.2 p2_copied p2_tape p2_readSorts p2_readHands p2_inTurn p2_ends p2_bestHands p2_traces (l3 + 6)
        else
          some (0)))))))))
      else
        if ((xs (Int32.toNatClampNeg l3)) &&& 31) = 1 then
          ogd (inb (l3 + 1) L) (
          ogd (inb (l3 + 2) L) (
          ogd (inb (l3 + 3) L) (
          Option.bind (o_X8_set N p1_latestFinding p1_rows_lane p1_rows_size p1_rows_items (xs (Int32.toNatClampNeg (l3 + 1))) (xs (Int32.toNatClampNeg (l3 + 2))) (xs (Int32.toNatClampNeg (l3 + 3)))) (fun r227 =>
          ogd (inb (l3 + 1) L) (
          ogd (inb (l3 + 2) L) (
          ogd (inb (l3 + 3) L) (
          Option.bind (o_X9_set N p2_status p2_lanes p2_longs p2_isThere p2_items (xs (Int32.toNatClampNeg (l3 + 1))) (xs (Int32.toNatClampNeg (l3 + 2))) (xs (Int32.toNatClampNeg (l3 + 3)))) (fun r246 =>
          if r227.1 = r246.1 then
            o_L_law N L xs n a_p1_ways_best a_p1_ways_better p1_latestFault r227.2.1 p1_rows_lane p1_rows_size r227.2.2 p1_tape_length p1_tape_bytes p1_reader_value p1_now_players p1_now_round p1_now_time p1_now_kind p1_now_hand p1_now_leader p1_now_course_first p1_now_course_second p1_now_course_thrown p1_trial_players p1_trial_round p1_trial_time p1_trial_kind p1_trial_hand p1_trial_leader p1_trial_course_first p1_trial_course_second p1_trial_course_thrown p1_acts_kept p1_acts_next p1_acts_halls p1_ways_groups p1_ways_group p1_ways_train p1_ways_best p1_ways_better p1_ways_course_first p1_ways_course_second p1_ways_course_thrown p1_asks_length p1_asks_numbers p1_images p1_imageKept p2_manyActs r246.2.1 p2_tapeLong p2_fault p2_winner p2_throwsOf p2_handA p2_handB p2_fewestSo p2_traced p2_now p2_kept p2_isKept p2_acts p2_was p2_lanes p2_longs p2_isThere r246.2.2 p2_copied p2_tape p2_readSorts p2_readHands p2_inTurn p2_ends p2_bestHands p2_traces (l3 + 6)
          else
            some (0)))))))))
        else
          if ((xs (Int32.toNatClampNeg l3)) &&& 31) = 2 then
            ogd (inb (l3 + 1) L) (
            ogd (inb (l3 + 2) L) (
            ogd (inb (l3 + 3) L) (
            ogd (inb (l3 + 4) L) (
            ogd (inb (l3 + 5) L) (
            Option.bind (o_X8_copy N p1_latestFinding p1_rows_lane p1_rows_size p1_rows_items (xs (Int32.toNatClampNeg (l3 + 1))) (xs (Int32.toNatClampNeg (l3 + 2))) (xs (Int32.toNatClampNeg (l3 + 3))) (xs (Int32.toNatClampNeg (l3 + 4))) (xs (Int32.toNatClampNeg (l3 + 5)))) (fun r280 =>
            ogd (inb (l3 + 1) L) (
            ogd (inb (l3 + 2) L) (
            ogd (inb (l3 + 3) L) (
            ogd (inb (l3 + 4) L) (
            ogd (inb (l3 + 5) L) (
            Option.bind (o_X9_copy N p2_status p2_lanes p2_longs p2_isThere p2_items p2_copied (xs (Int32.toNatClampNeg (l3 + 1))) (xs (Int32.toNatClampNeg (l3 + 2))) (xs (Int32.toNatClampNeg (l3 + 3))) (xs (Int32.toNatClampNeg (l3 + 4))) (xs (Int32.toNatClampNeg (l3 + 5)))) (fun r309 =>
            if r280.1 = r309.1 then
              o_L_law N L xs n a_p1_ways_best a_p1_ways_better p1_latestFault r280.2.1 p1_rows_lane p1_rows_size r280.2.2 p1_tape_length p1_tape_bytes p1_reader_value p1_now_players p1_now_round p1_now_time p1_now_kind p1_now_hand p1_now_leader p1_now_course_first p1_now_course_second p1_now_course_thrown p1_trial_players p1_trial_round p1_trial_time p1_trial_kind p1_trial_hand p1_trial_leader p1_trial_course_first p1_trial_course_second p1_trial_course_thrown p1_acts_kept p1_acts_next p1_acts_halls p1_ways_groups p1_ways_group p1_ways_train p1_ways_best p1_ways_better p1_ways_course_first p1_ways_course_second p1_ways_course_thrown p1_asks_length p1_asks_numbers p1_images p1_imageKept p2_manyActs r309.2.1 p2_tapeLong p2_fault p2_winner p2_throwsOf p2_handA p2_handB p2_fewestSo p2_traced p2_now p2_kept p2_isKept p2_acts p2_was p2_lanes p2_longs p2_isThere r309.2.2.1 r309.2.2.2 p2_tape p2_readSorts p2_readHands p2_inTurn p2_ends p2_bestHands p2_traces (l3 + 6)
            else
              some (0)))))))))))))
          else
            if ((xs (Int32.toNatClampNeg l3)) &&& 31) = 3 then
              ogd (inb (l3 + 1) L) (
              Option.bind (o_X8_drop N p1_latestFinding p1_rows_lane p1_rows_size (xs (Int32.toNatClampNeg (l3 + 1)))) (fun r323 =>
              ogd (inb (l3 + 1) L) (
              Option.bind (o_X9_drop N p2_status p2_longs p2_isThere (xs (Int32.toNatClampNeg (l3 + 1)))) (fun r332 =>
              if r323.1 = r332.1 then
                o_L_law N L xs n a_p1_ways_best a_p1_ways_better p1_latestFault r323.2.1 r323.2.2.1 r323.2.2.2 p1_rows_items p1_tape_length p1_tape_bytes p1_reader_value p1_now_players p1_now_round p1_now_time p1_now_kind p1_now_hand p1_now_leader p1_now_course_first p1_now_course_second p1_now_course_thrown p1_trial_players p1_trial_round p1_trial_time p1_trial_kind p1_trial_hand p1_trial_leader p1_trial_course_first p1_trial_course_second p1_trial_course_thrown p1_acts_kept p1_acts_next p1_acts_halls p1_ways_groups p1_ways_group p1_ways_train p1_ways_best p1_ways_better p1_ways_course_first p1_ways_course_second p1_ways_course_thrown p1_asks_length p1_asks_numbers p1_images p1_imageKept p2_manyActs r332.2.1 p2_tapeLong p2_fault p2_winner p2_throwsOf p2_handA p2_handB p2_fewestSo p2_traced p2_now p2_kept p2_isKept p2_acts p2_was p2_lanes p2_longs r332.2.2 p2_items p2_copied p2_tape p2_readSorts p2_readHands p2_inTurn p2_ends p2_bestHands p2_traces (l3 + 6)
              else
                some (0)))))
            else
              if ((xs (Int32.toNatClampNeg l3)) &&& 31) = 4 then
                ogd (inb (l3 + 1) L) (
                ogd (inb (l3 + 2) L) (
                ogd (inb (l3 + 3) L) (
                Option.bind (o_X8_feed N p1_tape_length p1_tape_bytes (((Int32.toInt64 (xs (Int32.toNatClampNeg (l3 + 1)))) <<< (Int32.toInt64 32 &&& 63)) ||| ((Int32.toInt64 (xs (Int32.toNatClampNeg (l3 + 2)))) &&& 4294967295)) (xs (Int32.toNatClampNeg (l3 + 3)))) (fun r366 =>
                ogd (inb (l3 + 1) L) (
                ogd (inb (l3 + 2) L) (
                ogd (inb (l3 + 3) L) (
                Option.bind (o_X9_feed N p2_tapeLong p2_tape (((Int32.toInt64 (xs (Int32.toNatClampNeg (l3 + 1)))) <<< (Int32.toInt64 32 &&& 63)) ||| ((Int32.toInt64 (xs (Int32.toNatClampNeg (l3 + 2)))) &&& 4294967295)) (xs (Int32.toNatClampNeg (l3 + 3)))) (fun r395 =>
                if r366.1 = r395.1 then
                  o_L_law N L xs n a_p1_ways_best a_p1_ways_better p1_latestFault p1_latestFinding p1_rows_lane p1_rows_size p1_rows_items r366.2.1 r366.2.2 p1_reader_value p1_now_players p1_now_round p1_now_time p1_now_kind p1_now_hand p1_now_leader p1_now_course_first p1_now_course_second p1_now_course_thrown p1_trial_players p1_trial_round p1_trial_time p1_trial_kind p1_trial_hand p1_trial_leader p1_trial_course_first p1_trial_course_second p1_trial_course_thrown p1_acts_kept p1_acts_next p1_acts_halls p1_ways_groups p1_ways_group p1_ways_train p1_ways_best p1_ways_better p1_ways_course_first p1_ways_course_second p1_ways_course_thrown p1_asks_length p1_asks_numbers p1_images p1_imageKept p2_manyActs p2_status r395.2.1 p2_fault p2_winner p2_throwsOf p2_handA p2_handB p2_fewestSo p2_traced p2_now p2_kept p2_isKept p2_acts p2_was p2_lanes p2_longs p2_isThere p2_items p2_copied r395.2.2 p2_readSorts p2_readHands p2_inTurn p2_ends p2_bestHands p2_traces (l3 + 6)
                else
                  some (0)))))))))
              else
                if ((xs (Int32.toNatClampNeg l3)) &&& 31) = 5 then
                  Option.bind (o_X8_hall N p1_latestFault p1_tape_length p1_tape_bytes p1_reader_value p1_now_players p1_now_round p1_now_time p1_now_kind p1_now_hand p1_now_leader p1_trial_kind p1_trial_hand p1_trial_leader p1_acts_kept) (fun r404 =>
                  Option.bind (o_X9_hall N p2_manyActs p2_tapeLong p2_fault p2_now p2_tape p2_readSorts p2_readHands) (fun r408 =>
                  if r404.1 = r408.1 then
                    o_L_law N L xs n a_p1_ways_best a_p1_ways_better r404.2.1 p1_latestFinding p1_rows_lane p1_rows_size p1_rows_items r404.2.2.1 p1_tape_bytes r404.2.2.2.2.2.2.1 r404.2.2.2.2.2.2.2.1 r404.2.2.2.2.2.2.2.2.1 r404.2.2.2.2.2.2.2.2.2.1 r404.2.2.2.2.2.2.2.2.2.2.1 r404.2.2.2.2.2.2.2.2.2.2.2.1 r404.2.2.2.2.2.2.2.2.2.2.2.2.1 p1_now_course_first p1_now_course_second p1_now_course_thrown r404.2.2.2.2.2.2.2.2.2.2.2.2.2.1 r404.2.2.2.2.2.2.2.2.2.2.2.2.2.2.1 r404.2.2.2.2.2.2.2.2.2.2.2.2.2.2.2.1 r404.2.2.2.2.2.2.2.2.2.2.2.2.2.2.2.2.1 r404.2.2.2.2.2.2.2.2.2.2.2.2.2.2.2.2.2.1 r404.2.2.2.2.2.2.2.2.2.2.2.2.2.2.2.2.2.2.1 p1_trial_course_first p1_trial_course_second p1_trial_course_thrown r404.2.2.2.2.2.2.2.2.2.2.2.2.2.2.2.2.2.2.2 p1_acts_next p1_acts_halls p1_ways_groups p1_ways_group p1_ways_train p1_ways_best p1_ways_better p1_ways_course_first p1_ways_course_second p1_ways_course_thrown p1_asks_length p1_asks_numbers p1_images p1_imageKept r408.2.1 p2_status r408.2.2.1 r408.2.2.2.1 p2_winner p2_throwsOf p2_handA p2_handB p2_fewestSo p2_traced r408.2.2.2.2.2.2.2.2.1 p2_kept p2_isKept p2_acts p2_was p2_lanes p2_longs p2_isThere p2_items p2_copied p2_tape r408.2.2.2.2.2.2.2.2.2.1 r408.2.2.2.2.2.2.2.2.2.2 p2_inTurn p2_ends p2_bestHands p2_traces (l3 + 6)
                  else
                    some (0)))
                else
                  if ((xs (Int32.toNatClampNeg l3)) &&& 31) = 6 then
                    Option.bind (o_X8_fault N p1_latestFault) (fun r417 =>
                    Option.bind (o_X9_fault N p2_fault) (fun r421 =>
                    if r417 = r421 then
                      o_L_law N L xs n a_p1_ways_best a_p1_ways_better p1_latestFault p1_latestFinding p1_rows_lane p1_rows_size p1_rows_items p1_tape_length p1_tape_bytes p1_reader_value p1_now_players p1_now_round p1_now_time p1_now_kind p1_now_hand p1_now_leader p1_now_course_first p1_now_course_second p1_now_course_thrown p1_trial_players p1_trial_round p1_trial_time p1_trial_kind p1_trial_hand p1_trial_leader p1_trial_course_first p1_trial_course_second p1_trial_course_thrown p1_acts_kept p1_acts_next p1_acts_halls p1_ways_groups p1_ways_group p1_ways_train p1_ways_best p1_ways_better p1_ways_course_first p1_ways_course_second p1_ways_course_thrown p1_asks_length p1_asks_numbers p1_images p1_imageKept p2_manyActs p2_status p2_tapeLong p2_fault p2_winner p2_throwsOf p2_handA p2_handB p2_fewestSo p2_traced p2_now p2_kept p2_isKept p2_acts p2_was p2_lanes p2_longs p2_isThere p2_items p2_copied p2_tape p2_readSorts p2_readHands p2_inTurn p2_ends p2_bestHands p2_traces (l3 + 6)
                    else
                      some (0)))
                  else
                    if ((xs (Int32.toNatClampNeg l3)) &&& 31) = 7 then
                      ogd (inb (l3 + 1) L) (
                      ogd (inb (l3 + 2) L) (
                      Option.bind (o_X8_bout N p1_now_players p1_now_round p1_now_time p1_now_kind p1_now_hand p1_now_leader p1_now_course_first p1_now_course_second p1_now_course_thrown p1_acts_kept p1_acts_next p1_acts_halls (xs (Int32.toNatClampNeg (l3 + 1))) (xs (Int32.toNatClampNeg (l3 + 2)))) (fun r440 =>
                      ogd (inb (l3 + 1) L) (
                      ogd (inb (l3 + 2) L) (
                      Option.bind (o_X9_bout N p2_manyActs p2_winner p2_throwsOf p2_handA p2_handB p2_now p2_acts (xs (Int32.toNatClampNeg (l3 + 1))) (xs (Int32.toNatClampNeg (l3 + 2)))) (fun r454 =>
                      if r440.1 = r454.1 then
                        o_L_law N L xs n a_p1_ways_best a_p1_ways_better p1_latestFault p1_latestFinding p1_rows_lane p1_rows_size p1_rows_items p1_tape_length p1_tape_bytes p1_reader_value p1_now_players p1_now_round r440.2.1 p1_now_kind r440.2.2.1 r440.2.2.2.1 r440.2.2.2.2.1 r440.2.2.2.2.2.1 r440.2.2.2.2.2.2.1 p1_trial_players p1_trial_round p1_trial_time p1_trial_kind p1_trial_hand p1_trial_leader p1_trial_course_first p1_trial_course_second p1_trial_course_thrown r440.2.2.2.2.2.2.2.1 r440.2.2.2.2.2.2.2.2.1 r440.2.2.2.2.2.2.2.2.2 p1_ways_groups p1_ways_group p1_ways_train p1_ways_best p1_ways_better p1_ways_course_first p1_ways_course_second p1_ways_course_thrown p1_asks_length p1_asks_numbers p1_images p1_imageKept r454.2.1 p2_status p2_tapeLong p2_fault r454.2.2.1 r454.2.2.2.1 r454.2.2.2.2.1 r454.2.2.2.2.2.1 p2_fewestSo p2_traced r454.2.2.2.2.2.2.1 p2_kept p2_isKept r454.2.2.2.2.2.2.2 p2_was p2_lanes p2_longs p2_isThere p2_items p2_copied p2_tape p2_readSorts p2_readHands p2_inTurn p2_ends p2_bestHands p2_traces (l3 + 6)
                      else
                        some (0)))))))
                    else
                      if ((xs (Int32.toNatClampNeg l3)) &&& 31) = 8 then
                        Option.bind (o_X8_round N p1_now_players p1_now_round p1_now_time p1_now_kind p1_now_hand p1_now_leader p1_now_course_first p1_now_course_second p1_now_course_thrown p1_acts_kept p1_acts_next p1_acts_halls) (fun r463 =>
                        Option.bind (o_X9_round N p2_manyActs p2_winner p2_throwsOf p2_handA p2_handB p2_now p2_acts p2_inTurn p2_ends) (fun r467 =>
                        if r463.1 = r467.1 then
                          o_L_law N L xs n a_p1_ways_best a_p1_ways_better p1_latestFault p1_latestFinding p1_rows_lane p1_rows_size p1_rows_items p1_tape_length p1_tape_bytes p1_reader_value p1_now_players r463.2.1 r463.2.2.1 p1_now_kind r463.2.2.2.1 r463.2.2.2.2.1 r463.2.2.2.2.2.1 r463.2.2.2.2.2.2.1 r463.2.2.2.2.2.2.2.1 p1_trial_players p1_trial_round p1_trial_time p1_trial_kind p1_trial_hand p1_trial_leader p1_trial_course_first p1_trial_course_second p1_trial_course_thrown r463.2.2.2.2.2.2.2.2.1 r463.2.2.2.2.2.2.2.2.2.1 r463.2.2.2.2.2.2.2.2.2.2 p1_ways_groups p1_ways_group p1_ways_train p1_ways_best p1_ways_better p1_ways_course_first p1_ways_course_second p1_ways_course_thrown p1_asks_length p1_asks_numbers p1_images p1_imageKept r467.2.1 p2_status p2_tapeLong p2_fault r467.2.2.1 r467.2.2.2.1 r467.2.2.2.2.1 r467.2.2.2.2.2.1 p2_fewestSo p2_traced r467.2.2.2.2.2.2.1 p2_kept p2_isKept r467.2.2.2.2.2.2.2.1 p2_was p2_lanes p2_longs p2_isThere p2_items p2_copied p2_tape p2_readSorts p2_readHands r467.2.2.2.2.2.2.2.2.1 r467.2.2.2.2.2.2.2.2.2 p2_bestHands p2_traces (l3 + 6)
                        else
                          some (0)))
                      else
                        if ((xs (Int32.toNatClampNeg l3)) &&& 31) = 9 then
                          ogd (inb (l3 + 1) L) (
                        ogd (inb (l3 + 2) L) (
                        Option.bind (o_X8_hand N p1_now_players p1_now_round p1_now_time p1_now_kind p1_now_hand p1_now_leader p1_acts_kept p1_acts_next p1_acts_halls (xs (Int32.toNatClampNeg (l3 + 1))) (xs (Int32.toNatClampNeg (l3 + 2)))) (fun r486 =>
                        ogd (inb (l3 + 1) L) (
                        ogd (inb (l3 + 2) L) (
                        Option.bind (o_X9_hand N p2_manyActs p2_now p2_acts (xs (Int32.toNatClampNeg (l3 + 1))) (xs (Int32.toNatClampNeg (l3 + 2)))) (fun r500 =>
                        if r486.1 = r500.1 then
                          o_L_law N L xs n a_p1_ways_best a_p1_ways_better p1_latestFault p1_latestFinding p1_rows_lane p1_rows_size p1_rows_items p1_tape_length p1_tape_bytes p1_reader_value p1_now_players p1_now_round p1_now_time p1_now_kind r486.2.1 p1_now_leader p1_now_course_first p1_now_course_second p1_now_course_thrown p1_trial_players p1_trial_round p1_trial_time p1_trial_kind p1_trial_hand p1_trial_leader p1_trial_course_first p1_trial_course_second p1_trial_course_thrown r486.2.2.1 r486.2.2.2.1 r486.2.2.2.2 p1_ways_groups p1_ways_group p1_ways_train p1_ways_best p1_ways_better p1_ways_course_first p1_ways_course_second p1_ways_course_thrown p1_asks_length p1_asks_numbers p1_images p1_imageKept r500.2.1 p2_status p2_tapeLong p2_fault p2_winner p2_throwsOf p2_handA p2_handB p2_fewestSo p2_traced r500.2.2.1 p2_kept p2_isKept r500.2.2.2 p2_was p2_lanes p2_longs p2_isThere p2_items p2_copied p2_tape p2_readSorts p2_readHands p2_inTurn p2_ends p2_bestHands p2_traces (l3 + 6)
                        else
                          some (0)))))))
                        else
                          if ((xs (Int32.toNatClampNeg l3)) &&& 31) = 10 then
                          ogd (inb (l3 + 1) L) (
                        Option.bind (o_X8_hands N p1_latestFinding p1_rows_lane p1_rows_size p1_rows_items p1_now_players p1_now_round p1_now_time p1_now_kind p1_now_hand p1_now_leader p1_acts_kept p1_acts_next p1_acts_halls (xs (Int32.toNatClampNeg (l3 + 1)))) (fun r514 =>
                        ogd (inb (l3 + 1) L) (
                        Option.bind (o_X9_hands N p2_manyActs p2_status p2_now p2_acts p2_longs p2_isThere p2_items (xs (Int32.toNatClampNeg (l3 + 1)))) (fun r523 =>
                        if r514.1 = r523.1 then
                          o_L_law N L xs n a_p1_ways_best a_p1_ways_better p1_latestFault r514.2.1 p1_rows_lane p1_rows_size p1_rows_items p1_tape_length p1_tape_bytes p1_reader_value p1_now_players p1_now_round p1_now_time p1_now_kind r514.2.2.1 p1_now_leader p1_now_course_first p1_now_course_second p1_now_course_thrown p1_trial_players p1_trial_round p1_trial_time p1_trial_kind p1_trial_hand p1_trial_leader p1_trial_course_first p1_trial_course_second p1_trial_course_thrown r514.2.2.2.1 r514.2.2.2.2.1 r514.2.2.2.2.2 p1_ways_groups p1_ways_group p1_ways_train p1_ways_best p1_ways_better p1_ways_course_first p1_ways_course_second p1_ways_course_thrown p1_asks_length p1_asks_numbers p1_images p1_imageKept r523.2.1 r523.2.2.1 p2_tapeLong p2_fault p2_winner p2_throwsOf p2_handA p2_handB p2_fewestSo p2_traced r523.2.2.2.1 p2_kept p2_isKept r523.2.2.2.2 p2_was p2_lanes p2_longs p2_isThere p2_items p2_copied p2_tape p2_readSorts p2_readHands p2_inTurn p2_ends p2_bestHands p2_traces (l3 + 6)
                        else
                          some (0)))))
                        else
                          if ((xs (Int32.toNatClampNeg l3)) &&& 31) = 11 then
                          Option.bind (o_X8_undo N p1_now_players p1_now_round p1_now_time p1_now_kind p1_now_hand p1_now_leader p1_acts_kept p1_acts_next p1_acts_halls) (fun r532 =>
                        Option.bind (o_X9_undo N p2_manyActs p2_now p2_acts) (fun r536 =>
                        if r532.1 = r536.1 then
                          o_L_law N L xs n a_p1_ways_best a_p1_ways_better p1_latestFault p1_latestFinding p1_rows_lane p1_rows_size p1_rows_items p1_tape_length p1_tape_bytes p1_reader_value r532.2.1 r532.2.2.1 r532.2.2.2.1 r532.2.2.2.2.1 r532.2.2.2.2.2.1 r532.2.2.2.2.2.2.1 p1_now_course_first p1_now_course_second p1_now_course_thrown p1_trial_players p1_trial_round p1_trial_time p1_trial_kind p1_trial_hand p1_trial_leader p1_trial_course_first p1_trial_course_second p1_trial_course_thrown r532.2.2.2.2.2.2.2.1 r532.2.2.2.2.2.2.2.2 p1_acts_halls p1_ways_groups p1_ways_group p1_ways_train p1_ways_best p1_ways_better p1_ways_course_first p1_ways_course_second p1_ways_course_thrown p1_asks_length p1_asks_numbers p1_images p1_imageKept r536.2.1 p2_status p2_tapeLong p2_fault p2_winner p2_throwsOf p2_handA p2_handB p2_fewestSo p2_traced r536.2.2 p2_kept p2_isKept p2_acts p2_was p2_lanes p2_longs p2_isThere p2_items p2_copied p2_tape p2_readSorts p2_readHands p2_inTurn p2_ends p2_bestHands p2_traces (l3 + 6)
                        else
                          some (0)))
                        else
                          if ((xs (Int32.toNatClampNeg l3)) &&& 31) = 12 then
                          ogd (inb (l3 + 1) L) (
                        ogd (inb (l3 + 2) L) (
                        Option.bind (o_X8_player N p1_now_players p1_now_hand p1_now_leader (xs (Int32.toNatClampNeg (l3 + 1))) (xs (Int32.toNatClampNeg (l3 + 2)))) (fun r555 =>
                        ogd (inb (l3 + 1) L) (
                        ogd (inb (l3 + 2) L) (
                        Option.bind (o_X9_player N p2_now (xs (Int32.toNatClampNeg (l3 + 1))) (xs (Int32.toNatClampNeg (l3 + 2)))) (fun r569 =>
                        if r555 = r569 then
                          o_L_law N L xs n a_p1_ways_best a_p1_ways_better p1_latestFault p1_latestFinding p1_rows_lane p1_rows_size p1_rows_items p1_tape_length p1_tape_bytes p1_reader_value p1_now_players p1_now_round p1_now_time p1_now_kind p1_now_hand p1_now_leader p1_now_course_first p1_now_course_second p1_now_course_thrown p1_trial_players p1_trial_round p1_trial_time p1_trial_kind p1_trial_hand p1_trial_leader p1_trial_course_first p1_trial_course_second p1_trial_course_thrown p1_acts_kept p1_acts_next p1_acts_halls p1_ways_groups p1_ways_group p1_ways_train p1_ways_best p1_ways_better p1_ways_course_first p1_ways_course_second p1_ways_course_thrown p1_asks_length p1_asks_numbers p1_images p1_imageKept p2_manyActs p2_status p2_tapeLong p2_fault p2_winner p2_throwsOf p2_handA p2_handB p2_fewestSo p2_traced p2_now p2_kept p2_isKept p2_acts p2_was p2_lanes p2_longs p2_isThere p2_items p2_copied p2_tape p2_readSorts p2_readHands p2_inTurn p2_ends p2_bestHands p2_traces (l3 + 6)
                        else
                          some (0)))))))
                        else
                          if ((xs (Int32.toNatClampNeg l3)) &&& 31) = 13 then
                          ogd (inb (l3 + 1) L) (
                        ogd (inb (l3 + 2) L) (
                        ogd (inb (l3 + 3) L) (
                        Option.bind (o_X8_beats N p1_now_players p1_now_kind p1_now_hand p1_now_leader p1_now_course_first p1_now_course_second p1_now_course_thrown (xs (Int32.toNatClampNeg (l3 + 1))) (xs (Int32.toNatClampNeg (l3 + 2))) (xs (Int32.toNatClampNeg (l3 + 3)))) (fun r593 =>
                        ogd (inb (l3 + 1) L) (
                        ogd (inb (l3 + 2) L) (
                        ogd (inb (l3 + 3) L) (
                        Option.bind (o_X9_beats N p2_winner p2_throwsOf p2_handA p2_handB p2_now (xs (Int32.toNatClampNeg (l3 + 1))) (xs (Int32.toNatClampNeg (l3 + 2))) (xs (Int32.toNatClampNeg (l3 + 3)))) (fun r612 =>
                        if r593.1 = r612.1 then
                          o_L_law N L xs n a_p1_ways_best a_p1_ways_better p1_latestFault p1_latestFinding p1_rows_lane p1_rows_size p1_rows_items p1_tape_length p1_tape_bytes p1_reader_value p1_now_players p1_now_round p1_now_time p1_now_kind p1_now_hand p1_now_leader r593.2.1 r593.2.2.1 r593.2.2.2 p1_trial_players p1_trial_round p1_trial_time p1_trial_kind p1_trial_hand p1_trial_leader p1_trial_course_first p1_trial_course_second p1_trial_course_thrown p1_acts_kept p1_acts_next p1_acts_halls p1_ways_groups p1_ways_group p1_ways_train p1_ways_best p1_ways_better p1_ways_course_first p1_ways_course_second p1_ways_course_thrown p1_asks_length p1_asks_numbers p1_images p1_imageKept p2_manyActs p2_status p2_tapeLong p2_fault r612.2.1 r612.2.2.1 r612.2.2.2.1 r612.2.2.2.2 p2_fewestSo p2_traced p2_now p2_kept p2_isKept p2_acts p2_was p2_lanes p2_longs p2_isThere p2_items p2_copied p2_tape p2_readSorts p2_readHands p2_inTurn p2_ends p2_bestHands p2_traces (l3 + 6)
                        else
                          some (0)))))))))
                        else
                          if ((xs (Int32.toNatClampNeg l3)) &&& 31) = 14 then
                          ogd (inb (l3 + 1) L) (
                        Option.bind (o_X8_left N p1_now_players p1_now_round p1_now_time p1_now_kind p1_now_hand p1_now_leader p1_trial_players p1_trial_round p1_trial_time p1_trial_kind p1_trial_hand p1_trial_leader p1_trial_course_first p1_trial_course_second p1_trial_course_thrown (xs (Int32.toNatClampNeg (l3 + 1)))) (fun r626 =>
                        ogd (inb (l3 + 1) L) (
                        Option.bind (o_X9_left N p2_winner p2_throwsOf p2_handA p2_handB p2_now p2_was p2_inTurn p2_ends (xs (Int32.toNatClampNeg (l3 + 1)))) (fun r635 =>
                        if r626.1 = r635.1 then
                          o_L_law N L xs n a_p1_ways_best a_p1_ways_better p1_latestFault p1_latestFinding p1_rows_lane p1_rows_size p1_rows_items p1_tape_length p1_tape_bytes p1_reader_value p1_now_players p1_now_round p1_now_time p1_now_kind p1_now_hand p1_now_leader p1_now_course_first p1_now_course_second p1_now_course_thrown r626.2.1 r626.2.2.1 r626.2.2.2.1 r626.2.2.2.2.1 r626.2.2.2.2.2.1 r626.2.2.2.2.2.2.1 r626.2.2.2.2.2.2.2.1 r626.2.2.2.2.2.2.2.2.1 r626.2.2.2.2.2.2.2.2.2 p1_acts_kept p1_acts_next p1_acts_halls p1_ways_groups p1_ways_group p1_ways_train p1_ways_best p1_ways_better p1_ways_course_first p1_ways_course_second p1_ways_course_thrown p1_asks_length p1_asks_numbers p1_images p1_imageKept p2_manyActs p2_status p2_tapeLong p2_fault r635.2.1 r635.2.2.1 r635.2.2.2.1 r635.2.2.2.2.1 p2_fewestSo p2_traced r635.2.2.2.2.2.1 p2_kept p2_isKept p2_acts r635.2.2.2.2.2.2.1 p2_lanes p2_longs p2_isThere p2_items p2_copied p2_tape p2_readSorts p2_readHands r635.2.2.2.2.2.2.2.1 r635.2.2.2.2.2.2.2.2 p2_bestHands p2_traces (l3 + 6)
                        else
                          some (0)))))
                        else
                          if ((xs (Int32.toNatClampNeg l3)) &&& 31) = 15 then
                          ogd (inb (l3 + 1) L) (
                        ogd (inb (l3 + 2) L) (
                        Option.bind (o_X8_longest N p1_now_players p1_now_round p1_now_time p1_now_kind p1_now_hand p1_now_leader p1_trial_players p1_trial_round p1_trial_time p1_trial_kind p1_trial_hand p1_trial_leader p1_trial_course_first p1_trial_course_second p1_trial_course_thrown (xs (Int32.toNatClampNeg (l3 + 1))) (xs (Int32.toNatClampNeg (l3 + 2)))) (fun r654 =>
                        ogd (inb (l3 + 1) L) (
                        ogd (inb (l3 + 2) L) (
                        Option.bind (o_X9_longest N p2_winner p2_throwsOf p2_handA p2_handB p2_now p2_was p2_inTurn p2_ends (xs (Int32.toNatClampNeg (l3 + 1))) (xs (Int32.toNatClampNeg (l3 + 2)))) (fun r668 =>
                        if r654.1 = r668.1 then
                          o_L_law N L xs n a_p1_ways_best a_p1_ways_better p1_latestFault p1_latestFinding p1_rows_lane p1_rows_size p1_rows_items p1_tape_length p1_tape_bytes p1_reader_value p1_now_players p1_now_round p1_now_time p1_now_kind p1_now_hand p1_now_leader p1_now_course_first p1_now_course_second p1_now_course_thrown r654.2.1 r654.2.2.1 r654.2.2.2.1 r654.2.2.2.2.1 r654.2.2.2.2.2.1 r654.2.2.2.2.2.2.1 r654.2.2.2.2.2.2.2.1 r654.2.2.2.2.2.2.2.2.1 r654.2.2.2.2.2.2.2.2.2 p1_acts_kept p1_acts_next p1_acts_halls p1_ways_groups p1_ways_group p1_ways_train p1_ways_best p1_ways_better p1_ways_course_first p1_ways_course_second p1_ways_course_thrown p1_asks_length p1_asks_numbers p1_images p1_imageKept p2_manyActs p2_status p2_tapeLong p2_fault r668.2.1 r668.2.2.1 r668.2.2.2.1 r668.2.2.2.2.1 p2_fewestSo p2_traced r668.2.2.2.2.2.1 p2_kept p2_isKept p2_acts r668.2.2.2.2.2.2.1 p2_lanes p2_longs p2_isThere p2_items p2_copied p2_tape p2_readSorts p2_readHands r668.2.2.2.2.2.2.2.1 r668.2.2.2.2.2.2.2.2 p2_bestHands p2_traces (l3 + 6)
                        else
                          some (0)))))))
                        else
                          if ((xs (Int32.toNatClampNeg l3)) &&& 31) = 16 then
                          ogd (inb (l3 + 1) L) (
                        Option.bind (o_X8_begin N p1_now_players p1_now_round p1_now_time p1_now_kind p1_now_hand p1_now_leader p1_trial_players p1_trial_round p1_trial_time p1_trial_kind p1_trial_hand p1_trial_leader p1_trial_course_first p1_trial_course_second p1_trial_course_thrown (xs (Int32.toNatClampNeg (l3 + 1)))) (fun r682 =>
                        ogd (inb (l3 + 1) L) (
                        Option.bind (o_X9_begin N p2_winner p2_throwsOf p2_handA p2_handB p2_now p2_was p2_inTurn p2_ends (xs (Int32.toNatClampNeg (l3 + 1)))) (fun r691 =>
                        if r682.1 = r691.1 then
                          o_L_law N L xs n a_p1_ways_best a_p1_ways_better p1_latestFault p1_latestFinding p1_rows_lane p1_rows_size p1_rows_items p1_tape_length p1_tape_bytes p1_reader_value p1_now_players p1_now_round p1_now_time p1_now_kind p1_now_hand p1_now_leader p1_now_course_first p1_now_course_second p1_now_course_thrown r682.2.1 r682.2.2.1 r682.2.2.2.1 r682.2.2.2.2.1 r682.2.2.2.2.2.1 r682.2.2.2.2.2.2.1 r682.2.2.2.2.2.2.2.1 r682.2.2.2.2.2.2.2.2.1 r682.2.2.2.2.2.2.2.2.2 p1_acts_kept p1_acts_next p1_acts_halls p1_ways_groups p1_ways_group p1_ways_train p1_ways_best p1_ways_better p1_ways_course_first p1_ways_course_second p1_ways_course_thrown p1_asks_length p1_asks_numbers p1_images p1_imageKept p2_manyActs p2_status p2_tapeLong p2_fault r691.2.1 r691.2.2.1 r691.2.2.2.1 r691.2.2.2.2.1 p2_fewestSo p2_traced r691.2.2.2.2.2.1 p2_kept p2_isKept p2_acts r691.2.2.2.2.2.2.1 p2_lanes p2_longs p2_isThere p2_items p2_copied p2_tape p2_readSorts p2_readHands r691.2.2.2.2.2.2.2.1 r691.2.2.2.2.2.2.2.2 p2_bestHands p2_traces (l3 + 6)
                        else
                          some (0)))))
                        else
                          if ((xs (Int32.toNatClampNeg l3)) &&& 31) = 17 then
                          ogd (inb (l3 + 1) L) (
                        Option.bind (o_X8_seek N p1_now_players p1_now_round p1_now_time p1_now_kind p1_now_hand p1_now_leader p1_trial_players p1_trial_round p1_trial_time p1_trial_kind p1_trial_hand p1_trial_leader p1_trial_course_first p1_trial_course_second p1_trial_course_thrown (xs (Int32.toNatClampNeg (l3 + 1)))) (fun r705 =>
                        ogd (inb (l3 + 1) L) (
                        Option.bind (o_X9_seek N p2_winner p2_throwsOf p2_handA p2_handB p2_now p2_was p2_inTurn p2_ends (xs (Int32.toNatClampNeg (l3 + 1)))) (fun r714 =>
                        if r705.1 = r714.1 then
                          o_L_law N L xs n a_p1_ways_best a_p1_ways_better p1_latestFault p1_latestFinding p1_rows_lane p1_rows_size p1_rows_items p1_tape_length p1_tape_bytes p1_reader_value p1_now_players p1_now_round p1_now_time p1_now_kind p1_now_hand p1_now_leader p1_now_course_first p1_now_course_second p1_now_course_thrown r705.2.1 r705.2.2.1 r705.2.2.2.1 r705.2.2.2.2.1 r705.2.2.2.2.2.1 r705.2.2.2.2.2.2.1 r705.2.2.2.2.2.2.2.1 r705.2.2.2.2.2.2.2.2.1 r705.2.2.2.2.2.2.2.2.2 p1_acts_kept p1_acts_next p1_acts_halls p1_ways_groups p1_ways_group p1_ways_train p1_ways_best p1_ways_better p1_ways_course_first p1_ways_course_second p1_ways_course_thrown p1_asks_length p1_asks_numbers p1_images p1_imageKept p2_manyActs p2_status p2_tapeLong p2_fault r714.2.1 r714.2.2.1 r714.2.2.2.1 r714.2.2.2.2.1 p2_fewestSo p2_traced r714.2.2.2.2.2.1 p2_kept p2_isKept p2_acts r714.2.2.2.2.2.2.1 p2_lanes p2_longs p2_isThere p2_items p2_copied p2_tape p2_readSorts p2_readHands r714.2.2.2.2.2.2.2.1 r714.2.2.2.2.2.2.2.2 p2_bestHands p2_traces (l3 + 6)
                        else
                          some (0)))))
                        else
                          if ((xs (Int32.toNatClampNeg l3)) &&& 31) = 18 then
                          ogd (inb (l3 + 1) L) (
                        ogd (inb (l3 + 2) L) (
                        Option.bind (o_X8_fewest N a_p1_ways_best a_p1_ways_better p1_now_players p1_now_kind p1_now_hand p1_now_leader p1_ways_groups p1_ways_group p1_ways_train p1_ways_best p1_ways_better p1_ways_course_first p1_ways_course_second p1_ways_course_thrown (xs (Int32.toNatClampNeg (l3 + 1))) (xs (Int32.toNatClampNeg (l3 + 2)))) (fun r733 =>
                        ogd (inb (l3 + 1) L) (
                        ogd (inb (l3 + 2) L) (
                        Option.bind (o_X9_fewest N p2_winner p2_throwsOf p2_handA p2_handB p2_fewestSo p2_now p2_was p2_copied p2_inTurn p2_ends p2_bestHands (xs (Int32.toNatClampNeg (l3 + 1))) (xs (Int32.toNatClampNeg (l3 + 2)))) (fun r747 =>
                        if r733.1 = r747.1 then
                          o_L_law N L xs n r733.2.2.1 r733.2.2.2.1 p1_latestFault p1_latestFinding p1_rows_lane p1_rows_size p1_rows_items p1_tape_length p1_tape_bytes p1_reader_value p1_now_players p1_now_round p1_now_time p1_now_kind p1_now_hand p1_now_leader p1_now_course_first p1_now_course_second p1_now_course_thrown p1_trial_players p1_trial_round p1_trial_time p1_trial_kind p1_trial_hand p1_trial_leader p1_trial_course_first p1_trial_course_second p1_trial_course_thrown p1_acts_kept p1_acts_next p1_acts_halls r733.2.1 r733.2.2.2.2.1 r733.2.2.2.2.2.1 r733.2.2.2.2.2.2.1 r733.2.2.2.2.2.2.2.1 r733.2.2.2.2.2.2.2.2.1 r733.2.2.2.2.2.2.2.2.2.1 r733.2.2.2.2.2.2.2.2.2.2 p1_asks_length p1_asks_numbers p1_images p1_imageKept p2_manyActs p2_status p2_tapeLong p2_fault r747.2.1 r747.2.2.1 r747.2.2.2.1 r747.2.2.2.2.1 r747.2.2.2.2.2.1 p2_traced r747.2.2.2.2.2.2.1 p2_kept p2_isKept p2_acts r747.2.2.2.2.2.2.2.1 p2_lanes p2_longs p2_isThere p2_items r747.2.2.2.2.2.2.2.2.1 p2_tape p2_readSorts p2_readHands r747.2.2.2.2.2.2.2.2.2.1 r747.2.2.2.2.2.2.2.2.2.2.1 r747.2.2.2.2.2.2.2.2.2.2.2 p2_traces (l3 + 6)
                        else
                          some (0)))))))
                        else
                          if ((xs (Int32.toNatClampNeg l3)) &&& 31) = 19 then
                          ogd (inb (l3 + 1) L) (
                        ogd (inb (l3 + 2) L) (
                        Option.bind (o_X8_begun N p1_now_players p1_now_round p1_now_time p1_now_kind p1_now_hand p1_now_leader p1_trial_players p1_trial_round p1_trial_time p1_trial_kind p1_trial_hand p1_trial_leader p1_trial_course_first p1_trial_course_second p1_trial_course_thrown (xs (Int32.toNatClampNeg (l3 + 1))) (xs (Int32.toNatClampNeg (l3 + 2)))) (fun r766 =>
                        ogd (inb (l3 + 1) L) (
                        ogd (inb (l3 + 2) L) (
                        Option.bind (o_X9_begun N p2_winner p2_throwsOf p2_handA p2_handB p2_now p2_was p2_inTurn p2_ends (xs (Int32.toNatClampNeg (l3 + 1))) (xs (Int32.toNatClampNeg (l3 + 2)))) (fun r780 =>
                        if r766.1 = r780.1 then
                          o_L_law N L xs n a_p1_ways_best a_p1_ways_better p1_latestFault p1_latestFinding p1_rows_lane p1_rows_size p1_rows_items p1_tape_length p1_tape_bytes p1_reader_value p1_now_players p1_now_round p1_now_time p1_now_kind p1_now_hand p1_now_leader p1_now_course_first p1_now_course_second p1_now_course_thrown r766.2.1 r766.2.2.1 r766.2.2.2.1 r766.2.2.2.2.1 r766.2.2.2.2.2.1 r766.2.2.2.2.2.2.1 r766.2.2.2.2.2.2.2.1 r766.2.2.2.2.2.2.2.2.1 r766.2.2.2.2.2.2.2.2.2 p1_acts_kept p1_acts_next p1_acts_halls p1_ways_groups p1_ways_group p1_ways_train p1_ways_best p1_ways_better p1_ways_course_first p1_ways_course_second p1_ways_course_thrown p1_asks_length p1_asks_numbers p1_images p1_imageKept p2_manyActs p2_status p2_tapeLong p2_fault r780.2.1 r780.2.2.1 r780.2.2.2.1 r780.2.2.2.2.1 p2_fewestSo p2_traced r780.2.2.2.2.2.1 p2_kept p2_isKept p2_acts r780.2.2.2.2.2.2.1 p2_lanes p2_longs p2_isThere p2_items p2_copied p2_tape p2_readSorts p2_readHands r780.2.2.2.2.2.2.2.1 r780.2.2.2.2.2.2.2.2 p2_bestHands p2_traces (l3 + 6)
                        else
                          some (0)))))))
                        else
                          if ((xs (Int32.toNatClampNeg l3)) &&& 31) = 20 then
                          ogd (inb (l3 + 1) L) (
                        ogd (inb (l3 + 2) L) (
                        ogd (inb (l3 + 3) L) (
                        ogd (inb (l3 + 4) L) (
                        ogd (inb (l3 + 5) L) (
                        Option.bind (o_X8_odds N (xs (Int32.toNatClampNeg (l3 + 1))) (xs (Int32.toNatClampNeg (l3 + 2))) (xs (Int32.toNatClampNeg (l3 + 3))) (xs (Int32.toNatClampNeg (l3 + 4))) (xs (Int32.toNatClampNeg (l3 + 5)))) (fun r814 =>
                        ogd (inb (l3 + 1) L) (
                        ogd (inb (l3 + 2) L) (
                        ogd (inb (l3 + 3) L) (
                        ogd (inb (l3 + 4) L) (
                        ogd (inb (l3 + 5) L) (
                        Option.bind (o_X9_odds N (xs (Int32.toNatClampNeg (l3 + 1))) (xs (Int32.toNatClampNeg (l3 + 2))) (xs (Int32.toNatClampNeg (l3 + 3))) (xs (Int32.toNatClampNeg (l3 + 4))) (xs (Int32.toNatClampNeg (l3 + 5)))) (fun r843 =>
                        if r814 = r843 then
                          o_L_law N L xs n a_p1_ways_best a_p1_ways_better p1_latestFault p1_latestFinding p1_rows_lane p1_rows_size p1_rows_items p1_tape_length p1_tape_bytes p1_reader_value p1_now_players p1_now_round p1_now_time p1_now_kind p1_now_hand p1_now_leader p1_now_course_first p1_now_course_second p1_now_course_thrown p1_trial_players p1_trial_round p1_trial_time p1_trial_kind p1_trial_hand p1_trial_leader p1_trial_course_first p1_trial_course_second p1_trial_course_thrown p1_acts_kept p1_acts_next p1_acts_halls p1_ways_groups p1_ways_group p1_ways_train p1_ways_best p1_ways_better p1_ways_course_first p1_ways_course_second p1_ways_course_thrown p1_asks_length p1_asks_numbers p1_images p1_imageKept p2_manyActs p2_status p2_tapeLong p2_fault p2_winner p2_throwsOf p2_handA p2_handB p2_fewestSo p2_traced p2_now p2_kept p2_isKept p2_acts p2_was p2_lanes p2_longs p2_isThere p2_items p2_copied p2_tape p2_readSorts p2_readHands p2_inTurn p2_ends p2_bestHands p2_traces (l3 + 6)
                        else
                          some (0)))))))))))))
                        else
                          if ((xs (Int32.toNatClampNeg l3)) &&& 31) = 21 then
                          ogd (inb (l3 + 1) L) (
                        ogd (inb (l3 + 2) L) (
                        ogd (inb (l3 + 3) L) (
                        Option.bind (o_X8_gain N (xs (Int32.toNatClampNeg (l3 + 1))) (xs (Int32.toNatClampNeg (l3 + 2))) (xs (Int32.toNatClampNeg (l3 + 3)))) (fun r867 =>
                        ogd (inb (l3 + 1) L) (
                        ogd (inb (l3 + 2) L) (
                        ogd (inb (l3 + 3) L) (
                        Option.bind (o_X9_gain N (xs (Int32.toNatClampNeg (l3 + 1))) (xs (Int32.toNatClampNeg (l3 + 2))) (xs (Int32.toNatClampNeg (l3 + 3)))) (fun r886 =>
                        if r867 = r886 then
                          o_L_law N L xs n a_p1_ways_best a_p1_ways_better p1_latestFault p1_latestFinding p1_rows_lane p1_rows_size p1_rows_items p1_tape_length p1_tape_bytes p1_reader_value p1_now_players p1_now_round p1_now_time p1_now_kind p1_now_hand p1_now_leader p1_now_course_first p1_now_course_second p1_now_course_thrown p1_trial_players p1_trial_round p1_trial_time p1_trial_kind p1_trial_hand p1_trial_leader p1_trial_course_first p1_trial_course_second p1_trial_course_thrown p1_acts_kept p1_acts_next p1_acts_halls p1_ways_groups p1_ways_group p1_ways_train p1_ways_best p1_ways_better p1_ways_course_first p1_ways_course_second p1_ways_course_thrown p1_asks_length p1_asks_numbers p1_images p1_imageKept p2_manyActs p2_status p2_tapeLong p2_fault p2_winner p2_throwsOf p2_handA p2_handB p2_fewestSo p2_traced p2_now p2_kept p2_isKept p2_acts p2_was p2_lanes p2_longs p2_isThere p2_items p2_copied p2_tape p2_readSorts p2_readHands p2_inTurn p2_ends p2_bestHands p2_traces (l3 + 6)
                        else
                          some (0)))))))))
                        else
                          if ((xs (Int32.toNatClampNeg l3)) &&& 31) = 22 then
                          ogd (inb (l3 + 1) L) (
                        Option.bind (o_X8_image N p1_now_players p1_now_round p1_now_time p1_now_kind p1_now_hand p1_now_leader p1_images p1_imageKept (xs (Int32.toNatClampNeg (l3 + 1)))) (fun r900 =>
                        ogd (inb (l3 + 1) L) (
                        Option.bind (o_X9_image N p2_now p2_kept p2_isKept (xs (Int32.toNatClampNeg (l3 + 1)))) (fun r909 =>
                        if r900.1 = r909.1 then
                          o_L_law N L xs n a_p1_ways_best a_p1_ways_better p1_latestFault p1_latestFinding p1_rows_lane p1_rows_size p1_rows_items p1_tape_length p1_tape_bytes p1_reader_value p1_now_players p1_now_round p1_now_time p1_now_kind p1_now_hand p1_now_leader p1_now_course_first p1_now_course_second p1_now_course_thrown p1_trial_players p1_trial_round p1_trial_time p1_trial_kind p1_trial_hand p1_trial_leader p1_trial_course_first p1_trial_course_second p1_trial_course_thrown p1_acts_kept p1_acts_next p1_acts_halls p1_ways_groups p1_ways_group p1_ways_train p1_ways_best p1_ways_better p1_ways_course_first p1_ways_course_second p1_ways_course_thrown p1_asks_length p1_asks_numbers r900.2.1 r900.2.2 p2_manyActs p2_status p2_tapeLong p2_fault p2_winner p2_throwsOf p2_handA p2_handB p2_fewestSo p2_traced p2_now r909.2.1 r909.2.2 p2_acts p2_was p2_lanes p2_longs p2_isThere p2_items p2_copied p2_tape p2_readSorts p2_readHands p2_inTurn p2_ends p2_bestHands p2_traces (l3 + 6)
                        else
                          some (0)))))
                        else
                          if ((xs (Int32.toNatClampNeg l3)) &&& 31) = 23 then
                          ogd (inb (l3 + 1) L) (
                        Option.bind (o_X8_restore N p1_now_players p1_now_round p1_now_time p1_now_kind p1_now_hand p1_now_leader p1_acts_kept p1_images p1_imageKept (xs (Int32.toNatClampNeg (l3 + 1)))) (fun r923 =>
                        ogd (inb (l3 + 1) L) (
                        Option.bind (o_X9_restore N p2_manyActs p2_now p2_kept p2_isKept (xs (Int32.toNatClampNeg (l3 + 1)))) (fun r932 =>
                        if r923.1 = r932.1 then
                          o_L_law N L xs n a_p1_ways_best a_p1_ways_better p1_latestFault p1_latestFinding p1_rows_lane p1_rows_size p1_rows_items p1_tape_length p1_tape_bytes p1_reader_value r923.2.1 r923.2.2.1 r923.2.2.2.1 r923.2.2.2.2.1 r923.2.2.2.2.2.1 r923.2.2.2.2.2.2.1 p1_now_course_first p1_now_course_second p1_now_course_thrown p1_trial_players p1_trial_round p1_trial_time p1_trial_kind p1_trial_hand p1_trial_leader p1_trial_course_first p1_trial_course_second p1_trial_course_thrown r923.2.2.2.2.2.2.2 p1_acts_next p1_acts_halls p1_ways_groups p1_ways_group p1_ways_train p1_ways_best p1_ways_better p1_ways_course_first p1_ways_course_second p1_ways_course_thrown p1_asks_length p1_asks_numbers p1_images p1_imageKept r932.2.1 p2_status p2_tapeLong p2_fault p2_winner p2_throwsOf p2_handA p2_handB p2_fewestSo p2_traced r932.2.2 p2_kept p2_isKept p2_acts p2_was p2_lanes p2_longs p2_isThere p2_items p2_copied p2_tape p2_readSorts p2_readHands p2_inTurn p2_ends p2_bestHands p2_traces (l3 + 6)
                        else
                          some (0)))))
                        else
                          if ((xs (Int32.toNatClampNeg l3)) &&& 31) = 24 then
                          ogd (inb (l3 + 1) L) (
                        Option.bind (o_X8_kind N p1_now_players p1_now_kind (xs (Int32.toNatClampNeg (l3 + 1)))) (fun r946 =>
                        ogd (inb (l3 + 1) L) (
                        Option.bind (o_X9_kind N p2_now (xs (Int32.toNatClampNeg (l3 + 1)))) (fun r955 =>
                        if r946 = r955 then
                          o_L_law N L xs n a_p1_ways_best a_p1_ways_better p1_latestFault p1_latestFinding p1_rows_lane p1_rows_size p1_rows_items p1_tape_length p1_tape_bytes p1_reader_value p1_now_players p1_now_round p1_now_time p1_now_kind p1_now_hand p1_now_leader p1_now_course_first p1_now_course_second p1_now_course_thrown p1_trial_players p1_trial_round p1_trial_time p1_trial_kind p1_trial_hand p1_trial_leader p1_trial_course_first p1_trial_course_second p1_trial_course_thrown p1_acts_kept p1_acts_next p1_acts_halls p1_ways_groups p1_ways_group p1_ways_train p1_ways_best p1_ways_better p1_ways_course_first p1_ways_course_second p1_ways_course_thrown p1_asks_length p1_asks_numbers p1_images p1_imageKept p2_manyActs p2_status p2_tapeLong p2_fault p2_winner p2_throwsOf p2_handA p2_handB p2_fewestSo p2_traced p2_now p2_kept p2_isKept p2_acts p2_was p2_lanes p2_longs p2_isThere p2_items p2_copied p2_tape p2_readSorts p2_readHands p2_inTurn p2_ends p2_bestHands p2_traces (l3 + 6)
                        else
                          some (0)))))
                        else
                          if ((xs (Int32.toNatClampNeg l3)) &&& 31) = 25 then
                          ogd (inb (l3 + 1) L) (
                        ogd (inb (l3 + 2) L) (
                        Option.bind (o_X8_as N p1_latestFinding p1_now_players p1_now_kind (xs (Int32.toNatClampNeg (l3 + 1))) (xs (Int32.toNatClampNeg (l3 + 2)))) (fun r974 =>
                        ogd (inb (l3 + 1) L) (
                        ogd (inb (l3 + 2) L) (
                        Option.bind (o_X9_as N p2_status p2_now (xs (Int32.toNatClampNeg (l3 + 1))) (xs (Int32.toNatClampNeg (l3 + 2)))) (fun r988 =>
                        if r974.1 = r988.1 then
                          o_L_law N L xs n a_p1_ways_best a_p1_ways_better p1_latestFault r974.2 p1_rows_lane p1_rows_size p1_rows_items p1_tape_length p1_tape_bytes p1_reader_value p1_now_players p1_now_round p1_now_time p1_now_kind p1_now_hand p1_now_leader p1_now_course_first p1_now_course_second p1_now_course_thrown p1_trial_players p1_trial_round p1_trial_time p1_trial_kind p1_trial_hand p1_trial_leader p1_trial_course_first p1_trial_course_second p1_trial_course_thrown p1_acts_kept p1_acts_next p1_acts_halls p1_ways_groups p1_ways_group p1_ways_train p1_ways_best p1_ways_better p1_ways_course_first p1_ways_course_second p1_ways_course_thrown p1_asks_length p1_asks_numbers p1_images p1_imageKept p2_manyActs r988.2 p2_tapeLong p2_fault p2_winner p2_throwsOf p2_handA p2_handB p2_fewestSo p2_traced p2_now p2_kept p2_isKept p2_acts p2_was p2_lanes p2_longs p2_isThere p2_items p2_copied p2_tape p2_readSorts p2_readHands p2_inTurn p2_ends p2_bestHands p2_traces (l3 + 6)
                        else
                          some (0)))))))
                        else
                          if ((xs (Int32.toNatClampNeg l3)) &&& 31) = 26 then
                          ogd (inb (l3 + 1) L) (
                        ogd (inb (l3 + 2) L) (
                        Option.bind (o_X8_ask N p1_now_players p1_now_kind p1_now_hand p1_now_leader p1_asks_length p1_asks_numbers (xs (Int32.toNatClampNeg (l3 + 1))) (xs (Int32.toNatClampNeg (l3 + 2)))) (fun r1007 =>
                        ogd (inb (l3 + 1) L) (
                        ogd (inb (l3 + 2) L) (
                        Option.bind (o_X9_ask N p2_traced p2_now p2_traces (xs (Int32.toNatClampNeg (l3 + 1))) (xs (Int32.toNatClampNeg (l3 + 2)))) (fun r1021 =>
                        if r1007.1 = r1021.1 then
                          o_L_law N L xs n a_p1_ways_best a_p1_ways_better p1_latestFault p1_latestFinding p1_rows_lane p1_rows_size p1_rows_items p1_tape_length p1_tape_bytes p1_reader_value p1_now_players p1_now_round p1_now_time p1_now_kind p1_now_hand p1_now_leader p1_now_course_first p1_now_course_second p1_now_course_thrown p1_trial_players p1_trial_round p1_trial_time p1_trial_kind p1_trial_hand p1_trial_leader p1_trial_course_first p1_trial_course_second p1_trial_course_thrown p1_acts_kept p1_acts_next p1_acts_halls p1_ways_groups p1_ways_group p1_ways_train p1_ways_best p1_ways_better p1_ways_course_first p1_ways_course_second p1_ways_course_thrown r1007.2.1 r1007.2.2 p1_images p1_imageKept p2_manyActs p2_status p2_tapeLong p2_fault p2_winner p2_throwsOf p2_handA p2_handB p2_fewestSo r1021.2.1 p2_now p2_kept p2_isKept p2_acts p2_was p2_lanes p2_longs p2_isThere p2_items p2_copied p2_tape p2_readSorts p2_readHands p2_inTurn p2_ends p2_bestHands r1021.2.2 (l3 + 6)
                        else
                          some (0)))))))
                        else
                          if ((xs (Int32.toNatClampNeg l3)) &&& 31) = 27 then
                          ogd (inb (l3 + 1) L) (
                        Option.bind (o_X8_trace N p1_asks_length p1_asks_numbers (xs (Int32.toNatClampNeg (l3 + 1)))) (fun r1035 =>
                        ogd (inb (l3 + 1) L) (
                        Option.bind (o_X9_trace N p2_traced p2_traces (xs (Int32.toNatClampNeg (l3 + 1)))) (fun r1044 =>
                        if r1035 = r1044 then
                          o_L_law N L xs n a_p1_ways_best a_p1_ways_better p1_latestFault p1_latestFinding p1_rows_lane p1_rows_size p1_rows_items p1_tape_length p1_tape_bytes p1_reader_value p1_now_players p1_now_round p1_now_time p1_now_kind p1_now_hand p1_now_leader p1_now_course_first p1_now_course_second p1_now_course_thrown p1_trial_players p1_trial_round p1_trial_time p1_trial_kind p1_trial_hand p1_trial_leader p1_trial_course_first p1_trial_course_second p1_trial_course_thrown p1_acts_kept p1_acts_next p1_acts_halls p1_ways_groups p1_ways_group p1_ways_train p1_ways_best p1_ways_better p1_ways_course_first p1_ways_course_second p1_ways_course_thrown p1_asks_length p1_asks_numbers p1_images p1_imageKept p2_manyActs p2_status p2_tapeLong p2_fault p2_winner p2_throwsOf p2_handA p2_handB p2_fewestSo p2_traced p2_now p2_kept p2_isKept p2_acts p2_was p2_lanes p2_longs p2_isThere p2_items p2_copied p2_tape p2_readSorts p2_readHands p2_inTurn p2_ends p2_bestHands p2_traces (l3 + 6)
                        else
                          some (0)))))
                        else
                          if ((xs (Int32.toNatClampNeg l3)) &&& 31) = 28 then
                          ogd (inb (l3 + 1) L) (
                        Option.bind (o_X8_count N p1_rows_lane p1_tape_length p1_now_players p1_now_round p1_now_time p1_now_leader p1_acts_kept (xs (Int32.toNatClampNeg (l3 + 1)))) (fun r1058 =>
                        ogd (inb (l3 + 1) L) (
                        Option.bind (o_X9_count N p2_manyActs p2_tapeLong p2_now p2_isThere (xs (Int32.toNatClampNeg (l3 + 1)))) (fun r1067 =>
                        if r1058 = r1067 then
                          o_L_law N L xs n a_p1_ways_best a_p1_ways_better p1_latestFault p1_latestFinding p1_rows_lane p1_rows_size p1_rows_items p1_tape_length p1_tape_bytes p1_reader_value p1_now_players p1_now_round p1_now_time p1_now_kind p1_now_hand p1_now_leader p1_now_course_first p1_now_course_second p1_now_course_thrown p1_trial_players p1_trial_round p1_trial_time p1_trial_kind p1_trial_hand p1_trial_leader p1_trial_course_first p1_trial_course_second p1_trial_course_thrown p1_acts_kept p1_acts_next p1_acts_halls p1_ways_groups p1_ways_group p1_ways_train p1_ways_best p1_ways_better p1_ways_course_first p1_ways_course_second p1_ways_course_thrown p1_asks_length p1_asks_numbers p1_images p1_imageKept p2_manyActs p2_status p2_tapeLong p2_fault p2_winner p2_throwsOf p2_handA p2_handB p2_fewestSo p2_traced p2_now p2_kept p2_isKept p2_acts p2_was p2_lanes p2_longs p2_isThere p2_items p2_copied p2_tape p2_readSorts p2_readHands p2_inTurn p2_ends p2_bestHands p2_traces (l3 + 6)
                        else
                          some (0)))))
                        else
                          if ((xs (Int32.toNatClampNeg l3)) &&& 31) = 29 then
                          Option.bind (o_X8_status N p1_latestFinding) (fun r1076 =>
                        Option.bind (o_X9_status N p2_status) (fun r1080 =>
                        if r1076 = r1080 then
                          o_L_law N L xs n a_p1_ways_best a_p1_ways_better p1_latestFault p1_latestFinding p1_rows_lane p1_rows_size p1_rows_items p1_tape_length p1_tape_bytes p1_reader_value p1_now_players p1_now_round p1_now_time p1_now_kind p1_now_hand p1_now_leader p1_now_course_first p1_now_course_second p1_now_course_thrown p1_trial_players p1_trial_round p1_trial_time p1_trial_kind p1_trial_hand p1_trial_leader p1_trial_course_first p1_trial_course_second p1_trial_course_thrown p1_acts_kept p1_acts_next p1_acts_halls p1_ways_groups p1_ways_group p1_ways_train p1_ways_best p1_ways_better p1_ways_course_first p1_ways_course_second p1_ways_course_thrown p1_asks_length p1_asks_numbers p1_images p1_imageKept p2_manyActs p2_status p2_tapeLong p2_fault p2_winner p2_throwsOf p2_handA p2_handB p2_fewestSo p2_traced p2_now p2_kept p2_isKept p2_acts p2_was p2_lanes p2_longs p2_isThere p2_items p2_copied p2_tape p2_readSorts p2_readHands p2_inTurn p2_ends p2_bestHands p2_traces (l3 + 6)
                        else
                          some (0)))
                        else
                          o_L_law N L xs n a_p1_ways_best a_p1_ways_better p1_latestFault p1_latestFinding p1_rows_lane p1_rows_size p1_rows_items p1_tape_length p1_tape_bytes p1_reader_value p1_now_players p1_now_round p1_now_time p1_now_kind p1_now_hand p1_now_leader p1_now_course_first p1_now_course_second p1_now_course_thrown p1_trial_players p1_trial_round p1_trial_time p1_trial_kind p1_trial_hand p1_trial_leader p1_trial_course_first p1_trial_course_second p1_trial_course_thrown p1_acts_kept p1_acts_next p1_acts_halls p1_ways_groups p1_ways_group p1_ways_train p1_ways_best p1_ways_better p1_ways_course_first p1_ways_course_second p1_ways_course_thrown p1_asks_length p1_asks_numbers p1_images p1_imageKept p2_manyActs p2_status p2_tapeLong p2_fault p2_winner p2_throwsOf p2_handA p2_handB p2_fewestSo p2_traced p2_now p2_kept p2_isKept p2_acts p2_was p2_lanes p2_longs p2_isThere p2_items p2_copied p2_tape p2_readSorts p2_readHands p2_inTurn p2_ends p2_bestHands p2_traces (l3 + 6))
set_option maxHeartbeats 16000000 in
set_option maxRecDepth 100000 in
theorem z_L_law {sK sV : Nat → Nat} {E : ZE} {cI cB cZ : ClassId} (hC : ZC E 4 cL_law wsL_law RL room_1 ret (zty cI cB cZ)) (hN : ZN sK sV (zA E) (zs E)) {N : Nat} {a_scr : Nat} {L : Nat} {xs : (Nat → Int32)} {a_p1 : Nat} {a_p1_rows : Nat} {a_p1_rows_lane : Nat} {a_p1_rows_size : Nat} {a_p1_rows_items : Nat} {a_p1_tape : Nat} {a_p1_tape_bytes : Nat} {a_p1_reader : Nat} {a_p1_now : Nat} {a_p1_now_kind : Nat} {a_p1_now_hand : Nat} {a_p1_now_leader : Nat} {a_p1_now_course : Nat} {a_p1_trial : Nat} {a_p1_trial_kind : Nat} {a_p1_trial_hand : Nat} {a_p1_trial_leader : Nat} {a_p1_trial_course : Nat} {a_p1_acts : Nat} {a_p1_acts_halls : Nat} {a_p1_ways : Nat} {a_p1_ways_group : Nat} {a_p1_ways_train : Nat} {a_p1_ways_course : Nat} {a_p1_asks : Nat} {a_p1_asks_numbers : Nat} {a_p1_images : Nat} {a_p1_imageKept : Nat} {a_p2 : Nat} {a_p2_now : Nat} {a_p2_kept : Nat} {a_p2_isKept : Nat} {a_p2_acts : Nat} {a_p2_was : Nat} {a_p2_lanes : Nat} {a_p2_longs : Nat} {a_p2_isThere : Nat} {a_p2_items : Nat} {a_p2_copied : Nat} {a_p2_tape : Nat} {a_p2_readSorts : Nat} {a_p2_readHands : Nat} {a_p2_inTurn : Nat} {a_p2_ends : Nat} {a_p2_bestHands : Nat} {a_p2_traces : Nat} (hL : ZLaw E a_scr L xs) {rf : Int32} (hrf : rf = 1) : ∀ (n : Nat) (a_p1_ways_best : Nat) (a_p1_ways_better : Nat) (p1_latestFault : Int32) (p1_latestFinding : Int32) (p1_rows_lane : (Nat → Int32)) (p1_rows_size : (Nat → Int32)) (p1_rows_items : (Nat → Int32)) (p1_tape_length : Int32) (p1_tape_bytes : (Nat → Int32)) (p1_reader_token : Int32) (p1_reader_start : Int32) (p1_reader_past : Int32) (p1_reader_value : Int32) (p1_now_players : Int32) (p1_now_round : Int32) (p1_now_time : Int32) (p1_now_kind : (Nat → Int32)) (p1_now_hand : (Nat → Int32)) (p1_now_leader : (Nat → Int32)) (p1_now_course_first : Int32) (p1_now_course_second : Int32) (p1_now_course_thrown : Int32) (p1_trial_players : Int32) (p1_trial_round : Int32) (p1_trial_time : Int32) (p1_trial_kind : (Nat → Int32)) (p1_trial_hand : (Nat → Int32)) (p1_trial_leader : (Nat → Int32)) (p1_trial_course_first : Int32) (p1_trial_course_second : Int32) (p1_trial_course_thrown : Int32) (p1_acts_kept : Int32) (p1_acts_next : Int32) (p1_acts_halls : (Nat → Int32)) (p1_ways_groups : Int32) (p1_ways_group : (Nat → Int32)) (p1_ways_train : (Nat → Int32)) (p1_ways_best : (Nat → Int32)) (p1_ways_better : (Nat → Int32)) (p1_ways_course_first : Int32) (p1_ways_course_second : Int32) (p1_ways_course_thrown : Int32) (p1_asks_length : Int32) (p1_asks_numbers : (Nat → Int32)) (p1_images : (Nat → Int32)) (p1_imageKept : (Nat → Int32)) (p2_manyActs : Int32) (p2_status : Int32) (p2_tapeLong : Int32) (p2_fault : Int32) (p2_tokenAt : Int32) (p2_tokenLong : Int32) (p2_token : Int32) (p2_value : Int32) (p2_winner : Int32) (p2_throwsOf : Int32) (p2_handA : Int32) (p2_handB : Int32) (p2_fewestSo : Int32) (p2_traced : Int32) (p2_now : (Nat → Int32)) (p2_kept : (Nat → Int32)) (p2_isKept : (Nat → Int32)) (p2_acts : (Nat → Int32)) (p2_was : (Nat → Int32)) (p2_lanes : (Nat → Int32)) (p2_longs : (Nat → Int32)) (p2_isThere : (Nat → Int32)) (p2_items : (Nat → Int32)) (p2_copied : (Nat → Int32)) (p2_tape : (Nat → Int32)) (p2_readSorts : (Nat → Int32)) (p2_readHands : (Nat → Int32)) (p2_inTurn : (Nat → Int32)) (p2_ends : (Nat → Int32)) (p2_bestHands : (Nat → Int32)) (p2_traces : (Nat → Int32)) (l3 : Int32), o_L_law N L xs n a_p1_ways_best a_p1_ways_better p1_latestFault p1_latestFinding p1_rows_lane p1_rows_size p1_rows_items p1_tape_length p1_tape_bytes p1_reader_value p1_now_players p1_now_round p1_now_time p1_now_kind p1_now_hand p1_now_leader p1_now_course_first p1_now_course_second p1_now_course_thrown p1_trial_players p1_trial_round p1_trial_time p1_trial_kind p1_trial_hand p1_trial_leader p1_trial_course_first p1_trial_course_second p1_trial_course_thrown p1_acts_kept p1_acts_next p1_acts_halls p1_ways_groups p1_ways_group p1_ways_train p1_ways_best p1_ways_better p1_ways_course_first p1_ways_course_second p1_ways_course_thrown p1_asks_length p1_asks_numbers p1_images p1_imageKept p2_manyActs p2_status p2_tapeLong p2_fault p2_winner p2_throwsOf p2_handA p2_handB p2_fewestSo p2_traced p2_now p2_kept p2_isKept p2_acts p2_was p2_lanes p2_longs p2_isThere p2_items p2_copied p2_tape p2_readSorts p2_readHands p2_inTurn p2_ends p2_bestHands p2_traces l3 = some rf → Z E (48, 2857) [(0, .ref a_scr), (1, .ref a_p1), (2, .ref a_p2), (3, .int l3)] 18 [] [(a_p1, .inr (8, [.ref a_p1_rows, .ref a_p1_tape, .ref a_p1_reader, .ref a_p1_now, .ref a_p1_trial, .ref a_p1_acts, .ref a_p1_ways, .ref a_p1_asks, .ref a_p1_images, .ref a_p1_imageKept, .int p1_latestFault, .int p1_latestFinding])), (a_p1_rows, .inr (5, [.ref a_p1_rows_lane, .ref a_p1_rows_size, .ref a_p1_rows_items])), (a_p1_rows_lane, .inl (cI, 8, .inl p1_rows_lane)), (a_p1_rows_size, .inl (cI, 8, .inl p1_rows_size)), (a_p1_rows_items, .inl (cI, 320, .inl p1_rows_items)), (a_p1_tape, .inr (6, [.ref a_p1_tape_bytes, .int p1_tape_length])), (a_p1_tape_bytes, .inl (cB, 200, .inl p1_tape_bytes)), (a_p1_reader, .inr (4, [.ref a_p1_tape, .int p1_reader_token, .int p1_reader_start, .int p1_reader_past, .int p1_reader_value])), (a_p1_now, .inr (3, [.int p1_now_players, .int p1_now_round, .int p1_now_time, .ref a_p1_now_kind, .ref a_p1_now_hand, .ref a_p1_now_leader, .ref a_p1_now_course])), (a_p1_now_kind, .inl (cI, 8, .inl p1_now_kind)), (a_p1_now_hand, .inl (cI, 8, .inl p1_now_hand)), (a_p1_now_leader, .inl (cI, 8, .inl p1_now_leader)), (a_p1_now_course, .inr (2, [.int p1_now_course_first, .int p1_now_course_second, .int p1_now_course_thrown])), (a_p1_trial, .inr (3, [.int p1_trial_players, .int p1_trial_round, .int p1_trial_time, .ref a_p1_trial_kind, .ref a_p1_trial_hand, .ref a_p1_trial_leader, .ref a_p1_trial_course])), (a_p1_trial_kind, .inl (cI, 8, .inl p1_trial_kind)), (a_p1_trial_hand, .inl (cI, 8, .inl p1_trial_hand)), (a_p1_trial_leader, .inl (cI, 8, .inl p1_trial_leader)), (a_p1_trial_course, .inr (2, [.int p1_trial_course_first, .int p1_trial_course_second, .int p1_trial_course_thrown])), (a_p1_acts, .inr (0, [.ref a_p1_acts_halls, .int p1_acts_kept, .int p1_acts_next])), (a_p1_acts_halls, .inl (cI, 648, .inl p1_acts_halls)), (a_p1_ways, .inr (7, [.ref a_p1_ways_group, .ref a_p1_ways_train, .int p1_ways_groups, .ref a_p1_ways_best, .ref a_p1_ways_better, .ref a_p1_ways_course])), (a_p1_ways_group, .inl (cI, 8, .inl p1_ways_group)), (a_p1_ways_train, .inl (cI, 8, .inl p1_ways_train)), (a_p1_ways_best, .inl (cI, 24, .inl p1_ways_best)), (a_p1_ways_better, .inl (cI, 24, .inl p1_ways_better)), (a_p1_ways_course, .inr (2, [.int p1_ways_course_first, .int p1_ways_course_second, .int p1_ways_course_thrown])), (a_p1_asks, .inr (1, [.ref a_p1_asks_numbers, .int p1_asks_length])), (a_p1_asks_numbers, .inl (cI, 16, .inl p1_asks_numbers)), (a_p1_images, .inl (cI, 54, .inl p1_images)), (a_p1_imageKept, .inl (cZ, 2, .inl p1_imageKept)), (a_p2, .inr (9, [.ref a_p2_now, .ref a_p2_kept, .ref a_p2_isKept, .ref a_p2_acts, .int p2_manyActs, .ref a_p2_was, .int p2_status, .ref a_p2_lanes, .ref a_p2_longs, .ref a_p2_isThere, .ref a_p2_items, .ref a_p2_copied, .ref a_p2_tape, .int p2_tapeLong, .int p2_fault, .int p2_tokenAt, .int p2_tokenLong, .int p2_token, .int p2_value, .ref a_p2_readSorts, .ref a_p2_readHands, .int p2_winner, .int p2_throwsOf, .int p2_handA, .int p2_handB, .ref a_p2_inTurn, .ref a_p2_ends, .ref a_p2_bestHands, .int p2_fewestSo, .ref a_p2_traces, .int p2_traced])), (a_p2_now, .inl (cI, 27, .inl p2_now)), (a_p2_kept, .inl (cI, 54, .inl p2_kept)), (a_p2_isKept, .inl (cZ, 2, .inl p2_isKept)), (a_p2_acts, .inl (cI, 648, .inl p2_acts)), (a_p2_was, .inl (cI, 27, .inl p2_was)), (a_p2_lanes, .inl (cI, 8, .inl p2_lanes)), (a_p2_longs, .inl (cI, 8, .inl p2_longs)), (a_p2_isThere, .inl (cZ, 8, .inl p2_isThere)), (a_p2_items, .inl (cI, 320, .inl p2_items)), (a_p2_copied, .inl (cI, 40, .inl p2_copied)), (a_p2_tape, .inl (cI, 200, .inl p2_tape)), (a_p2_readSorts, .inl (cI, 8, .inl p2_readSorts)), (a_p2_readHands, .inl (cI, 8, .inl p2_readHands)), (a_p2_inTurn, .inl (cI, 8, .inl p2_inTurn)), (a_p2_ends, .inl (cI, 12, .inl p2_ends)), (a_p2_bestHands, .inl (cI, 8, .inl p2_bestHands)), (a_p2_traces, .inl (cI, 16, .inl p2_traces))] := by
  intro n
  induction n with
  | zero =>
    intro a_p1_ways_best a_p1_ways_better p1_latestFault p1_latestFinding p1_rows_lane p1_rows_size p1_rows_items p1_tape_length p1_tape_bytes p1_reader_token p1_reader_start p1_reader_past p1_reader_value p1_now_players p1_now_round p1_now_time p1_now_kind p1_now_hand p1_now_leader p1_now_course_first p1_now_course_second p1_now_course_thrown p1_trial_players p1_trial_round p1_trial_time p1_trial_kind p1_trial_hand p1_trial_leader p1_trial_course_first p1_trial_course_second p1_trial_course_thrown p1_acts_kept p1_acts_next p1_acts_halls p1_ways_groups p1_ways_group p1_ways_train p1_ways_best p1_ways_better p1_ways_course_first p1_ways_course_second p1_ways_course_thrown p1_asks_length p1_asks_numbers p1_images p1_imageKept p2_manyActs p2_status p2_tapeLong p2_fault p2_tokenAt p2_tokenLong p2_token p2_value p2_winner p2_throwsOf p2_handA p2_handB p2_fewestSo p2_traced p2_now p2_kept p2_isKept p2_acts p2_was p2_lanes p2_longs p2_isThere p2_items p2_copied p2_tape p2_readSorts p2_readHands p2_inTurn p2_ends p2_bestHands p2_traces l3 hR
    cases hR
  | succ n ih =>
    intro a_p1_ways_best a_p1_ways_better p1_latestFault p1_latestFinding p1_rows_lane p1_rows_size p1_rows_items p1_tape_length p1_tape_bytes p1_reader_token p1_reader_start p1_reader_past p1_reader_value p1_now_players p1_now_round p1_now_time p1_now_kind p1_now_hand p1_now_leader p1_now_course_first p1_now_course_second p1_now_course_thrown p1_trial_players p1_trial_round p1_trial_time p1_trial_kind p1_trial_hand p1_trial_leader p1_trial_course_first p1_trial_course_second p1_trial_course_thrown p1_acts_kept p1_acts_next p1_acts_halls p1_ways_groups p1_ways_group p1_ways_train p1_ways_best p1_ways_better p1_ways_course_first p1_ways_course_second p1_ways_course_thrown p1_asks_length p1_asks_numbers p1_images p1_imageKept p2_manyActs p2_status p2_tapeLong p2_fault p2_tokenAt p2_tokenLong p2_token p2_value p2_winner p2_throwsOf p2_handA p2_handB p2_fewestSo p2_traced p2_now p2_kept p2_isKept p2_acts p2_was p2_lanes p2_longs p2_isThere p2_items p2_copied p2_tape p2_readSorts p2_readHands p2_inTurn p2_ends p2_bestHands p2_traces l3 hR
    rw [o_L_law] at hR
    refine z_iload_n hC dL_law_18 rfl 3 rfl ?_
    refine z_aload_n hC dL_law_19 rfl 0 rfl ?_
    refine z_slen hC hL dL_law_20 ?_
    refine z_bipush (v := 6) hC dL_law_21 (by decide) ?_
    refine z_isub hC dL_law_23 ?_
    refine z_icmp_gt hC 1094 dL_law_24 (by decide) hR (fun hR => ?_) (fun hR => ?_)
    · refine z_ic1 hC dL_law_1094 ?_
      obtain rfl := Option.some.inj hR
      exact z_lawret hC hL dL_law_1095
    · refine z_aload_n hC dL_law_27 rfl 0 rfl ?_
      refine z_iload_n hC dL_law_28 rfl 3 rfl ?_
      refine z_sld hC hL dL_law_29 hR (fun hR => ?_)
      refine z_bipush (v := 31) hC dL_law_30 (by decide) ?_
      refine z_iand hC dL_law_32 ?_
      refine z_by hR (fun c0 hR => ?_) (fun c0 hR => ?_)
      · refine z_tin hC 0 168 c0 dL_law_33 (by decide) (by decide) rfl (by decide) ?_
        refine z_aload_n hC dL_law_168 rfl 1 rfl ?_
        refine z_aload_n hC dL_law_169 rfl 0 rfl ?_
        refine z_iload_n hC dL_law_170 rfl 3 rfl ?_
        refine z_ic1 hC dL_law_171 ?_
        refine z_iadd hC dL_law_172 ?_
        refine z_sld hC hL dL_law_173 hR (fun hR => ?_)
        refine z_aload_n hC dL_law_174 rfl 0 rfl ?_
        refine z_iload_n hC dL_law_175 rfl 3 rfl ?_
        refine z_ic2 hC dL_law_176 ?_
        refine z_iadd hC dL_law_177 ?_
        refine z_sld hC hL dL_law_178 hR (fun hR => ?_)
        refine z_aload_n hC dL_law_179 rfl 0 rfl ?_
        refine z_iload_n hC dL_law_180 rfl 3 rfl ?_
        refine z_ic3 hC dL_law_181 ?_
        refine z_iadd hC dL_law_182 ?_
        refine z_sld hC hL dL_law_183 hR (fun hR => ?_)
        refine z_callVi hC hN [.int (xs (Int32.toNatClampNeg (l3 + 1))), .int (xs (Int32.toNatClampNeg (l3 + 2))), .int (xs (Int32.toNatClampNeg (l3 + 3)))] [0, 1, 2, 3, 4] (c_X8_row (l := zl E) (D := zD E) (cI := cI) (cB := cB) (cZ := cZ) (N := N) (a_t := a_p1) (a_t_rows := a_p1_rows) (a_t_tape := a_p1_tape) (a_t_reader := a_p1_reader) (a_t_now := a_p1_now) (a_t_trial := a_p1_trial) (a_t_acts := a_p1_acts) (a_t_ways := a_p1_ways) (a_t_asks := a_p1_asks) (a_t_images := a_p1_images) (a_t_imageKept := a_p1_imageKept) (a_t_rows_lane := a_p1_rows_lane) (a_t_rows_size := a_p1_rows_size) (a_t_rows_items := a_p1_rows_items) (l1 := (xs (Int32.toNatClampNeg (l3 + 1)))) (l2 := (xs (Int32.toNatClampNeg (l3 + 2)))) (l3 := (xs (Int32.toNatClampNeg (l3 + 3)))) (t_latestFault := p1_latestFault) (t_latestFinding := p1_latestFinding) (t_rows_lane := p1_rows_lane) (t_rows_size := p1_rows_size) (t_rows_items := p1_rows_items)) rfl ⟨rfl, rfl⟩ gL_law_X8_row hvX8_row 0 8 rfl rfl rfl ⟨Nat.le_of_ble_eq_true rfl, Nat.le_of_ble_eq_true rfl⟩ ⟨Nat.le_of_ble_eq_true rfl, Nat.le_of_ble_eq_true rfl⟩ rfl (Nat.le_of_ble_eq_true rfl) rfl (by decide) (fun _ => rfl) dL_law_184 hR (fun r184 hR => ?_)
        refine z_aload_n hC dL_law_187 rfl 2 rfl ?_
        refine z_aload_n hC dL_law_188 rfl 0 rfl ?_
        refine z_iload_n hC dL_law_189 rfl 3 rfl ?_
        refine z_ic1 hC dL_law_190 ?_
        refine z_iadd hC dL_law_191 ?_
        refine z_sld hC hL dL_law_192 hR (fun hR => ?_)
        refine z_aload_n hC dL_law_193 rfl 0 rfl ?_
        refine z_iload_n hC dL_law_194 rfl 3 rfl ?_
        refine z_ic2 hC dL_law_195 ?_
        refine z_iadd hC dL_law_196 ?_
        refine z_sld hC hL dL_law_197 hR (fun hR => ?_)
        refine z_aload_n hC dL_law_198 rfl 0 rfl ?_
        refine z_iload_n hC dL_law_199 rfl 3 rfl ?_
        refine z_ic3 hC dL_law_200 ?_
        refine z_iadd hC dL_law_201 ?_
        refine z_sld hC hL dL_law_202 hR (fun hR => ?_)
        refine z_callVi hC hN [.int (xs (Int32.toNatClampNeg (l3 + 1))), .int (xs (Int32.toNatClampNeg (l3 + 2))), .int (xs (Int32.toNatClampNeg (l3 + 3)))] [30, 36, 37, 38, 39] (c_X9_row (l := zl E) (D := zD E) (cI := cI) (cB := cB) (cZ := cZ) (N := N) (a_t := a_p2) (a_t_now := a_p2_now) (a_t_kept := a_p2_kept) (a_t_isKept := a_p2_isKept) (a_t_acts := a_p2_acts) (a_t_was := a_p2_was) (a_t_lanes := a_p2_lanes) (a_t_longs := a_p2_longs) (a_t_isThere := a_p2_isThere) (a_t_items := a_p2_items) (a_t_copied := a_p2_copied) (a_t_tape := a_p2_tape) (a_t_readSorts := a_p2_readSorts) (a_t_readHands := a_p2_readHands) (a_t_inTurn := a_p2_inTurn) (a_t_ends := a_p2_ends) (a_t_bestHands := a_p2_bestHands) (a_t_traces := a_p2_traces) (l1 := (xs (Int32.toNatClampNeg (l3 + 1)))) (l2 := (xs (Int32.toNatClampNeg (l3 + 2)))) (l3 := (xs (Int32.toNatClampNeg (l3 + 3)))) (t_manyActs := p2_manyActs) (t_status := p2_status) (t_tapeLong := p2_tapeLong) (t_fault := p2_fault) (t_tokenAt := p2_tokenAt) (t_tokenLong := p2_tokenLong) (t_token := p2_token) (t_value := p2_value) (t_winner := p2_winner) (t_throwsOf := p2_throwsOf) (t_handA := p2_handA) (t_handB := p2_handB) (t_fewestSo := p2_fewestSo) (t_traced := p2_traced) (t_lanes := p2_lanes) (t_longs := p2_longs) (t_isThere := p2_isThere) (t_items := p2_items)) rfl ⟨rfl, rfl⟩ gL_law_X9_row hvX9_row 30 9 rfl rfl rfl ⟨Nat.le_of_ble_eq_true rfl, Nat.le_of_ble_eq_true rfl⟩ ⟨Nat.le_of_ble_eq_true rfl, Nat.le_of_ble_eq_true rfl⟩ rfl (Nat.le_of_ble_eq_true rfl) rfl (by decide) (fun _ => rfl) dL_law_203 hR (fun r203 hR => ?_)
        refine z_icmp_eq hC 1088 dL_law_206 (by decide) hR (fun hR => ?_) (fun hR => ?_)
        · refine z_iinc6 hC [(3, .int (l3 + 6)), (0, .ref a_scr), (1, .ref a_p1), (2, .ref a_p2)] dL_law_1088 3 rfl (by decide) rfl ?_
          refine z_goto hC 18 dL_law_1091 (by decide) ?_
          refine z_sub (lv' := [(0, .ref a_scr), (1, .ref a_p1), (2, .ref a_p2), (3, .int (l3 + 6))]) [1, 2, 3, 0] rfl ?_
          exact ih a_p1_ways_best a_p1_ways_better p1_latestFault r184.2.1 r184.2.2.1 r184.2.2.2.1 r184.2.2.2.2 p1_tape_length p1_tape_bytes p1_reader_token p1_reader_start p1_reader_past p1_reader_value p1_now_players p1_now_round p1_now_time p1_now_kind p1_now_hand p1_now_leader p1_now_course_first p1_now_course_second p1_now_course_thrown p1_trial_players p1_trial_round p1_trial_time p1_trial_kind p1_trial_hand p1_trial_leader p1_trial_course_first p1_trial_course_second p1_trial_course_thrown p1_acts_kept p1_acts_next p1_acts_halls p1_ways_groups p1_ways_group p1_ways_train p1_ways_best p1_ways_better p1_ways_course_first p1_ways_course_second p1_ways_course_thrown p1_asks_length p1_asks_numbers p1_images p1_imageKept p2_manyActs r203.2.1 p2_tapeLong p2_fault p2_tokenAt p2_tokenLong p2_token p2_value p2_winner p2_throwsOf p2_handA p2_handB p2_fewestSo p2_traced p2_now p2_kept p2_isKept p2_acts p2_was r203.2.2.1 r203.2.2.2.1 r203.2.2.2.2.1 r203.2.2.2.2.2 p2_copied p2_tape p2_readSorts p2_readHands p2_inTurn p2_ends p2_bestHands p2_traces (l3 + 6) hR
        · refine z_ic0 hC dL_law_209 ?_
          obtain rfl := Option.some.inj hR
          exact absurd hrf (by decide)
      · refine z_by hR (fun c1 hR => ?_) (fun c1 hR => ?_)
        · refine z_tin hC 1 211 c1 dL_law_33 (by decide) (by decide) rfl (by decide) ?_
          refine z_aload_n hC dL_law_211 rfl 1 rfl ?_
          refine z_aload_n hC dL_law_212 rfl 0 rfl ?_
          refine z_iload_n hC dL_law_213 rfl 3 rfl ?_
          refine z_ic1 hC dL_law_214 ?_
          refine z_iadd hC dL_law_215 ?_
          refine z_sld hC hL dL_law_216 hR (fun hR => ?_)
          refine z_aload_n hC dL_law_217 rfl 0 rfl ?_
          refine z_iload_n hC dL_law_218 rfl 3 rfl ?_
          refine z_ic2 hC dL_law_219 ?_
          refine z_iadd hC dL_law_220 ?_
          refine z_sld hC hL dL_law_221 hR (fun hR => ?_)
          refine z_aload_n hC dL_law_222 rfl 0 rfl ?_
          refine z_iload_n hC dL_law_223 rfl 3 rfl ?_
          refine z_ic3 hC dL_law_224 ?_
          refine z_iadd hC dL_law_225 ?_
          refine z_sld hC hL dL_law_226 hR (fun hR => ?_)
          refine z_callVi hC hN [.int (xs (Int32.toNatClampNeg (l3 + 1))), .int (xs (Int32.toNatClampNeg (l3 + 2))), .int (xs (Int32.toNatClampNeg (l3 + 3)))] [0, 1, 2, 3, 4] (c_X8_set (l := zl E) (D := zD E) (cI := cI) (cB := cB) (cZ := cZ) (N := N) (a_t := a_p1) (a_t_rows := a_p1_rows) (a_t_tape := a_p1_tape) (a_t_reader := a_p1_reader) (a_t_now := a_p1_now) (a_t_trial := a_p1_trial) (a_t_acts := a_p1_acts) (a_t_ways := a_p1_ways) (a_t_asks := a_p1_asks) (a_t_images := a_p1_images) (a_t_imageKept := a_p1_imageKept) (a_t_rows_lane := a_p1_rows_lane) (a_t_rows_size := a_p1_rows_size) (a_t_rows_items := a_p1_rows_items) (l1 := (xs (Int32.toNatClampNeg (l3 + 1)))) (l2 := (xs (Int32.toNatClampNeg (l3 + 2)))) (l3 := (xs (Int32.toNatClampNeg (l3 + 3)))) (t_latestFault := p1_latestFault) (t_latestFinding := p1_latestFinding) (t_rows_lane := p1_rows_lane) (t_rows_size := p1_rows_size) (t_rows_items := p1_rows_items)) rfl ⟨rfl, rfl⟩ gL_law_X8_set hvX8_set 0 8 rfl rfl rfl ⟨Nat.le_of_ble_eq_true rfl, Nat.le_of_ble_eq_true rfl⟩ ⟨Nat.le_of_ble_eq_true rfl, Nat.le_of_ble_eq_true rfl⟩ rfl (Nat.le_of_ble_eq_true rfl) rfl (by decide) (fun _ => rfl) dL_law_227 hR (fun r227 hR => ?_)
          refine z_aload_n hC dL_law_230 rfl 2 rfl ?_
          refine z_aload_n hC dL_law_231 rfl 0 rfl ?_
          refine z_iload_n hC dL_law_232 rfl 3 rfl ?_
          refine z_ic1 hC dL_law_233 ?_
          refine z_iadd hC dL_law_234 ?_
          refine z_sld hC hL dL_law_235 hR (fun hR => ?_)
          refine z_aload_n hC dL_law_236 rfl 0 rfl ?_
          refine z_iload_n hC dL_law_237 rfl 3 rfl ?_
          refine z_ic2 hC dL_law_238 ?_
          refine z_iadd hC dL_law_239 ?_
          refine z_sld hC hL dL_law_240 hR (fun hR => ?_)
          refine z_aload_n hC dL_law_241 rfl 0 rfl ?_
          refine z_iload_n hC dL_law_242 rfl 3 rfl ?_
          refine z_ic3 hC dL_law_243 ?_
          refine z_iadd hC dL_law_244 ?_
          refine z_sld hC hL dL_law_245 hR (fun hR => ?_)
          refine z_callVi hC hN [.int (xs (Int32.toNatClampNeg (l3 + 1))), .int (xs (Int32.toNatClampNeg (l3 + 2))), .int (xs (Int32.toNatClampNeg (l3 + 3)))] [30, 36, 37, 38, 39] (c_X9_set (l := zl E) (D := zD E) (cI := cI) (cB := cB) (cZ := cZ) (N := N) (a_t := a_p2) (a_t_now := a_p2_now) (a_t_kept := a_p2_kept) (a_t_isKept := a_p2_isKept) (a_t_acts := a_p2_acts) (a_t_was := a_p2_was) (a_t_lanes := a_p2_lanes) (a_t_longs := a_p2_longs) (a_t_isThere := a_p2_isThere) (a_t_items := a_p2_items) (a_t_copied := a_p2_copied) (a_t_tape := a_p2_tape) (a_t_readSorts := a_p2_readSorts) (a_t_readHands := a_p2_readHands) (a_t_inTurn := a_p2_inTurn) (a_t_ends := a_p2_ends) (a_t_bestHands := a_p2_bestHands) (a_t_traces := a_p2_traces) (l1 := (xs (Int32.toNatClampNeg (l3 + 1)))) (l2 := (xs (Int32.toNatClampNeg (l3 + 2)))) (l3 := (xs (Int32.toNatClampNeg (l3 + 3)))) (t_manyActs := p2_manyActs) (t_status := p2_status) (t_tapeLong := p2_tapeLong) (t_fault := p2_fault) (t_tokenAt := p2_tokenAt) (t_tokenLong := p2_tokenLong) (t_token := p2_token) (t_value := p2_value) (t_winner := p2_winner) (t_throwsOf := p2_throwsOf) (t_handA := p2_handA) (t_handB := p2_handB) (t_fewestSo := p2_fewestSo) (t_traced := p2_traced) (t_lanes := p2_lanes) (t_longs := p2_longs) (t_isThere := p2_isThere) (t_items := p2_items)) rfl ⟨rfl, rfl⟩ gL_law_X9_set hvX9_set 30 9 rfl rfl rfl ⟨Nat.le_of_ble_eq_true rfl, Nat.le_of_ble_eq_true rfl⟩ ⟨Nat.le_of_ble_eq_true rfl, Nat.le_of_ble_eq_true rfl⟩ rfl (Nat.le_of_ble_eq_true rfl) rfl (by decide) (fun _ => rfl) dL_law_246 hR (fun r246 hR => ?_)
          refine z_icmp_eq hC 1088 dL_law_249 (by decide) hR (fun hR => ?_) (fun hR => ?_)
          · refine z_iinc6 hC [(3, .int (l3 + 6)), (0, .ref a_scr), (1, .ref a_p1), (2, .ref a_p2)] dL_law_1088 3 rfl (by decide) rfl ?_
            refine z_goto hC 18 dL_law_1091 (by decide) ?_
            refine z_sub (lv' := [(0, .ref a_scr), (1, .ref a_p1), (2, .ref a_p2), (3, .int (l3 + 6))]) [1, 2, 3, 0] rfl ?_
            exact ih a_p1_ways_best a_p1_ways_better p1_latestFault r227.2.1 p1_rows_lane p1_rows_size r227.2.2 p1_tape_length p1_tape_bytes p1_reader_token p1_reader_start p1_reader_past p1_reader_value p1_now_players p1_now_round p1_now_time p1_now_kind p1_now_hand p1_now_leader p1_now_course_first p1_now_course_second p1_now_course_thrown p1_trial_players p1_trial_round p1_trial_time p1_trial_kind p1_trial_hand p1_trial_leader p1_trial_course_first p1_trial_course_second p1_trial_course_thrown p1_acts_kept p1_acts_next p1_acts_halls p1_ways_groups p1_ways_group p1_ways_train p1_ways_best p1_ways_better p1_ways_course_first p1_ways_course_second p1_ways_course_thrown p1_asks_length p1_asks_numbers p1_images p1_imageKept p2_manyActs r246.2.1 p2_tapeLong p2_fault p2_tokenAt p2_tokenLong p2_token p2_value p2_winner p2_throwsOf p2_handA p2_handB p2_fewestSo p2_traced p2_now p2_kept p2_isKept p2_acts p2_was p2_lanes p2_longs p2_isThere r246.2.2 p2_copied p2_tape p2_readSorts p2_readHands p2_inTurn p2_ends p2_bestHands p2_traces (l3 + 6) hR
          · refine z_ic0 hC dL_law_252 ?_
            obtain rfl := Option.some.inj hR
            exact absurd hrf (by decide)
        · refine z_by hR (fun c2 hR => ?_) (fun c2 hR => ?_)
          · refine z_tin hC 2 254 c2 dL_law_33 (by decide) (by decide) rfl (by decide) ?_
            refine z_aload_n hC dL_law_254 rfl 1 rfl ?_
            refine z_aload_n hC dL_law_255 rfl 0 rfl ?_
            refine z_iload_n hC dL_law_256 rfl 3 rfl ?_
            refine z_ic1 hC dL_law_257 ?_
            refine z_iadd hC dL_law_258 ?_
            refine z_sld hC hL dL_law_259 hR (fun hR => ?_)
            refine z_aload_n hC dL_law_260 rfl 0 rfl ?_
            refine z_iload_n hC dL_law_261 rfl 3 rfl ?_
            refine z_ic2 hC dL_law_262 ?_
            refine z_iadd hC dL_law_263 ?_
            refine z_sld hC hL dL_law_264 hR (fun hR => ?_)
            refine z_aload_n hC dL_law_265 rfl 0 rfl ?_
            refine z_iload_n hC dL_law_266 rfl 3 rfl ?_
            refine z_ic3 hC dL_law_267 ?_
            refine z_iadd hC dL_law_268 ?_
            refine z_sld hC hL dL_law_269 hR (fun hR => ?_)
            refine z_aload_n hC dL_law_270 rfl 0 rfl ?_
            refine z_iload_n hC dL_law_271 rfl 3 rfl ?_
            refine z_ic4 hC dL_law_272 ?_
            refine z_iadd hC dL_law_273 ?_
            refine z_sld hC hL dL_law_274 hR (fun hR => ?_)
            refine z_aload_n hC dL_law_275 rfl 0 rfl ?_
            refine z_iload_n hC dL_law_276 rfl 3 rfl ?_
            refine z_ic5 hC dL_law_277 ?_
            refine z_iadd hC dL_law_278 ?_
            refine z_sld hC hL dL_law_279 hR (fun hR => ?_)
            refine z_callVi hC hN [.int (xs (Int32.toNatClampNeg (l3 + 1))), .int (xs (Int32.toNatClampNeg (l3 + 2))), .int (xs (Int32.toNatClampNeg (l3 + 3))), .int (xs (Int32.toNatClampNeg (l3 + 4))), .int (xs (Int32.toNatClampNeg (l3 + 5)))] [0, 1, 2, 3, 4] (c_X8_copy (l := zl E) (D := zD E) (cI := cI) (cB := cB) (cZ := cZ) (N := N) (a_t := a_p1) (a_t_rows := a_p1_rows) (a_t_tape := a_p1_tape) (a_t_reader := a_p1_reader) (a_t_now := a_p1_now) (a_t_trial := a_p1_trial) (a_t_acts := a_p1_acts) (a_t_ways := a_p1_ways) (a_t_asks := a_p1_asks) (a_t_images := a_p1_images) (a_t_imageKept := a_p1_imageKept) (a_t_rows_lane := a_p1_rows_lane) (a_t_rows_size := a_p1_rows_size) (a_t_rows_items := a_p1_rows_items) (l1 := (xs (Int32.toNatClampNeg (l3 + 1)))) (l2 := (xs (Int32.toNatClampNeg (l3 + 2)))) (l3 := (xs (Int32.toNatClampNeg (l3 + 3)))) (l4 := (xs (Int32.toNatClampNeg (l3 + 4)))) (l5 := (xs (Int32.toNatClampNeg (l3 + 5)))) (t_latestFault := p1_latestFault) (t_latestFinding := p1_latestFinding) (t_rows_lane := p1_rows_lane) (t_rows_size := p1_rows_size) (t_rows_items := p1_rows_items)) rfl ⟨rfl, rfl⟩ gL_law_X8_copy hvX8_copy 0 8 rfl rfl rfl ⟨Nat.le_of_ble_eq_true rfl, Nat.le_of_ble_eq_true rfl⟩ ⟨Nat.le_of_ble_eq_true rfl, Nat.le_of_ble_eq_true rfl⟩ rfl (Nat.le_of_ble_eq_true rfl) rfl (by decide) (fun _ => rfl) dL_law_280 hR (fun r280 hR => ?_)
            refine z_aload_n hC dL_law_283 rfl 2 rfl ?_
            refine z_aload_n hC dL_law_284 rfl 0 rfl ?_
            refine z_iload_n hC dL_law_285 rfl 3 rfl ?_
            refine z_ic1 hC dL_law_286 ?_
            refine z_iadd hC dL_law_287 ?_
            refine z_sld hC hL dL_law_288 hR (fun hR => ?_)
            refine z_aload_n hC dL_law_289 rfl 0 rfl ?_
            refine z_iload_n hC dL_law_290 rfl 3 rfl ?_
            refine z_ic2 hC dL_law_291 ?_
            refine z_iadd hC dL_law_292 ?_
            refine z_sld hC hL dL_law_293 hR (fun hR => ?_)
            refine z_aload_n hC dL_law_294 rfl 0 rfl ?_
            refine z_iload_n hC dL_law_295 rfl 3 rfl ?_
            refine z_ic3 hC dL_law_296 ?_
            refine z_iadd hC dL_law_297 ?_
            refine z_sld hC hL dL_law_298 hR (fun hR => ?_)
            refine z_aload_n hC dL_law_299 rfl 0 rfl ?_
            refine z_iload_n hC dL_law_300 rfl 3 rfl ?_
            refine z_ic4 hC dL_law_301 ?_
            refine z_iadd hC dL_law_302 ?_
            refine z_sld hC hL dL_law_303 hR (fun hR => ?_)
            refine z_aload_n hC dL_law_304 rfl 0 rfl ?_
            refine z_iload_n hC dL_law_305 rfl 3 rfl ?_
            refine z_ic5 hC dL_law_306 ?_
            refine z_iadd hC dL_law_307 ?_
            refine z_sld hC hL dL_law_308 hR (fun hR => ?_)
            refine z_callVi hC hN [.int (xs (Int32.toNatClampNeg (l3 + 1))), .int (xs (Int32.toNatClampNeg (l3 + 2))), .int (xs (Int32.toNatClampNeg (l3 + 3))), .int (xs (Int32.toNatClampNeg (l3 + 4))), .int (xs (Int32.toNatClampNeg (l3 + 5)))] [30, 36, 37, 38, 39, 40] (c_X9_copy (l := zl E) (D := zD E) (cI := cI) (cB := cB) (cZ := cZ) (N := N) (a_t := a_p2) (a_t_now := a_p2_now) (a_t_kept := a_p2_kept) (a_t_isKept := a_p2_isKept) (a_t_acts := a_p2_acts) (a_t_was := a_p2_was) (a_t_lanes := a_p2_lanes) (a_t_longs := a_p2_longs) (a_t_isThere := a_p2_isThere) (a_t_items := a_p2_items) (a_t_copied := a_p2_copied) (a_t_tape := a_p2_tape) (a_t_readSorts := a_p2_readSorts) (a_t_readHands := a_p2_readHands) (a_t_inTurn := a_p2_inTurn) (a_t_ends := a_p2_ends) (a_t_bestHands := a_p2_bestHands) (a_t_traces := a_p2_traces) (l1 := (xs (Int32.toNatClampNeg (l3 + 1)))) (l2 := (xs (Int32.toNatClampNeg (l3 + 2)))) (l3 := (xs (Int32.toNatClampNeg (l3 + 3)))) (l4 := (xs (Int32.toNatClampNeg (l3 + 4)))) (l5 := (xs (Int32.toNatClampNeg (l3 + 5)))) (t_manyActs := p2_manyActs) (t_status := p2_status) (t_tapeLong := p2_tapeLong) (t_fault := p2_fault) (t_tokenAt := p2_tokenAt) (t_tokenLong := p2_tokenLong) (t_token := p2_token) (t_value := p2_value) (t_winner := p2_winner) (t_throwsOf := p2_throwsOf) (t_handA := p2_handA) (t_handB := p2_handB) (t_fewestSo := p2_fewestSo) (t_traced := p2_traced) (t_lanes := p2_lanes) (t_longs := p2_longs) (t_isThere := p2_isThere) (t_items := p2_items) (t_copied := p2_copied)) rfl ⟨rfl, rfl⟩ gL_law_X9_copy hvX9_copy 30 9 rfl rfl rfl ⟨Nat.le_of_ble_eq_true rfl, Nat.le_of_ble_eq_true rfl⟩ ⟨Nat.le_of_ble_eq_true rfl, Nat.le_of_ble_eq_true rfl⟩ rfl (Nat.le_of_ble_eq_true rfl) rfl (by decide) (fun _ => rfl) dL_law_309 hR (fun r309 hR => ?_)
            refine z_icmp_eq hC 1088 dL_law_312 (by decide) hR (fun hR => ?_) (fun hR => ?_)
            · refine z_iinc6 hC [(3, .int (l3 + 6)), (0, .ref a_scr), (1, .ref a_p1), (2, .ref a_p2)] dL_law_1088 3 rfl (by decide) rfl ?_
              refine z_goto hC 18 dL_law_1091 (by decide) ?_
              refine z_sub (lv' := [(0, .ref a_scr), (1, .ref a_p1), (2, .ref a_p2), (3, .int (l3 + 6))]) [1, 2, 3, 0] rfl ?_
              exact ih a_p1_ways_best a_p1_ways_better p1_latestFault r280.2.1 p1_rows_lane p1_rows_size r280.2.2 p1_tape_length p1_tape_bytes p1_reader_token p1_reader_start p1_reader_past p1_reader_value p1_now_players p1_now_round p1_now_time p1_now_kind p1_now_hand p1_now_leader p1_now_course_first p1_now_course_second p1_now_course_thrown p1_trial_players p1_trial_round p1_trial_time p1_trial_kind p1_trial_hand p1_trial_leader p1_trial_course_first p1_trial_course_second p1_trial_course_thrown p1_acts_kept p1_acts_next p1_acts_halls p1_ways_groups p1_ways_group p1_ways_train p1_ways_best p1_ways_better p1_ways_course_first p1_ways_course_second p1_ways_course_thrown p1_asks_length p1_asks_numbers p1_images p1_imageKept p2_manyActs r309.2.1 p2_tapeLong p2_fault p2_tokenAt p2_tokenLong p2_token p2_value p2_winner p2_throwsOf p2_handA p2_handB p2_fewestSo p2_traced p2_now p2_kept p2_isKept p2_acts p2_was p2_lanes p2_longs p2_isThere r309.2.2.1 r309.2.2.2 p2_tape p2_readSorts p2_readHands p2_inTurn p2_ends p2_bestHands p2_traces (l3 + 6) hR
            · refine z_ic0 hC dL_law_315 ?_
              obtain rfl := Option.some.inj hR
              exact absurd hrf (by decide)
          · refine z_by hR (fun c3 hR => ?_) (fun c3 hR => ?_)
            · refine z_tin hC 3 317 c3 dL_law_33 (by decide) (by decide) rfl (by decide) ?_
              refine z_aload_n hC dL_law_317 rfl 1 rfl ?_
              refine z_aload_n hC dL_law_318 rfl 0 rfl ?_
              refine z_iload_n hC dL_law_319 rfl 3 rfl ?_
              refine z_ic1 hC dL_law_320 ?_
              refine z_iadd hC dL_law_321 ?_
              refine z_sld hC hL dL_law_322 hR (fun hR => ?_)
              refine z_callVi hC hN [.int (xs (Int32.toNatClampNeg (l3 + 1)))] [0, 1, 2, 3] (c_X8_drop (l := zl E) (D := zD E) (cI := cI) (cB := cB) (cZ := cZ) (N := N) (a_t := a_p1) (a_t_rows := a_p1_rows) (a_t_tape := a_p1_tape) (a_t_reader := a_p1_reader) (a_t_now := a_p1_now) (a_t_trial := a_p1_trial) (a_t_acts := a_p1_acts) (a_t_ways := a_p1_ways) (a_t_asks := a_p1_asks) (a_t_images := a_p1_images) (a_t_imageKept := a_p1_imageKept) (a_t_rows_lane := a_p1_rows_lane) (a_t_rows_size := a_p1_rows_size) (a_t_rows_items := a_p1_rows_items) (l1 := (xs (Int32.toNatClampNeg (l3 + 1)))) (t_latestFault := p1_latestFault) (t_latestFinding := p1_latestFinding) (t_rows_lane := p1_rows_lane) (t_rows_size := p1_rows_size)) rfl ⟨rfl, rfl⟩ gL_law_X8_drop hvX8_drop 0 8 rfl rfl rfl ⟨Nat.le_of_ble_eq_true rfl, Nat.le_of_ble_eq_true rfl⟩ ⟨Nat.le_of_ble_eq_true rfl, Nat.le_of_ble_eq_true rfl⟩ rfl (Nat.le_of_ble_eq_true rfl) rfl (by decide) (fun _ => rfl) dL_law_323 hR (fun r323 hR => ?_)
              refine z_aload_n hC dL_law_326 rfl 2 rfl ?_
              refine z_aload_n hC dL_law_327 rfl 0 rfl ?_
              refine z_iload_n hC dL_law_328 rfl 3 rfl ?_
              refine z_ic1 hC dL_law_329 ?_
              refine z_iadd hC dL_law_330 ?_
              refine z_sld hC hL dL_law_331 hR (fun hR => ?_)
              refine z_callVi hC hN [.int (xs (Int32.toNatClampNeg (l3 + 1)))] [30, 37, 38] (c_X9_drop (l := zl E) (D := zD E) (cI := cI) (cB := cB) (cZ := cZ) (N := N) (a_t := a_p2) (a_t_now := a_p2_now) (a_t_kept := a_p2_kept) (a_t_isKept := a_p2_isKept) (a_t_acts := a_p2_acts) (a_t_was := a_p2_was) (a_t_lanes := a_p2_lanes) (a_t_longs := a_p2_longs) (a_t_isThere := a_p2_isThere) (a_t_items := a_p2_items) (a_t_copied := a_p2_copied) (a_t_tape := a_p2_tape) (a_t_readSorts := a_p2_readSorts) (a_t_readHands := a_p2_readHands) (a_t_inTurn := a_p2_inTurn) (a_t_ends := a_p2_ends) (a_t_bestHands := a_p2_bestHands) (a_t_traces := a_p2_traces) (l1 := (xs (Int32.toNatClampNeg (l3 + 1)))) (t_manyActs := p2_manyActs) (t_status := p2_status) (t_tapeLong := p2_tapeLong) (t_fault := p2_fault) (t_tokenAt := p2_tokenAt) (t_tokenLong := p2_tokenLong) (t_token := p2_token) (t_value := p2_value) (t_winner := p2_winner) (t_throwsOf := p2_throwsOf) (t_handA := p2_handA) (t_handB := p2_handB) (t_fewestSo := p2_fewestSo) (t_traced := p2_traced) (t_longs := p2_longs) (t_isThere := p2_isThere)) rfl ⟨rfl, rfl⟩ gL_law_X9_drop hvX9_drop 30 9 rfl rfl rfl ⟨Nat.le_of_ble_eq_true rfl, Nat.le_of_ble_eq_true rfl⟩ ⟨Nat.le_of_ble_eq_true rfl, Nat.le_of_ble_eq_true rfl⟩ rfl (Nat.le_of_ble_eq_true rfl) rfl (by decide) (fun _ => rfl) dL_law_332 hR (fun r332 hR => ?_)
              refine z_icmp_eq hC 1088 dL_law_335 (by decide) hR (fun hR => ?_) (fun hR => ?_)
              · refine z_iinc6 hC [(3, .int (l3 + 6)), (0, .ref a_scr), (1, .ref a_p1), (2, .ref a_p2)] dL_law_1088 3 rfl (by decide) rfl ?_
                refine z_goto hC 18 dL_law_1091 (by decide) ?_
                refine z_sub (lv' := [(0, .ref a_scr), (1, .ref a_p1), (2, .ref a_p2), (3, .int (l3 + 6))]) [1, 2, 3, 0] rfl ?_
                exact ih a_p1_ways_best a_p1_ways_better p1_latestFault r323.2.1 r323.2.2.1 r323.2.2.2 p1_rows_items p1_tape_length p1_tape_bytes p1_reader_token p1_reader_start p1_reader_past p1_reader_value p1_now_players p1_now_round p1_now_time p1_now_kind p1_now_hand p1_now_leader p1_now_course_first p1_now_course_second p1_now_course_thrown p1_trial_players p1_trial_round p1_trial_time p1_trial_kind p1_trial_hand p1_trial_leader p1_trial_course_first p1_trial_course_second p1_trial_course_thrown p1_acts_kept p1_acts_next p1_acts_halls p1_ways_groups p1_ways_group p1_ways_train p1_ways_best p1_ways_better p1_ways_course_first p1_ways_course_second p1_ways_course_thrown p1_asks_length p1_asks_numbers p1_images p1_imageKept p2_manyActs r332.2.1 p2_tapeLong p2_fault p2_tokenAt p2_tokenLong p2_token p2_value p2_winner p2_throwsOf p2_handA p2_handB p2_fewestSo p2_traced p2_now p2_kept p2_isKept p2_acts p2_was p2_lanes p2_longs r332.2.2 p2_items p2_copied p2_tape p2_readSorts p2_readHands p2_inTurn p2_ends p2_bestHands p2_traces (l3 + 6) hR
              · refine z_ic0 hC dL_law_338 ?_
                obtain rfl := Option.some.inj hR
                exact absurd hrf (by decide)
            · refine z_by hR (fun c4 hR => ?_) (fun c4 hR => ?_)
              · refine z_tin hC 4 340 c4 dL_law_33 (by decide) (by decide) rfl (by decide) ?_
                refine z_aload_n hC dL_law_340 rfl 1 rfl ?_
                refine z_aload_n hC dL_law_341 rfl 0 rfl ?_
                refine z_iload_n hC dL_law_342 rfl 3 rfl ?_
                refine z_ic1 hC dL_law_343 ?_
                refine z_iadd hC dL_law_344 ?_
                refine z_sld hC hL dL_law_345 hR (fun hR => ?_)
                refine z_i2l hC dL_law_346 ?_
                refine z_bipush (v := 32) hC dL_law_347 (by decide) ?_
                refine z_lshl hC dL_law_349 ?_
                refine z_aload_n hC dL_law_350 rfl 0 rfl ?_
                refine z_iload_n hC dL_law_351 rfl 3 rfl ?_
                refine z_ic2 hC dL_law_352 ?_
                refine z_iadd hC dL_law_353 ?_
                refine z_sld hC hL dL_law_354 hR (fun hR => ?_)
                refine z_i2l hC dL_law_355 ?_
                refine z_ldc2 hC 4294967295 mL_law_6 dL_law_356 ?_
                refine z_land hC dL_law_359 ?_
                refine z_lor hC dL_law_360 ?_
                refine z_aload_n hC dL_law_361 rfl 0 rfl ?_
                refine z_iload_n hC dL_law_362 rfl 3 rfl ?_
                refine z_ic3 hC dL_law_363 ?_
                refine z_iadd hC dL_law_364 ?_
                refine z_sld hC hL dL_law_365 hR (fun hR => ?_)
                refine z_callVi hC hN [.long (((Int32.toInt64 (xs (Int32.toNatClampNeg (l3 + 1)))) <<< (Int32.toInt64 32 &&& 63)) ||| ((Int32.toInt64 (xs (Int32.toNatClampNeg (l3 + 2)))) &&& 4294967295)), .int (xs (Int32.toNatClampNeg (l3 + 3)))] [0, 5, 6] (c_X8_feed (l := zl E) (D := zD E) (cI := cI) (cB := cB) (cZ := cZ) (N := N) (a_t := a_p1) (a_t_rows := a_p1_rows) (a_t_tape := a_p1_tape) (a_t_reader := a_p1_reader) (a_t_now := a_p1_now) (a_t_trial := a_p1_trial) (a_t_acts := a_p1_acts) (a_t_ways := a_p1_ways) (a_t_asks := a_p1_asks) (a_t_images := a_p1_images) (a_t_imageKept := a_p1_imageKept) (a_t_tape_bytes := a_p1_tape_bytes) (L1 := (((Int32.toInt64 (xs (Int32.toNatClampNeg (l3 + 1)))) <<< (Int32.toInt64 32 &&& 63)) ||| ((Int32.toInt64 (xs (Int32.toNatClampNeg (l3 + 2)))) &&& 4294967295))) (l3 := (xs (Int32.toNatClampNeg (l3 + 3)))) (t_latestFault := p1_latestFault) (t_latestFinding := p1_latestFinding) (t_tape_length := p1_tape_length) (t_tape_bytes := p1_tape_bytes)) rfl ⟨rfl, rfl⟩ gL_law_X8_feed hvX8_feed 0 8 rfl rfl rfl ⟨Nat.le_of_ble_eq_true rfl, Nat.le_of_ble_eq_true rfl⟩ ⟨Nat.le_of_ble_eq_true rfl, Nat.le_of_ble_eq_true rfl⟩ rfl (Nat.le_of_ble_eq_true rfl) rfl (by decide) (fun _ => rfl) dL_law_366 hR (fun r366 hR => ?_)
                refine z_aload_n hC dL_law_369 rfl 2 rfl ?_
                refine z_aload_n hC dL_law_370 rfl 0 rfl ?_
                refine z_iload_n hC dL_law_371 rfl 3 rfl ?_
                refine z_ic1 hC dL_law_372 ?_
                refine z_iadd hC dL_law_373 ?_
                refine z_sld hC hL dL_law_374 hR (fun hR => ?_)
                refine z_i2l hC dL_law_375 ?_
                refine z_bipush (v := 32) hC dL_law_376 (by decide) ?_
                refine z_lshl hC dL_law_378 ?_
                refine z_aload_n hC dL_law_379 rfl 0 rfl ?_
                refine z_iload_n hC dL_law_380 rfl 3 rfl ?_
                refine z_ic2 hC dL_law_381 ?_
                refine z_iadd hC dL_law_382 ?_
                refine z_sld hC hL dL_law_383 hR (fun hR => ?_)
                refine z_i2l hC dL_law_384 ?_
                refine z_ldc2 hC 4294967295 mL_law_6 dL_law_385 ?_
                refine z_land hC dL_law_388 ?_
                refine z_lor hC dL_law_389 ?_
                refine z_aload_n hC dL_law_390 rfl 0 rfl ?_
                refine z_iload_n hC dL_law_391 rfl 3 rfl ?_
                refine z_ic3 hC dL_law_392 ?_
                refine z_iadd hC dL_law_393 ?_
                refine z_sld hC hL dL_law_394 hR (fun hR => ?_)
                refine z_callVi hC hN [.long (((Int32.toInt64 (xs (Int32.toNatClampNeg (l3 + 1)))) <<< (Int32.toInt64 32 &&& 63)) ||| ((Int32.toInt64 (xs (Int32.toNatClampNeg (l3 + 2)))) &&& 4294967295)), .int (xs (Int32.toNatClampNeg (l3 + 3)))] [30, 41] (c_X9_feed (l := zl E) (D := zD E) (cI := cI) (cB := cB) (cZ := cZ) (N := N) (a_t := a_p2) (a_t_now := a_p2_now) (a_t_kept := a_p2_kept) (a_t_isKept := a_p2_isKept) (a_t_acts := a_p2_acts) (a_t_was := a_p2_was) (a_t_lanes := a_p2_lanes) (a_t_longs := a_p2_longs) (a_t_isThere := a_p2_isThere) (a_t_items := a_p2_items) (a_t_copied := a_p2_copied) (a_t_tape := a_p2_tape) (a_t_readSorts := a_p2_readSorts) (a_t_readHands := a_p2_readHands) (a_t_inTurn := a_p2_inTurn) (a_t_ends := a_p2_ends) (a_t_bestHands := a_p2_bestHands) (a_t_traces := a_p2_traces) (L1 := (((Int32.toInt64 (xs (Int32.toNatClampNeg (l3 + 1)))) <<< (Int32.toInt64 32 &&& 63)) ||| ((Int32.toInt64 (xs (Int32.toNatClampNeg (l3 + 2)))) &&& 4294967295))) (l3 := (xs (Int32.toNatClampNeg (l3 + 3)))) (t_manyActs := p2_manyActs) (t_status := p2_status) (t_tapeLong := p2_tapeLong) (t_fault := p2_fault) (t_tokenAt := p2_tokenAt) (t_tokenLong := p2_tokenLong) (t_token := p2_token) (t_value := p2_value) (t_winner := p2_winner) (t_throwsOf := p2_throwsOf) (t_handA := p2_handA) (t_handB := p2_handB) (t_fewestSo := p2_fewestSo) (t_traced := p2_traced) (t_tape := p2_tape)) rfl ⟨rfl, rfl⟩ gL_law_X9_feed hvX9_feed 30 9 rfl rfl rfl ⟨Nat.le_of_ble_eq_true rfl, Nat.le_of_ble_eq_true rfl⟩ ⟨Nat.le_of_ble_eq_true rfl, Nat.le_of_ble_eq_true rfl⟩ rfl (Nat.le_of_ble_eq_true rfl) rfl (by decide) (fun _ => rfl) dL_law_395 hR (fun r395 hR => ?_)
                refine z_icmp_eq hC 1088 dL_law_398 (by decide) hR (fun hR => ?_) (fun hR => ?_)
                · refine z_iinc6 hC [(3, .int (l3 + 6)), (0, .ref a_scr), (1, .ref a_p1), (2, .ref a_p2)] dL_law_1088 3 rfl (by decide) rfl ?_
                  refine z_goto hC 18 dL_law_1091 (by decide) ?_
                  refine z_sub (lv' := [(0, .ref a_scr), (1, .ref a_p1), (2, .ref a_p2), (3, .int (l3 + 6))]) [1, 2, 3, 0] rfl ?_
                  exact ih a_p1_ways_best a_p1_ways_better p1_latestFault p1_latestFinding p1_rows_lane p1_rows_size p1_rows_items r366.2.1 r366.2.2 p1_reader_token p1_reader_start p1_reader_past p1_reader_value p1_now_players p1_now_round p1_now_time p1_now_kind p1_now_hand p1_now_leader p1_now_course_first p1_now_course_second p1_now_course_thrown p1_trial_players p1_trial_round p1_trial_time p1_trial_kind p1_trial_hand p1_trial_leader p1_trial_course_first p1_trial_course_second p1_trial_course_thrown p1_acts_kept p1_acts_next p1_acts_halls p1_ways_groups p1_ways_group p1_ways_train p1_ways_best p1_ways_better p1_ways_course_first p1_ways_course_second p1_ways_course_thrown p1_asks_length p1_asks_numbers p1_images p1_imageKept p2_manyActs p2_status r395.2.1 p2_fault p2_tokenAt p2_tokenLong p2_token p2_value p2_winner p2_throwsOf p2_handA p2_handB p2_fewestSo p2_traced p2_now p2_kept p2_isKept p2_acts p2_was p2_lanes p2_longs p2_isThere p2_items p2_copied r395.2.2 p2_readSorts p2_readHands p2_inTurn p2_ends p2_bestHands p2_traces (l3 + 6) hR
                · refine z_ic0 hC dL_law_401 ?_
                  obtain rfl := Option.some.inj hR
                  exact absurd hrf (by decide)
              · refine z_by hR (fun c5 hR => ?_) (fun c5 hR => ?_)
                · refine z_tin hC 5 403 c5 dL_law_33 (by decide) (by decide) rfl (by decide) ?_
                  refine z_aload_n hC dL_law_403 rfl 1 rfl ?_
                  refine z_callVi hC hN [] [0, 5, 6, 7, 8, 9, 10, 11, 13, 14, 15, 16, 18] (c_X8_hall (l := zl E) (D := zD E) (cI := cI) (cB := cB) (cZ := cZ) (N := N) (a_t := a_p1) (a_t_rows := a_p1_rows) (a_t_tape := a_p1_tape) (a_t_reader := a_p1_reader) (a_t_now := a_p1_now) (a_t_trial := a_p1_trial) (a_t_acts := a_p1_acts) (a_t_ways := a_p1_ways) (a_t_asks := a_p1_asks) (a_t_images := a_p1_images) (a_t_imageKept := a_p1_imageKept) (a_t_tape_bytes := a_p1_tape_bytes) (a_t_now_kind := a_p1_now_kind) (a_t_now_hand := a_p1_now_hand) (a_t_now_leader := a_p1_now_leader) (a_t_now_course := a_p1_now_course) (a_t_trial_kind := a_p1_trial_kind) (a_t_trial_hand := a_p1_trial_hand) (a_t_trial_leader := a_p1_trial_leader) (a_t_trial_course := a_p1_trial_course) (a_t_acts_halls := a_p1_acts_halls) (t_latestFault := p1_latestFault) (t_latestFinding := p1_latestFinding) (t_tape_length := p1_tape_length) (t_tape_bytes := p1_tape_bytes) (t_reader_token := p1_reader_token) (t_reader_start := p1_reader_start) (t_reader_past := p1_reader_past) (t_reader_value := p1_reader_value) (t_now_players := p1_now_players) (t_now_round := p1_now_round) (t_now_time := p1_now_time) (t_now_kind := p1_now_kind) (t_now_hand := p1_now_hand) (t_now_leader := p1_now_leader) (t_trial_players := p1_trial_players) (t_trial_round := p1_trial_round) (t_trial_time := p1_trial_time) (t_trial_kind := p1_trial_kind) (t_trial_hand := p1_trial_hand) (t_trial_leader := p1_trial_leader) (t_acts_kept := p1_acts_kept) (t_acts_next := p1_acts_next)) rfl ⟨rfl, rfl⟩ gL_law_X8_hall hvX8_hall 0 8 rfl rfl rfl ⟨Nat.le_of_ble_eq_true rfl, Nat.le_of_ble_eq_true rfl⟩ ⟨Nat.le_of_ble_eq_true rfl, Nat.le_of_ble_eq_true rfl⟩ rfl (Nat.le_of_ble_eq_true rfl) rfl (by decide) (fun _ => rfl) dL_law_404 hR (fun r404 hR => ?_)
                  refine z_aload_n hC dL_law_407 rfl 2 rfl ?_
                  refine z_callVi hC hN [] [30, 31, 41, 42, 43] (c_X9_hall (l := zl E) (D := zD E) (cI := cI) (cB := cB) (cZ := cZ) (N := N) (a_t := a_p2) (a_t_now := a_p2_now) (a_t_kept := a_p2_kept) (a_t_isKept := a_p2_isKept) (a_t_acts := a_p2_acts) (a_t_was := a_p2_was) (a_t_lanes := a_p2_lanes) (a_t_longs := a_p2_longs) (a_t_isThere := a_p2_isThere) (a_t_items := a_p2_items) (a_t_copied := a_p2_copied) (a_t_tape := a_p2_tape) (a_t_readSorts := a_p2_readSorts) (a_t_readHands := a_p2_readHands) (a_t_inTurn := a_p2_inTurn) (a_t_ends := a_p2_ends) (a_t_bestHands := a_p2_bestHands) (a_t_traces := a_p2_traces) (t_manyActs := p2_manyActs) (t_status := p2_status) (t_tapeLong := p2_tapeLong) (t_fault := p2_fault) (t_tokenAt := p2_tokenAt) (t_tokenLong := p2_tokenLong) (t_token := p2_token) (t_value := p2_value) (t_winner := p2_winner) (t_throwsOf := p2_throwsOf) (t_handA := p2_handA) (t_handB := p2_handB) (t_fewestSo := p2_fewestSo) (t_traced := p2_traced) (t_now := p2_now) (t_tape := p2_tape) (t_readSorts := p2_readSorts) (t_readHands := p2_readHands)) rfl ⟨rfl, rfl⟩ gL_law_X9_hall hvX9_hall 30 9 rfl rfl rfl ⟨Nat.le_of_ble_eq_true rfl, Nat.le_of_ble_eq_true rfl⟩ ⟨Nat.le_of_ble_eq_true rfl, Nat.le_of_ble_eq_true rfl⟩ rfl (Nat.le_of_ble_eq_true rfl) rfl (by decide) (fun _ => rfl) dL_law_408 hR (fun r408 hR => ?_)
                  refine z_icmp_eq hC 1088 dL_law_411 (by decide) hR (fun hR => ?_) (fun hR => ?_)
                  · refine z_iinc6 hC [(3, .int (l3 + 6)), (0, .ref a_scr), (1, .ref a_p1), (2, .ref a_p2)] dL_law_1088 3 rfl (by decide) rfl ?_
                    refine z_goto hC 18 dL_law_1091 (by decide) ?_
                    refine z_sub (lv' := [(0, .ref a_scr), (1, .ref a_p1), (2, .ref a_p2), (3, .int (l3 + 6))]) [1, 2, 3, 0] rfl ?_
                    exact ih a_p1_ways_best a_p1_ways_better r404.2.1 p1_latestFinding p1_rows_lane p1_rows_size p1_rows_items r404.2.2.1 p1_tape_bytes r404.2.2.2.1 r404.2.2.2.2.1 r404.2.2.2.2.2.1 r404.2.2.2.2.2.2.1 r404.2.2.2.2.2.2.2.1 r404.2.2.2.2.2.2.2.2.1 r404.2.2.2.2.2.2.2.2.2.1 r404.2.2.2.2.2.2.2.2.2.2.1 r404.2.2.2.2.2.2.2.2.2.2.2.1 r404.2.2.2.2.2.2.2.2.2.2.2.2.1 p1_now_course_first p1_now_course_second p1_now_course_thrown r404.2.2.2.2.2.2.2.2.2.2.2.2.2.1 r404.2.2.2.2.2.2.2.2.2.2.2.2.2.2.1 r404.2.2.2.2.2.2.2.2.2.2.2.2.2.2.2.1 r404.2.2.2.2.2.2.2.2.2.2.2.2.2.2.2.2.1 r404.2.2.2.2.2.2.2.2.2.2.2.2.2.2.2.2.2.1 r404.2.2.2.2.2.2.2.2.2.2.2.2.2.2.2.2.2.2.1 p1_trial_course_first p1_trial_course_second p1_trial_course_thrown r404.2.2.2.2.2.2.2.2.2.2.2.2.2.2.2.2.2.2.2 p1_acts_next p1_acts_halls p1_ways_groups p1_ways_group p1_ways_train p1_ways_best p1_ways_better p1_ways_course_first p1_ways_course_second p1_ways_course_thrown p1_asks_length p1_asks_numbers p1_images p1_imageKept r408.2.1 p2_status r408.2.2.1 r408.2.2.2.1 r408.2.2.2.2.1 r408.2.2.2.2.2.1 r408.2.2.2.2.2.2.1 r408.2.2.2.2.2.2.2.1 p2_winner p2_throwsOf p2_handA p2_handB p2_fewestSo p2_traced r408.2.2.2.2.2.2.2.2.1 p2_kept p2_isKept p2_acts p2_was p2_lanes p2_longs p2_isThere p2_items p2_copied p2_tape r408.2.2.2.2.2.2.2.2.2.1 r408.2.2.2.2.2.2.2.2.2.2 p2_inTurn p2_ends p2_bestHands p2_traces (l3 + 6) hR
                  · refine z_ic0 hC dL_law_414 ?_
                    obtain rfl := Option.some.inj hR
                    exact absurd hrf (by decide)
                · refine z_by hR (fun c6 hR => ?_) (fun c6 hR => ?_)
                  · refine z_tin hC 6 416 c6 dL_law_33 (by decide) (by decide) rfl (by decide) ?_
                    refine z_aload_n hC dL_law_416 rfl 1 rfl ?_
                    refine z_callVi_p hC hN [] [0] (c_X8_fault (l := zl E) (D := zD E) (cI := cI) (cB := cB) (cZ := cZ) (N := N) (a_t := a_p1) (a_t_rows := a_p1_rows) (a_t_tape := a_p1_tape) (a_t_reader := a_p1_reader) (a_t_now := a_p1_now) (a_t_trial := a_p1_trial) (a_t_acts := a_p1_acts) (a_t_ways := a_p1_ways) (a_t_asks := a_p1_asks) (a_t_images := a_p1_images) (a_t_imageKept := a_p1_imageKept) (t_latestFault := p1_latestFault) (t_latestFinding := p1_latestFinding)) rfl ⟨rfl, rfl⟩ gL_law_X8_fault hvX8_fault 0 8 rfl rfl rfl ⟨Nat.le_of_ble_eq_true rfl, Nat.le_of_ble_eq_true rfl⟩ ⟨Nat.le_of_ble_eq_true rfl, Nat.le_of_ble_eq_true rfl⟩ rfl (Nat.le_of_ble_eq_true rfl) rfl (by decide) dL_law_417 hR (fun r417 hR => ?_)
                    refine z_aload_n hC dL_law_420 rfl 2 rfl ?_
                    refine z_callVi_p hC hN [] [30] (c_X9_fault (l := zl E) (D := zD E) (cI := cI) (cB := cB) (cZ := cZ) (N := N) (a_t := a_p2) (a_t_now := a_p2_now) (a_t_kept := a_p2_kept) (a_t_isKept := a_p2_isKept) (a_t_acts := a_p2_acts) (a_t_was := a_p2_was) (a_t_lanes := a_p2_lanes) (a_t_longs := a_p2_longs) (a_t_isThere := a_p2_isThere) (a_t_items := a_p2_items) (a_t_copied := a_p2_copied) (a_t_tape := a_p2_tape) (a_t_readSorts := a_p2_readSorts) (a_t_readHands := a_p2_readHands) (a_t_inTurn := a_p2_inTurn) (a_t_ends := a_p2_ends) (a_t_bestHands := a_p2_bestHands) (a_t_traces := a_p2_traces) (t_manyActs := p2_manyActs) (t_status := p2_status) (t_tapeLong := p2_tapeLong) (t_fault := p2_fault) (t_tokenAt := p2_tokenAt) (t_tokenLong := p2_tokenLong) (t_token := p2_token) (t_value := p2_value) (t_winner := p2_winner) (t_throwsOf := p2_throwsOf) (t_handA := p2_handA) (t_handB := p2_handB) (t_fewestSo := p2_fewestSo) (t_traced := p2_traced)) rfl ⟨rfl, rfl⟩ gL_law_X9_fault hvX9_fault 30 9 rfl rfl rfl ⟨Nat.le_of_ble_eq_true rfl, Nat.le_of_ble_eq_true rfl⟩ ⟨Nat.le_of_ble_eq_true rfl, Nat.le_of_ble_eq_true rfl⟩ rfl (Nat.le_of_ble_eq_true rfl) rfl (by decide) dL_law_421 hR (fun r421 hR => ?_)
                    refine z_icmp_eq hC 1088 dL_law_424 (by decide) hR (fun hR => ?_) (fun hR => ?_)
                    · refine z_iinc6 hC [(3, .int (l3 + 6)), (0, .ref a_scr), (1, .ref a_p1), (2, .ref a_p2)] dL_law_1088 3 rfl (by decide) rfl ?_
                      refine z_goto hC 18 dL_law_1091 (by decide) ?_
                      refine z_sub (lv' := [(0, .ref a_scr), (1, .ref a_p1), (2, .ref a_p2), (3, .int (l3 + 6))]) [1, 2, 3, 0] rfl ?_
                      exact ih a_p1_ways_best a_p1_ways_better p1_latestFault p1_latestFinding p1_rows_lane p1_rows_size p1_rows_items p1_tape_length p1_tape_bytes p1_reader_token p1_reader_start p1_reader_past p1_reader_value p1_now_players p1_now_round p1_now_time p1_now_kind p1_now_hand p1_now_leader p1_now_course_first p1_now_course_second p1_now_course_thrown p1_trial_players p1_trial_round p1_trial_time p1_trial_kind p1_trial_hand p1_trial_leader p1_trial_course_first p1_trial_course_second p1_trial_course_thrown p1_acts_kept p1_acts_next p1_acts_halls p1_ways_groups p1_ways_group p1_ways_train p1_ways_best p1_ways_better p1_ways_course_first p1_ways_course_second p1_ways_course_thrown p1_asks_length p1_asks_numbers p1_images p1_imageKept p2_manyActs p2_status p2_tapeLong p2_fault p2_tokenAt p2_tokenLong p2_token p2_value p2_winner p2_throwsOf p2_handA p2_handB p2_fewestSo p2_traced p2_now p2_kept p2_isKept p2_acts p2_was p2_lanes p2_longs p2_isThere p2_items p2_copied p2_tape p2_readSorts p2_readHands p2_inTurn p2_ends p2_bestHands p2_traces (l3 + 6) hR
                    · refine z_ic0 hC dL_law_427 ?_
                      obtain rfl := Option.some.inj hR
                      exact absurd hrf (by decide)
                  · refine z_by hR (fun c7 hR => ?_) (fun c7 hR => ?_)
                    · refine z_tin hC 7 429 c7 dL_law_33 (by decide) (by decide) rfl (by decide) ?_
                      refine z_aload_n hC dL_law_429 rfl 1 rfl ?_
                      refine z_aload_n hC dL_law_430 rfl 0 rfl ?_
                      refine z_iload_n hC dL_law_431 rfl 3 rfl ?_
                      refine z_ic1 hC dL_law_432 ?_
                      refine z_iadd hC dL_law_433 ?_
                      refine z_sld hC hL dL_law_434 hR (fun hR => ?_)
                      refine z_aload_n hC dL_law_435 rfl 0 rfl ?_
                      refine z_iload_n hC dL_law_436 rfl 3 rfl ?_
                      refine z_ic2 hC dL_law_437 ?_
                      refine z_iadd hC dL_law_438 ?_
                      refine z_sld hC hL dL_law_439 hR (fun hR => ?_)
                      refine z_callVi hC hN [.int (xs (Int32.toNatClampNeg (l3 + 1))), .int (xs (Int32.toNatClampNeg (l3 + 2)))] [0, 8, 9, 10, 11, 12, 18, 19] (c_X8_bout (l := zl E) (D := zD E) (cI := cI) (cB := cB) (cZ := cZ) (N := N) (a_t := a_p1) (a_t_rows := a_p1_rows) (a_t_tape := a_p1_tape) (a_t_reader := a_p1_reader) (a_t_now := a_p1_now) (a_t_trial := a_p1_trial) (a_t_acts := a_p1_acts) (a_t_ways := a_p1_ways) (a_t_asks := a_p1_asks) (a_t_images := a_p1_images) (a_t_imageKept := a_p1_imageKept) (a_t_now_kind := a_p1_now_kind) (a_t_now_hand := a_p1_now_hand) (a_t_now_leader := a_p1_now_leader) (a_t_now_course := a_p1_now_course) (a_t_acts_halls := a_p1_acts_halls) (l1 := (xs (Int32.toNatClampNeg (l3 + 1)))) (l2 := (xs (Int32.toNatClampNeg (l3 + 2)))) (t_latestFault := p1_latestFault) (t_latestFinding := p1_latestFinding) (t_now_players := p1_now_players) (t_now_round := p1_now_round) (t_now_time := p1_now_time) (t_now_kind := p1_now_kind) (t_now_hand := p1_now_hand) (t_now_leader := p1_now_leader) (t_now_course_first := p1_now_course_first) (t_now_course_second := p1_now_course_second) (t_now_course_thrown := p1_now_course_thrown) (t_acts_kept := p1_acts_kept) (t_acts_next := p1_acts_next) (t_acts_halls := p1_acts_halls)) rfl ⟨rfl, rfl⟩ gL_law_X8_bout hvX8_bout 0 8 rfl rfl rfl ⟨Nat.le_of_ble_eq_true rfl, Nat.le_of_ble_eq_true rfl⟩ ⟨Nat.le_of_ble_eq_true rfl, Nat.le_of_ble_eq_true rfl⟩ rfl (Nat.le_of_ble_eq_true rfl) rfl (by decide) (fun _ => rfl) dL_law_440 hR (fun r440 hR => ?_)
                      refine z_aload_n hC dL_law_443 rfl 2 rfl ?_
                      refine z_aload_n hC dL_law_444 rfl 0 rfl ?_
                      refine z_iload_n hC dL_law_445 rfl 3 rfl ?_
                      refine z_ic1 hC dL_law_446 ?_
                      refine z_iadd hC dL_law_447 ?_
                      refine z_sld hC hL dL_law_448 hR (fun hR => ?_)
                      refine z_aload_n hC dL_law_449 rfl 0 rfl ?_
                      refine z_iload_n hC dL_law_450 rfl 3 rfl ?_
                      refine z_ic2 hC dL_law_451 ?_
                      refine z_iadd hC dL_law_452 ?_
                      refine z_sld hC hL dL_law_453 hR (fun hR => ?_)
                      refine z_callVi hC hN [.int (xs (Int32.toNatClampNeg (l3 + 1))), .int (xs (Int32.toNatClampNeg (l3 + 2)))] [30, 31, 34] (c_X9_bout (l := zl E) (D := zD E) (cI := cI) (cB := cB) (cZ := cZ) (N := N) (a_t := a_p2) (a_t_now := a_p2_now) (a_t_kept := a_p2_kept) (a_t_isKept := a_p2_isKept) (a_t_acts := a_p2_acts) (a_t_was := a_p2_was) (a_t_lanes := a_p2_lanes) (a_t_longs := a_p2_longs) (a_t_isThere := a_p2_isThere) (a_t_items := a_p2_items) (a_t_copied := a_p2_copied) (a_t_tape := a_p2_tape) (a_t_readSorts := a_p2_readSorts) (a_t_readHands := a_p2_readHands) (a_t_inTurn := a_p2_inTurn) (a_t_ends := a_p2_ends) (a_t_bestHands := a_p2_bestHands) (a_t_traces := a_p2_traces) (l1 := (xs (Int32.toNatClampNeg (l3 + 1)))) (l2 := (xs (Int32.toNatClampNeg (l3 + 2)))) (t_manyActs := p2_manyActs) (t_status := p2_status) (t_tapeLong := p2_tapeLong) (t_fault := p2_fault) (t_tokenAt := p2_tokenAt) (t_tokenLong := p2_tokenLong) (t_token := p2_token) (t_value := p2_value) (t_winner := p2_winner) (t_throwsOf := p2_throwsOf) (t_handA := p2_handA) (t_handB := p2_handB) (t_fewestSo := p2_fewestSo) (t_traced := p2_traced) (t_now := p2_now) (t_acts := p2_acts)) rfl ⟨rfl, rfl⟩ gL_law_X9_bout hvX9_bout 30 9 rfl rfl rfl ⟨Nat.le_of_ble_eq_true rfl, Nat.le_of_ble_eq_true rfl⟩ ⟨Nat.le_of_ble_eq_true rfl, Nat.le_of_ble_eq_true rfl⟩ rfl (Nat.le_of_ble_eq_true rfl) rfl (by decide) (fun _ => rfl) dL_law_454 hR (fun r454 hR => ?_)
                      refine z_icmp_eq hC 1088 dL_law_457 (by decide) hR (fun hR => ?_) (fun hR => ?_)
                      · refine z_iinc6 hC [(3, .int (l3 + 6)), (0, .ref a_scr), (1, .ref a_p1), (2, .ref a_p2)] dL_law_1088 3 rfl (by decide) rfl ?_
                        refine z_goto hC 18 dL_law_1091 (by decide) ?_
                        refine z_sub (lv' := [(0, .ref a_scr), (1, .ref a_p1), (2, .ref a_p2), (3, .int (l3 + 6))]) [1, 2, 3, 0] rfl ?_
                        exact ih a_p1_ways_best a_p1_ways_better p1_latestFault p1_latestFinding p1_rows_lane p1_rows_size p1_rows_items p1_tape_length p1_tape_bytes p1_reader_token p1_reader_start p1_reader_past p1_reader_value p1_now_players p1_now_round r440.2.1 p1_now_kind r440.2.2.1 r440.2.2.2.1 r440.2.2.2.2.1 r440.2.2.2.2.2.1 r440.2.2.2.2.2.2.1 p1_trial_players p1_trial_round p1_trial_time p1_trial_kind p1_trial_hand p1_trial_leader p1_trial_course_first p1_trial_course_second p1_trial_course_thrown r440.2.2.2.2.2.2.2.1 r440.2.2.2.2.2.2.2.2.1 r440.2.2.2.2.2.2.2.2.2 p1_ways_groups p1_ways_group p1_ways_train p1_ways_best p1_ways_better p1_ways_course_first p1_ways_course_second p1_ways_course_thrown p1_asks_length p1_asks_numbers p1_images p1_imageKept r454.2.1 p2_status p2_tapeLong p2_fault p2_tokenAt p2_tokenLong p2_token p2_value r454.2.2.1 r454.2.2.2.1 r454.2.2.2.2.1 r454.2.2.2.2.2.1 p2_fewestSo p2_traced r454.2.2.2.2.2.2.1 p2_kept p2_isKept r454.2.2.2.2.2.2.2 p2_was p2_lanes p2_longs p2_isThere p2_items p2_copied p2_tape p2_readSorts p2_readHands p2_inTurn p2_ends p2_bestHands p2_traces (l3 + 6) hR
                      · refine z_ic0 hC dL_law_460 ?_
                        obtain rfl := Option.some.inj hR
                        exact absurd hrf (by decide)
                    · refine z_by hR (fun c8 hR => ?_) (fun c8 hR => ?_)
                      · refine z_tin hC 8 462 c8 dL_law_33 (by decide) (by decide) rfl (by decide) ?_
                        refine z_aload_n hC dL_law_462 rfl 1 rfl ?_
                        refine z_callVi hC hN [] [0, 8, 9, 10, 11, 12, 18, 19] (c_X8_round (l := zl E) (D := zD E) (cI := cI) (cB := cB) (cZ := cZ) (N := N) (a_t := a_p1) (a_t_rows := a_p1_rows) (a_t_tape := a_p1_tape) (a_t_reader := a_p1_reader) (a_t_now := a_p1_now) (a_t_trial := a_p1_trial) (a_t_acts := a_p1_acts) (a_t_ways := a_p1_ways) (a_t_asks := a_p1_asks) (a_t_images := a_p1_images) (a_t_imageKept := a_p1_imageKept) (a_t_now_kind := a_p1_now_kind) (a_t_now_hand := a_p1_now_hand) (a_t_now_leader := a_p1_now_leader) (a_t_now_course := a_p1_now_course) (a_t_acts_halls := a_p1_acts_halls) (t_latestFault := p1_latestFault) (t_latestFinding := p1_latestFinding) (t_now_players := p1_now_players) (t_now_round := p1_now_round) (t_now_time := p1_now_time) (t_now_kind := p1_now_kind) (t_now_hand := p1_now_hand) (t_now_leader := p1_now_leader) (t_now_course_first := p1_now_course_first) (t_now_course_second := p1_now_course_second) (t_now_course_thrown := p1_now_course_thrown) (t_acts_kept := p1_acts_kept) (t_acts_next := p1_acts_next) (t_acts_halls := p1_acts_halls)) rfl ⟨rfl, rfl⟩ gL_law_X8_round hvX8_round 0 8 rfl rfl rfl ⟨Nat.le_of_ble_eq_true rfl, Nat.le_of_ble_eq_true rfl⟩ ⟨Nat.le_of_ble_eq_true rfl, Nat.le_of_ble_eq_true rfl⟩ rfl (Nat.le_of_ble_eq_true rfl) rfl (by decide) (fun _ => rfl) dL_law_463 hR (fun r463 hR => ?_)
                        refine z_aload_n hC dL_law_466 rfl 2 rfl ?_
                        refine z_callVi hC hN [] [30, 31, 34, 44, 45] (c_X9_round (l := zl E) (D := zD E) (cI := cI) (cB := cB) (cZ := cZ) (N := N) (a_t := a_p2) (a_t_now := a_p2_now) (a_t_kept := a_p2_kept) (a_t_isKept := a_p2_isKept) (a_t_acts := a_p2_acts) (a_t_was := a_p2_was) (a_t_lanes := a_p2_lanes) (a_t_longs := a_p2_longs) (a_t_isThere := a_p2_isThere) (a_t_items := a_p2_items) (a_t_copied := a_p2_copied) (a_t_tape := a_p2_tape) (a_t_readSorts := a_p2_readSorts) (a_t_readHands := a_p2_readHands) (a_t_inTurn := a_p2_inTurn) (a_t_ends := a_p2_ends) (a_t_bestHands := a_p2_bestHands) (a_t_traces := a_p2_traces) (t_manyActs := p2_manyActs) (t_status := p2_status) (t_tapeLong := p2_tapeLong) (t_fault := p2_fault) (t_tokenAt := p2_tokenAt) (t_tokenLong := p2_tokenLong) (t_token := p2_token) (t_value := p2_value) (t_winner := p2_winner) (t_throwsOf := p2_throwsOf) (t_handA := p2_handA) (t_handB := p2_handB) (t_fewestSo := p2_fewestSo) (t_traced := p2_traced) (t_now := p2_now) (t_acts := p2_acts) (t_inTurn := p2_inTurn) (t_ends := p2_ends)) rfl ⟨rfl, rfl⟩ gL_law_X9_round hvX9_round 30 9 rfl rfl rfl ⟨Nat.le_of_ble_eq_true rfl, Nat.le_of_ble_eq_true rfl⟩ ⟨Nat.le_of_ble_eq_true rfl, Nat.le_of_ble_eq_true rfl⟩ rfl (Nat.le_of_ble_eq_true rfl) rfl (by decide) (fun _ => rfl) dL_law_467 hR (fun r467 hR => ?_)
                        refine z_icmp_eq hC 1088 dL_law_470 (by decide) hR (fun hR => ?_) (fun hR => ?_)
                        · refine z_iinc6 hC [(3, .int (l3 + 6)), (0, .ref a_scr), (1, .ref a_p1), (2, .ref a_p2)] dL_law_1088 3 rfl (by decide) rfl ?_
                          refine z_goto hC 18 dL_law_1091 (by decide) ?_
                          refine z_sub (lv' := [(0, .ref a_scr), (1, .ref a_p1), (2, .ref a_p2), (3, .int (l3 + 6))]) [1, 2, 3, 0] rfl ?_
                          exact ih a_p1_ways_best a_p1_ways_better p1_latestFault p1_latestFinding p1_rows_lane p1_rows_size p1_rows_items p1_tape_length p1_tape_bytes p1_reader_token p1_reader_start p1_reader_past p1_reader_value p1_now_players r463.2.1 r463.2.2.1 p1_now_kind r463.2.2.2.1 r463.2.2.2.2.1 r463.2.2.2.2.2.1 r463.2.2.2.2.2.2.1 r463.2.2.2.2.2.2.2.1 p1_trial_players p1_trial_round p1_trial_time p1_trial_kind p1_trial_hand p1_trial_leader p1_trial_course_first p1_trial_course_second p1_trial_course_thrown r463.2.2.2.2.2.2.2.2.1 r463.2.2.2.2.2.2.2.2.2.1 r463.2.2.2.2.2.2.2.2.2.2 p1_ways_groups p1_ways_group p1_ways_train p1_ways_best p1_ways_better p1_ways_course_first p1_ways_course_second p1_ways_course_thrown p1_asks_length p1_asks_numbers p1_images p1_imageKept r467.2.1 p2_status p2_tapeLong p2_fault p2_tokenAt p2_tokenLong p2_token p2_value r467.2.2.1 r467.2.2.2.1 r467.2.2.2.2.1 r467.2.2.2.2.2.1 p2_fewestSo p2_traced r467.2.2.2.2.2.2.1 p2_kept p2_isKept r467.2.2.2.2.2.2.2.1 p2_was p2_lanes p2_longs p2_isThere p2_items p2_copied p2_tape p2_readSorts p2_readHands r467.2.2.2.2.2.2.2.2.1 r467.2.2.2.2.2.2.2.2.2 p2_bestHands p2_traces (l3 + 6) hR
                        · refine z_ic0 hC dL_law_473 ?_
                          obtain rfl := Option.some.inj hR
                          exact absurd hrf (by decide)
                      · refine z_by hR (fun c9 hR => ?_) (fun c9 hR => ?_)
                        · refine z_tin hC 9 475 c9 dL_law_33 (by decide) (by decide) rfl (by decide) ?_
                          refine z_aload_n hC dL_law_475 rfl 1 rfl ?_
                          refine z_aload_n hC dL_law_476 rfl 0 rfl ?_
                          refine z_iload_n hC dL_law_477 rfl 3 rfl ?_
                          refine z_ic1 hC dL_law_478 ?_
                          refine z_iadd hC dL_law_479 ?_
                          refine z_sld hC hL dL_law_480 hR (fun hR => ?_)
                          refine z_aload_n hC dL_law_481 rfl 0 rfl ?_
                          refine z_iload_n hC dL_law_482 rfl 3 rfl ?_
                          refine z_ic2 hC dL_law_483 ?_
                          refine z_iadd hC dL_law_484 ?_
                          refine z_sld hC hL dL_law_485 hR (fun hR => ?_)
                          refine z_callVi hC hN [.int (xs (Int32.toNatClampNeg (l3 + 1))), .int (xs (Int32.toNatClampNeg (l3 + 2)))] [0, 8, 9, 10, 11, 18, 19] (c_X8_hand (l := zl E) (D := zD E) (cI := cI) (cB := cB) (cZ := cZ) (N := N) (a_t := a_p1) (a_t_rows := a_p1_rows) (a_t_tape := a_p1_tape) (a_t_reader := a_p1_reader) (a_t_now := a_p1_now) (a_t_trial := a_p1_trial) (a_t_acts := a_p1_acts) (a_t_ways := a_p1_ways) (a_t_asks := a_p1_asks) (a_t_images := a_p1_images) (a_t_imageKept := a_p1_imageKept) (a_t_now_kind := a_p1_now_kind) (a_t_now_hand := a_p1_now_hand) (a_t_now_leader := a_p1_now_leader) (a_t_now_course := a_p1_now_course) (a_t_acts_halls := a_p1_acts_halls) (l1 := (xs (Int32.toNatClampNeg (l3 + 1)))) (l2 := (xs (Int32.toNatClampNeg (l3 + 2)))) (t_latestFault := p1_latestFault) (t_latestFinding := p1_latestFinding) (t_now_players := p1_now_players) (t_now_round := p1_now_round) (t_now_time := p1_now_time) (t_now_kind := p1_now_kind) (t_now_hand := p1_now_hand) (t_now_leader := p1_now_leader) (t_acts_kept := p1_acts_kept) (t_acts_next := p1_acts_next) (t_acts_halls := p1_acts_halls)) rfl ⟨rfl, rfl⟩ gL_law_X8_hand hvX8_hand 0 8 rfl rfl rfl ⟨Nat.le_of_ble_eq_true rfl, Nat.le_of_ble_eq_true rfl⟩ ⟨Nat.le_of_ble_eq_true rfl, Nat.le_of_ble_eq_true rfl⟩ rfl (Nat.le_of_ble_eq_true rfl) rfl (by decide) (fun _ => rfl) dL_law_486 hR (fun r486 hR => ?_)
                          refine z_aload_n hC dL_law_489 rfl 2 rfl ?_
                          refine z_aload_n hC dL_law_490 rfl 0 rfl ?_
                          refine z_iload_n hC dL_law_491 rfl 3 rfl ?_
                          refine z_ic1 hC dL_law_492 ?_
                          refine z_iadd hC dL_law_493 ?_
                          refine z_sld hC hL dL_law_494 hR (fun hR => ?_)
                          refine z_aload_n hC dL_law_495 rfl 0 rfl ?_
                          refine z_iload_n hC dL_law_496 rfl 3 rfl ?_
                          refine z_ic2 hC dL_law_497 ?_
                          refine z_iadd hC dL_law_498 ?_
                          refine z_sld hC hL dL_law_499 hR (fun hR => ?_)
                          refine z_callVi hC hN [.int (xs (Int32.toNatClampNeg (l3 + 1))), .int (xs (Int32.toNatClampNeg (l3 + 2)))] [30, 31, 34] (c_X9_hand (l := zl E) (D := zD E) (cI := cI) (cB := cB) (cZ := cZ) (N := N) (a_t := a_p2) (a_t_now := a_p2_now) (a_t_kept := a_p2_kept) (a_t_isKept := a_p2_isKept) (a_t_acts := a_p2_acts) (a_t_was := a_p2_was) (a_t_lanes := a_p2_lanes) (a_t_longs := a_p2_longs) (a_t_isThere := a_p2_isThere) (a_t_items := a_p2_items) (a_t_copied := a_p2_copied) (a_t_tape := a_p2_tape) (a_t_readSorts := a_p2_readSorts) (a_t_readHands := a_p2_readHands) (a_t_inTurn := a_p2_inTurn) (a_t_ends := a_p2_ends) (a_t_bestHands := a_p2_bestHands) (a_t_traces := a_p2_traces) (l1 := (xs (Int32.toNatClampNeg (l3 + 1)))) (l2 := (xs (Int32.toNatClampNeg (l3 + 2)))) (t_manyActs := p2_manyActs) (t_status := p2_status) (t_tapeLong := p2_tapeLong) (t_fault := p2_fault) (t_tokenAt := p2_tokenAt) (t_tokenLong := p2_tokenLong) (t_token := p2_token) (t_value := p2_value) (t_winner := p2_winner) (t_throwsOf := p2_throwsOf) (t_handA := p2_handA) (t_handB := p2_handB) (t_fewestSo := p2_fewestSo) (t_traced := p2_traced) (t_now := p2_now) (t_acts := p2_acts)) rfl ⟨rfl, rfl⟩ gL_law_X9_hand hvX9_hand 30 9 rfl rfl rfl ⟨Nat.le_of_ble_eq_true rfl, Nat.le_of_ble_eq_true rfl⟩ ⟨Nat.le_of_ble_eq_true rfl, Nat.le_of_ble_eq_true rfl⟩ rfl (Nat.le_of_ble_eq_true rfl) rfl (by decide) (fun _ => rfl) dL_law_500 hR (fun r500 hR => ?_)
                          refine z_icmp_eq hC 1088 dL_law_503 (by decide) hR (fun hR => ?_) (fun hR => ?_)
                          · refine z_iinc6 hC [(3, .int (l3 + 6)), (0, .ref a_scr), (1, .ref a_p1), (2, .ref a_p2)] dL_law_1088 3 rfl (by decide) rfl ?_
                            refine z_goto hC 18 dL_law_1091 (by decide) ?_
                            refine z_sub (lv' := [(0, .ref a_scr), (1, .ref a_p1), (2, .ref a_p2), (3, .int (l3 + 6))]) [1, 2, 3, 0] rfl ?_
                            exact ih a_p1_ways_best a_p1_ways_better p1_latestFault p1_latestFinding p1_rows_lane p1_rows_size p1_rows_items p1_tape_length p1_tape_bytes p1_reader_token p1_reader_start p1_reader_past p1_reader_value p1_now_players p1_now_round p1_now_time p1_now_kind r486.2.1 p1_now_leader p1_now_course_first p1_now_course_second p1_now_course_thrown p1_trial_players p1_trial_round p1_trial_time p1_trial_kind p1_trial_hand p1_trial_leader p1_trial_course_first p1_trial_course_second p1_trial_course_thrown r486.2.2.1 r486.2.2.2.1 r486.2.2.2.2 p1_ways_groups p1_ways_group p1_ways_train p1_ways_best p1_ways_better p1_ways_course_first p1_ways_course_second p1_ways_course_thrown p1_asks_length p1_asks_numbers p1_images p1_imageKept r500.2.1 p2_status p2_tapeLong p2_fault p2_tokenAt p2_tokenLong p2_token p2_value p2_winner p2_throwsOf p2_handA p2_handB p2_fewestSo p2_traced r500.2.2.1 p2_kept p2_isKept r500.2.2.2 p2_was p2_lanes p2_longs p2_isThere p2_items p2_copied p2_tape p2_readSorts p2_readHands p2_inTurn p2_ends p2_bestHands p2_traces (l3 + 6) hR
                          · refine z_ic0 hC dL_law_506 ?_
                            obtain rfl := Option.some.inj hR
                            exact absurd hrf (by decide)
                        · refine z_by hR (fun c10 hR => ?_) (fun c10 hR => ?_)
                          · refine z_tin hC 10 508 c10 dL_law_33 (by decide) (by decide) rfl (by decide) ?_
                            refine z_aload_n hC dL_law_508 rfl 1 rfl ?_
                            refine z_aload_n hC dL_law_509 rfl 0 rfl ?_
                            refine z_iload_n hC dL_law_510 rfl 3 rfl ?_
                            refine z_ic1 hC dL_law_511 ?_
                            refine z_iadd hC dL_law_512 ?_
                            refine z_sld hC hL dL_law_513 hR (fun hR => ?_)
                            refine z_callVi hC hN [.int (xs (Int32.toNatClampNeg (l3 + 1)))] [0, 1, 2, 3, 4, 8, 9, 10, 11, 18, 19] (c_X8_hands (l := zl E) (D := zD E) (cI := cI) (cB := cB) (cZ := cZ) (N := N) (a_t := a_p1) (a_t_rows := a_p1_rows) (a_t_tape := a_p1_tape) (a_t_reader := a_p1_reader) (a_t_now := a_p1_now) (a_t_trial := a_p1_trial) (a_t_acts := a_p1_acts) (a_t_ways := a_p1_ways) (a_t_asks := a_p1_asks) (a_t_images := a_p1_images) (a_t_imageKept := a_p1_imageKept) (a_t_rows_lane := a_p1_rows_lane) (a_t_rows_size := a_p1_rows_size) (a_t_rows_items := a_p1_rows_items) (a_t_now_kind := a_p1_now_kind) (a_t_now_hand := a_p1_now_hand) (a_t_now_leader := a_p1_now_leader) (a_t_now_course := a_p1_now_course) (a_t_acts_halls := a_p1_acts_halls) (l1 := (xs (Int32.toNatClampNeg (l3 + 1)))) (t_latestFault := p1_latestFault) (t_latestFinding := p1_latestFinding) (t_rows_lane := p1_rows_lane) (t_rows_size := p1_rows_size) (t_rows_items := p1_rows_items) (t_now_players := p1_now_players) (t_now_round := p1_now_round) (t_now_time := p1_now_time) (t_now_kind := p1_now_kind) (t_now_hand := p1_now_hand) (t_now_leader := p1_now_leader) (t_acts_kept := p1_acts_kept) (t_acts_next := p1_acts_next) (t_acts_halls := p1_acts_halls)) rfl ⟨rfl, rfl⟩ gL_law_X8_hands hvX8_hands 0 8 rfl rfl rfl ⟨Nat.le_of_ble_eq_true rfl, Nat.le_of_ble_eq_true rfl⟩ ⟨Nat.le_of_ble_eq_true rfl, Nat.le_of_ble_eq_true rfl⟩ rfl (Nat.le_of_ble_eq_true rfl) rfl (by decide) (fun _ => rfl) dL_law_514 hR (fun r514 hR => ?_)
                            refine z_aload_n hC dL_law_517 rfl 2 rfl ?_
                            refine z_aload_n hC dL_law_518 rfl 0 rfl ?_
                            refine z_iload_n hC dL_law_519 rfl 3 rfl ?_
                            refine z_ic1 hC dL_law_520 ?_
                            refine z_iadd hC dL_law_521 ?_
                            refine z_sld hC hL dL_law_522 hR (fun hR => ?_)
                            refine z_callVi hC hN [.int (xs (Int32.toNatClampNeg (l3 + 1)))] [30, 31, 34, 37, 38, 39] (c_X9_hands (l := zl E) (D := zD E) (cI := cI) (cB := cB) (cZ := cZ) (N := N) (a_t := a_p2) (a_t_now := a_p2_now) (a_t_kept := a_p2_kept) (a_t_isKept := a_p2_isKept) (a_t_acts := a_p2_acts) (a_t_was := a_p2_was) (a_t_lanes := a_p2_lanes) (a_t_longs := a_p2_longs) (a_t_isThere := a_p2_isThere) (a_t_items := a_p2_items) (a_t_copied := a_p2_copied) (a_t_tape := a_p2_tape) (a_t_readSorts := a_p2_readSorts) (a_t_readHands := a_p2_readHands) (a_t_inTurn := a_p2_inTurn) (a_t_ends := a_p2_ends) (a_t_bestHands := a_p2_bestHands) (a_t_traces := a_p2_traces) (l1 := (xs (Int32.toNatClampNeg (l3 + 1)))) (t_manyActs := p2_manyActs) (t_status := p2_status) (t_tapeLong := p2_tapeLong) (t_fault := p2_fault) (t_tokenAt := p2_tokenAt) (t_tokenLong := p2_tokenLong) (t_token := p2_token) (t_value := p2_value) (t_winner := p2_winner) (t_throwsOf := p2_throwsOf) (t_handA := p2_handA) (t_handB := p2_handB) (t_fewestSo := p2_fewestSo) (t_traced := p2_traced) (t_now := p2_now) (t_acts := p2_acts) (t_longs := p2_longs) (t_isThere := p2_isThere) (t_items := p2_items)) rfl ⟨rfl, rfl⟩ gL_law_X9_hands hvX9_hands 30 9 rfl rfl rfl ⟨Nat.le_of_ble_eq_true rfl, Nat.le_of_ble_eq_true rfl⟩ ⟨Nat.le_of_ble_eq_true rfl, Nat.le_of_ble_eq_true rfl⟩ rfl (Nat.le_of_ble_eq_true rfl) rfl (by decide) (fun _ => rfl) dL_law_523 hR (fun r523 hR => ?_)
                            refine z_icmp_eq hC 1088 dL_law_526 (by decide) hR (fun hR => ?_) (fun hR => ?_)
                            · refine z_iinc6 hC [(3, .int (l3 + 6)), (0, .ref a_scr), (1, .ref a_p1), (2, .ref a_p2)] dL_law_1088 3 rfl (by decide) rfl ?_
                              refine z_goto hC 18 dL_law_1091 (by decide) ?_
                              refine z_sub (lv' := [(0, .ref a_scr), (1, .ref a_p1), (2, .ref a_p2), (3, .int (l3 + 6))]) [1, 2, 3, 0] rfl ?_
                              exact ih a_p1_ways_best a_p1_ways_better p1_latestFault r514.2.1 p1_rows_lane p1_rows_size p1_rows_items p1_tape_length p1_tape_bytes p1_reader_token p1_reader_start p1_reader_past p1_reader_value p1_now_players p1_now_round p1_now_time p1_now_kind r514.2.2.1 p1_now_leader p1_now_course_first p1_now_course_second p1_now_course_thrown p1_trial_players p1_trial_round p1_trial_time p1_trial_kind p1_trial_hand p1_trial_leader p1_trial_course_first p1_trial_course_second p1_trial_course_thrown r514.2.2.2.1 r514.2.2.2.2.1 r514.2.2.2.2.2 p1_ways_groups p1_ways_group p1_ways_train p1_ways_best p1_ways_better p1_ways_course_first p1_ways_course_second p1_ways_course_thrown p1_asks_length p1_asks_numbers p1_images p1_imageKept r523.2.1 r523.2.2.1 p2_tapeLong p2_fault p2_tokenAt p2_tokenLong p2_token p2_value p2_winner p2_throwsOf p2_handA p2_handB p2_fewestSo p2_traced r523.2.2.2.1 p2_kept p2_isKept r523.2.2.2.2 p2_was p2_lanes p2_longs p2_isThere p2_items p2_copied p2_tape p2_readSorts p2_readHands p2_inTurn p2_ends p2_bestHands p2_traces (l3 + 6) hR
                            · refine z_ic0 hC dL_law_529 ?_
                              obtain rfl := Option.some.inj hR
                              exact absurd hrf (by decide)
                          · refine z_by hR (fun c11 hR => ?_) (fun c11 hR => ?_)
                            · refine z_tin hC 11 531 c11 dL_law_33 (by decide) (by decide) rfl (by decide) ?_
                              refine z_aload_n hC dL_law_531 rfl 1 rfl ?_
                              refine z_callVi hC hN [] [0, 8, 9, 10, 11, 18, 19] (c_X8_undo (l := zl E) (D := zD E) (cI := cI) (cB := cB) (cZ := cZ) (N := N) (a_t := a_p1) (a_t_rows := a_p1_rows) (a_t_tape := a_p1_tape) (a_t_reader := a_p1_reader) (a_t_now := a_p1_now) (a_t_trial := a_p1_trial) (a_t_acts := a_p1_acts) (a_t_ways := a_p1_ways) (a_t_asks := a_p1_asks) (a_t_images := a_p1_images) (a_t_imageKept := a_p1_imageKept) (a_t_now_kind := a_p1_now_kind) (a_t_now_hand := a_p1_now_hand) (a_t_now_leader := a_p1_now_leader) (a_t_now_course := a_p1_now_course) (a_t_acts_halls := a_p1_acts_halls) (t_latestFault := p1_latestFault) (t_latestFinding := p1_latestFinding) (t_now_players := p1_now_players) (t_now_round := p1_now_round) (t_now_time := p1_now_time) (t_now_kind := p1_now_kind) (t_now_hand := p1_now_hand) (t_now_leader := p1_now_leader) (t_acts_kept := p1_acts_kept) (t_acts_next := p1_acts_next) (t_acts_halls := p1_acts_halls)) rfl ⟨rfl, rfl⟩ gL_law_X8_undo hvX8_undo 0 8 rfl rfl rfl ⟨Nat.le_of_ble_eq_true rfl, Nat.le_of_ble_eq_true rfl⟩ ⟨Nat.le_of_ble_eq_true rfl, Nat.le_of_ble_eq_true rfl⟩ rfl (Nat.le_of_ble_eq_true rfl) rfl (by decide) (fun _ => rfl) dL_law_532 hR (fun r532 hR => ?_)
                              refine z_aload_n hC dL_law_535 rfl 2 rfl ?_
                              refine z_callVi hC hN [] [30, 31, 34] (c_X9_undo (l := zl E) (D := zD E) (cI := cI) (cB := cB) (cZ := cZ) (N := N) (a_t := a_p2) (a_t_now := a_p2_now) (a_t_kept := a_p2_kept) (a_t_isKept := a_p2_isKept) (a_t_acts := a_p2_acts) (a_t_was := a_p2_was) (a_t_lanes := a_p2_lanes) (a_t_longs := a_p2_longs) (a_t_isThere := a_p2_isThere) (a_t_items := a_p2_items) (a_t_copied := a_p2_copied) (a_t_tape := a_p2_tape) (a_t_readSorts := a_p2_readSorts) (a_t_readHands := a_p2_readHands) (a_t_inTurn := a_p2_inTurn) (a_t_ends := a_p2_ends) (a_t_bestHands := a_p2_bestHands) (a_t_traces := a_p2_traces) (t_manyActs := p2_manyActs) (t_status := p2_status) (t_tapeLong := p2_tapeLong) (t_fault := p2_fault) (t_tokenAt := p2_tokenAt) (t_tokenLong := p2_tokenLong) (t_token := p2_token) (t_value := p2_value) (t_winner := p2_winner) (t_throwsOf := p2_throwsOf) (t_handA := p2_handA) (t_handB := p2_handB) (t_fewestSo := p2_fewestSo) (t_traced := p2_traced) (t_now := p2_now) (t_acts := p2_acts)) rfl ⟨rfl, rfl⟩ gL_law_X9_undo hvX9_undo 30 9 rfl rfl rfl ⟨Nat.le_of_ble_eq_true rfl, Nat.le_of_ble_eq_true rfl⟩ ⟨Nat.le_of_ble_eq_true rfl, Nat.le_of_ble_eq_true rfl⟩ rfl (Nat.le_of_ble_eq_true rfl) rfl (by decide) (fun _ => rfl) dL_law_536 hR (fun r536 hR => ?_)
                              refine z_icmp_eq hC 1088 dL_law_539 (by decide) hR (fun hR => ?_) (fun hR => ?_)
                              · refine z_iinc6 hC [(3, .int (l3 + 6)), (0, .ref a_scr), (1, .ref a_p1), (2, .ref a_p2)] dL_law_1088 3 rfl (by decide) rfl ?_
                                refine z_goto hC 18 dL_law_1091 (by decide) ?_
                                refine z_sub (lv' := [(0, .ref a_scr), (1, .ref a_p1), (2, .ref a_p2), (3, .int (l3 + 6))]) [1, 2, 3, 0] rfl ?_
                                exact ih a_p1_ways_best a_p1_ways_better p1_latestFault p1_latestFinding p1_rows_lane p1_rows_size p1_rows_items p1_tape_length p1_tape_bytes p1_reader_token p1_reader_start p1_reader_past p1_reader_value r532.2.1 r532.2.2.1 r532.2.2.2.1 r532.2.2.2.2.1 r532.2.2.2.2.2.1 r532.2.2.2.2.2.2.1 p1_now_course_first p1_now_course_second p1_now_course_thrown p1_trial_players p1_trial_round p1_trial_time p1_trial_kind p1_trial_hand p1_trial_leader p1_trial_course_first p1_trial_course_second p1_trial_course_thrown r532.2.2.2.2.2.2.2.1 r532.2.2.2.2.2.2.2.2 p1_acts_halls p1_ways_groups p1_ways_group p1_ways_train p1_ways_best p1_ways_better p1_ways_course_first p1_ways_course_second p1_ways_course_thrown p1_asks_length p1_asks_numbers p1_images p1_imageKept r536.2.1 p2_status p2_tapeLong p2_fault p2_tokenAt p2_tokenLong p2_token p2_value p2_winner p2_throwsOf p2_handA p2_handB p2_fewestSo p2_traced r536.2.2 p2_kept p2_isKept p2_acts p2_was p2_lanes p2_longs p2_isThere p2_items p2_copied p2_tape p2_readSorts p2_readHands p2_inTurn p2_ends p2_bestHands p2_traces (l3 + 6) hR
                              · refine z_ic0 hC dL_law_542 ?_
                                obtain rfl := Option.some.inj hR
                                exact absurd hrf (by decide)
                            · refine z_by hR (fun c12 hR => ?_) (fun c12 hR => ?_)
                              · refine z_tin hC 12 544 c12 dL_law_33 (by decide) (by decide) rfl (by decide) ?_
                                refine z_aload_n hC dL_law_544 rfl 1 rfl ?_
                                refine z_aload_n hC dL_law_545 rfl 0 rfl ?_
                                refine z_iload_n hC dL_law_546 rfl 3 rfl ?_
                                refine z_ic1 hC dL_law_547 ?_
                                refine z_iadd hC dL_law_548 ?_
                                refine z_sld hC hL dL_law_549 hR (fun hR => ?_)
                                refine z_aload_n hC dL_law_550 rfl 0 rfl ?_
                                refine z_iload_n hC dL_law_551 rfl 3 rfl ?_
                                refine z_ic2 hC dL_law_552 ?_
                                refine z_iadd hC dL_law_553 ?_
                                refine z_sld hC hL dL_law_554 hR (fun hR => ?_)
                                refine z_callVi_p hC hN [.int (xs (Int32.toNatClampNeg (l3 + 1))), .int (xs (Int32.toNatClampNeg (l3 + 2)))] [0, 8, 10, 11] (c_X8_player (l := zl E) (D := zD E) (cI := cI) (cB := cB) (cZ := cZ) (N := N) (a_t := a_p1) (a_t_rows := a_p1_rows) (a_t_tape := a_p1_tape) (a_t_reader := a_p1_reader) (a_t_now := a_p1_now) (a_t_trial := a_p1_trial) (a_t_acts := a_p1_acts) (a_t_ways := a_p1_ways) (a_t_asks := a_p1_asks) (a_t_images := a_p1_images) (a_t_imageKept := a_p1_imageKept) (a_t_now_kind := a_p1_now_kind) (a_t_now_hand := a_p1_now_hand) (a_t_now_leader := a_p1_now_leader) (a_t_now_course := a_p1_now_course) (l1 := (xs (Int32.toNatClampNeg (l3 + 1)))) (l2 := (xs (Int32.toNatClampNeg (l3 + 2)))) (t_latestFault := p1_latestFault) (t_latestFinding := p1_latestFinding) (t_now_players := p1_now_players) (t_now_round := p1_now_round) (t_now_time := p1_now_time) (t_now_hand := p1_now_hand) (t_now_leader := p1_now_leader)) rfl ⟨rfl, rfl⟩ gL_law_X8_player hvX8_player 0 8 rfl rfl rfl ⟨Nat.le_of_ble_eq_true rfl, Nat.le_of_ble_eq_true rfl⟩ ⟨Nat.le_of_ble_eq_true rfl, Nat.le_of_ble_eq_true rfl⟩ rfl (Nat.le_of_ble_eq_true rfl) rfl (by decide) dL_law_555 hR (fun r555 hR => ?_)
                                refine z_aload_n hC dL_law_558 rfl 2 rfl ?_
                                refine z_aload_n hC dL_law_559 rfl 0 rfl ?_
                                refine z_iload_n hC dL_law_560 rfl 3 rfl ?_
                                refine z_ic1 hC dL_law_561 ?_
                                refine z_iadd hC dL_law_562 ?_
                                refine z_sld hC hL dL_law_563 hR (fun hR => ?_)
                                refine z_aload_n hC dL_law_564 rfl 0 rfl ?_
                                refine z_iload_n hC dL_law_565 rfl 3 rfl ?_
                                refine z_ic2 hC dL_law_566 ?_
                                refine z_iadd hC dL_law_567 ?_
                                refine z_sld hC hL dL_law_568 hR (fun hR => ?_)
                                refine z_callVi_p hC hN [.int (xs (Int32.toNatClampNeg (l3 + 1))), .int (xs (Int32.toNatClampNeg (l3 + 2)))] [30, 31] (c_X9_player (l := zl E) (D := zD E) (cI := cI) (cB := cB) (cZ := cZ) (N := N) (a_t := a_p2) (a_t_now := a_p2_now) (a_t_kept := a_p2_kept) (a_t_isKept := a_p2_isKept) (a_t_acts := a_p2_acts) (a_t_was := a_p2_was) (a_t_lanes := a_p2_lanes) (a_t_longs := a_p2_longs) (a_t_isThere := a_p2_isThere) (a_t_items := a_p2_items) (a_t_copied := a_p2_copied) (a_t_tape := a_p2_tape) (a_t_readSorts := a_p2_readSorts) (a_t_readHands := a_p2_readHands) (a_t_inTurn := a_p2_inTurn) (a_t_ends := a_p2_ends) (a_t_bestHands := a_p2_bestHands) (a_t_traces := a_p2_traces) (l1 := (xs (Int32.toNatClampNeg (l3 + 1)))) (l2 := (xs (Int32.toNatClampNeg (l3 + 2)))) (t_manyActs := p2_manyActs) (t_status := p2_status) (t_tapeLong := p2_tapeLong) (t_fault := p2_fault) (t_tokenAt := p2_tokenAt) (t_tokenLong := p2_tokenLong) (t_token := p2_token) (t_value := p2_value) (t_winner := p2_winner) (t_throwsOf := p2_throwsOf) (t_handA := p2_handA) (t_handB := p2_handB) (t_fewestSo := p2_fewestSo) (t_traced := p2_traced) (t_now := p2_now)) rfl ⟨rfl, rfl⟩ gL_law_X9_player hvX9_player 30 9 rfl rfl rfl ⟨Nat.le_of_ble_eq_true rfl, Nat.le_of_ble_eq_true rfl⟩ ⟨Nat.le_of_ble_eq_true rfl, Nat.le_of_ble_eq_true rfl⟩ rfl (Nat.le_of_ble_eq_true rfl) rfl (by decide) dL_law_569 hR (fun r569 hR => ?_)
                                refine z_icmp_eq hC 1088 dL_law_572 (by decide) hR (fun hR => ?_) (fun hR => ?_)
                                · refine z_iinc6 hC [(3, .int (l3 + 6)), (0, .ref a_scr), (1, .ref a_p1), (2, .ref a_p2)] dL_law_1088 3 rfl (by decide) rfl ?_
                                  refine z_goto hC 18 dL_law_1091 (by decide) ?_
                                  refine z_sub (lv' := [(0, .ref a_scr), (1, .ref a_p1), (2, .ref a_p2), (3, .int (l3 + 6))]) [1, 2, 3, 0] rfl ?_
                                  exact ih a_p1_ways_best a_p1_ways_better p1_latestFault p1_latestFinding p1_rows_lane p1_rows_size p1_rows_items p1_tape_length p1_tape_bytes p1_reader_token p1_reader_start p1_reader_past p1_reader_value p1_now_players p1_now_round p1_now_time p1_now_kind p1_now_hand p1_now_leader p1_now_course_first p1_now_course_second p1_now_course_thrown p1_trial_players p1_trial_round p1_trial_time p1_trial_kind p1_trial_hand p1_trial_leader p1_trial_course_first p1_trial_course_second p1_trial_course_thrown p1_acts_kept p1_acts_next p1_acts_halls p1_ways_groups p1_ways_group p1_ways_train p1_ways_best p1_ways_better p1_ways_course_first p1_ways_course_second p1_ways_course_thrown p1_asks_length p1_asks_numbers p1_images p1_imageKept p2_manyActs p2_status p2_tapeLong p2_fault p2_tokenAt p2_tokenLong p2_token p2_value p2_winner p2_throwsOf p2_handA p2_handB p2_fewestSo p2_traced p2_now p2_kept p2_isKept p2_acts p2_was p2_lanes p2_longs p2_isThere p2_items p2_copied p2_tape p2_readSorts p2_readHands p2_inTurn p2_ends p2_bestHands p2_traces (l3 + 6) hR
                                · refine z_ic0 hC dL_law_575 ?_
                                  obtain rfl := Option.some.inj hR
                                  exact absurd hrf (by decide)
                              · refine z_by hR (fun c13 hR => ?_) (fun c13 hR => ?_)
                                · refine z_tin hC 13 577 c13 dL_law_33 (by decide) (by decide) rfl (by decide) ?_
                                  refine z_aload_n hC dL_law_577 rfl 1 rfl ?_
                                  refine z_aload_n hC dL_law_578 rfl 0 rfl ?_
                                  refine z_iload_n hC dL_law_579 rfl 3 rfl ?_
                                  refine z_ic1 hC dL_law_580 ?_
                                  refine z_iadd hC dL_law_581 ?_
                                  refine z_sld hC hL dL_law_582 hR (fun hR => ?_)
                                  refine z_aload_n hC dL_law_583 rfl 0 rfl ?_
                                  refine z_iload_n hC dL_law_584 rfl 3 rfl ?_
                                  refine z_ic2 hC dL_law_585 ?_
                                  refine z_iadd hC dL_law_586 ?_
                                  refine z_sld hC hL dL_law_587 hR (fun hR => ?_)
                                  refine z_aload_n hC dL_law_588 rfl 0 rfl ?_
                                  refine z_iload_n hC dL_law_589 rfl 3 rfl ?_
                                  refine z_ic3 hC dL_law_590 ?_
                                  refine z_iadd hC dL_law_591 ?_
                                  refine z_sld hC hL dL_law_592 hR (fun hR => ?_)
                                  refine z_callVi hC hN [.int (xs (Int32.toNatClampNeg (l3 + 1))), .int (xs (Int32.toNatClampNeg (l3 + 2))), .int (xs (Int32.toNatClampNeg (l3 + 3)))] [0, 8, 9, 10, 11, 12] (c_X8_beats (l := zl E) (D := zD E) (cI := cI) (cB := cB) (cZ := cZ) (N := N) (a_t := a_p1) (a_t_rows := a_p1_rows) (a_t_tape := a_p1_tape) (a_t_reader := a_p1_reader) (a_t_now := a_p1_now) (a_t_trial := a_p1_trial) (a_t_acts := a_p1_acts) (a_t_ways := a_p1_ways) (a_t_asks := a_p1_asks) (a_t_images := a_p1_images) (a_t_imageKept := a_p1_imageKept) (a_t_now_kind := a_p1_now_kind) (a_t_now_hand := a_p1_now_hand) (a_t_now_leader := a_p1_now_leader) (a_t_now_course := a_p1_now_course) (l1 := (xs (Int32.toNatClampNeg (l3 + 1)))) (l2 := (xs (Int32.toNatClampNeg (l3 + 2)))) (l3 := (xs (Int32.toNatClampNeg (l3 + 3)))) (t_latestFault := p1_latestFault) (t_latestFinding := p1_latestFinding) (t_now_players := p1_now_players) (t_now_round := p1_now_round) (t_now_time := p1_now_time) (t_now_kind := p1_now_kind) (t_now_hand := p1_now_hand) (t_now_leader := p1_now_leader) (t_now_course_first := p1_now_course_first) (t_now_course_second := p1_now_course_second) (t_now_course_thrown := p1_now_course_thrown)) rfl ⟨rfl, rfl⟩ gL_law_X8_beats hvX8_beats 0 8 rfl rfl rfl ⟨Nat.le_of_ble_eq_true rfl, Nat.le_of_ble_eq_true rfl⟩ ⟨Nat.le_of_ble_eq_true rfl, Nat.le_of_ble_eq_true rfl⟩ rfl (Nat.le_of_ble_eq_true rfl) rfl (by decide) (fun _ => rfl) dL_law_593 hR (fun r593 hR => ?_)
                                  refine z_aload_n hC dL_law_596 rfl 2 rfl ?_
                                  refine z_aload_n hC dL_law_597 rfl 0 rfl ?_
                                  refine z_iload_n hC dL_law_598 rfl 3 rfl ?_
                                  refine z_ic1 hC dL_law_599 ?_
                                  refine z_iadd hC dL_law_600 ?_
                                  refine z_sld hC hL dL_law_601 hR (fun hR => ?_)
                                  refine z_aload_n hC dL_law_602 rfl 0 rfl ?_
                                  refine z_iload_n hC dL_law_603 rfl 3 rfl ?_
                                  refine z_ic2 hC dL_law_604 ?_
                                  refine z_iadd hC dL_law_605 ?_
                                  refine z_sld hC hL dL_law_606 hR (fun hR => ?_)
                                  refine z_aload_n hC dL_law_607 rfl 0 rfl ?_
                                  refine z_iload_n hC dL_law_608 rfl 3 rfl ?_
                                  refine z_ic3 hC dL_law_609 ?_
                                  refine z_iadd hC dL_law_610 ?_
                                  refine z_sld hC hL dL_law_611 hR (fun hR => ?_)
                                  refine z_callVi hC hN [.int (xs (Int32.toNatClampNeg (l3 + 1))), .int (xs (Int32.toNatClampNeg (l3 + 2))), .int (xs (Int32.toNatClampNeg (l3 + 3)))] [30, 31] (c_X9_beats (l := zl E) (D := zD E) (cI := cI) (cB := cB) (cZ := cZ) (N := N) (a_t := a_p2) (a_t_now := a_p2_now) (a_t_kept := a_p2_kept) (a_t_isKept := a_p2_isKept) (a_t_acts := a_p2_acts) (a_t_was := a_p2_was) (a_t_lanes := a_p2_lanes) (a_t_longs := a_p2_longs) (a_t_isThere := a_p2_isThere) (a_t_items := a_p2_items) (a_t_copied := a_p2_copied) (a_t_tape := a_p2_tape) (a_t_readSorts := a_p2_readSorts) (a_t_readHands := a_p2_readHands) (a_t_inTurn := a_p2_inTurn) (a_t_ends := a_p2_ends) (a_t_bestHands := a_p2_bestHands) (a_t_traces := a_p2_traces) (l1 := (xs (Int32.toNatClampNeg (l3 + 1)))) (l2 := (xs (Int32.toNatClampNeg (l3 + 2)))) (l3 := (xs (Int32.toNatClampNeg (l3 + 3)))) (t_manyActs := p2_manyActs) (t_status := p2_status) (t_tapeLong := p2_tapeLong) (t_fault := p2_fault) (t_tokenAt := p2_tokenAt) (t_tokenLong := p2_tokenLong) (t_token := p2_token) (t_value := p2_value) (t_winner := p2_winner) (t_throwsOf := p2_throwsOf) (t_handA := p2_handA) (t_handB := p2_handB) (t_fewestSo := p2_fewestSo) (t_traced := p2_traced) (t_now := p2_now)) rfl ⟨rfl, rfl⟩ gL_law_X9_beats hvX9_beats 30 9 rfl rfl rfl ⟨Nat.le_of_ble_eq_true rfl, Nat.le_of_ble_eq_true rfl⟩ ⟨Nat.le_of_ble_eq_true rfl, Nat.le_of_ble_eq_true rfl⟩ rfl (Nat.le_of_ble_eq_true rfl) rfl (by decide) (fun _ => rfl) dL_law_612 hR (fun r612 hR => ?_)
                                  refine z_icmp_eq hC 1088 dL_law_615 (by decide) hR (fun hR => ?_) (fun hR => ?_)
                                  · refine z_iinc6 hC [(3, .int (l3 + 6)), (0, .ref a_scr), (1, .ref a_p1), (2, .ref a_p2)] dL_law_1088 3 rfl (by decide) rfl ?_
                                    refine z_goto hC 18 dL_law_1091 (by decide) ?_
                                    refine z_sub (lv' := [(0, .ref a_scr), (1, .ref a_p1), (2, .ref a_p2), (3, .int (l3 + 6))]) [1, 2, 3, 0] rfl ?_
                                    exact ih a_p1_ways_best a_p1_ways_better p1_latestFault p1_latestFinding p1_rows_lane p1_rows_size p1_rows_items p1_tape_length p1_tape_bytes p1_reader_token p1_reader_start p1_reader_past p1_reader_value p1_now_players p1_now_round p1_now_time p1_now_kind p1_now_hand p1_now_leader r593.2.1 r593.2.2.1 r593.2.2.2 p1_trial_players p1_trial_round p1_trial_time p1_trial_kind p1_trial_hand p1_trial_leader p1_trial_course_first p1_trial_course_second p1_trial_course_thrown p1_acts_kept p1_acts_next p1_acts_halls p1_ways_groups p1_ways_group p1_ways_train p1_ways_best p1_ways_better p1_ways_course_first p1_ways_course_second p1_ways_course_thrown p1_asks_length p1_asks_numbers p1_images p1_imageKept p2_manyActs p2_status p2_tapeLong p2_fault p2_tokenAt p2_tokenLong p2_token p2_value r612.2.1 r612.2.2.1 r612.2.2.2.1 r612.2.2.2.2 p2_fewestSo p2_traced p2_now p2_kept p2_isKept p2_acts p2_was p2_lanes p2_longs p2_isThere p2_items p2_copied p2_tape p2_readSorts p2_readHands p2_inTurn p2_ends p2_bestHands p2_traces (l3 + 6) hR
                                  · refine z_ic0 hC dL_law_618 ?_
                                    obtain rfl := Option.some.inj hR
                                    exact absurd hrf (by decide)
                                · refine z_by hR (fun c14 hR => ?_) (fun c14 hR => ?_)
                                  · refine z_tin hC 14 620 c14 dL_law_33 (by decide) (by decide) rfl (by decide) ?_
                                    refine z_aload_n hC dL_law_620 rfl 1 rfl ?_
                                    refine z_aload_n hC dL_law_621 rfl 0 rfl ?_
                                    refine z_iload_n hC dL_law_622 rfl 3 rfl ?_
                                    refine z_ic1 hC dL_law_623 ?_
                                    refine z_iadd hC dL_law_624 ?_
                                    refine z_sld hC hL dL_law_625 hR (fun hR => ?_)
                                    refine z_callVi hC hN [.int (xs (Int32.toNatClampNeg (l3 + 1)))] [0, 8, 9, 10, 11, 13, 14, 15, 16, 17] (c_X8_left (l := zl E) (D := zD E) (cI := cI) (cB := cB) (cZ := cZ) (N := N) (a_t := a_p1) (a_t_rows := a_p1_rows) (a_t_tape := a_p1_tape) (a_t_reader := a_p1_reader) (a_t_now := a_p1_now) (a_t_trial := a_p1_trial) (a_t_acts := a_p1_acts) (a_t_ways := a_p1_ways) (a_t_asks := a_p1_asks) (a_t_images := a_p1_images) (a_t_imageKept := a_p1_imageKept) (a_t_now_kind := a_p1_now_kind) (a_t_now_hand := a_p1_now_hand) (a_t_now_leader := a_p1_now_leader) (a_t_now_course := a_p1_now_course) (a_t_trial_kind := a_p1_trial_kind) (a_t_trial_hand := a_p1_trial_hand) (a_t_trial_leader := a_p1_trial_leader) (a_t_trial_course := a_p1_trial_course) (l1 := (xs (Int32.toNatClampNeg (l3 + 1)))) (t_latestFault := p1_latestFault) (t_latestFinding := p1_latestFinding) (t_now_players := p1_now_players) (t_now_round := p1_now_round) (t_now_time := p1_now_time) (t_now_kind := p1_now_kind) (t_now_hand := p1_now_hand) (t_now_leader := p1_now_leader) (t_trial_players := p1_trial_players) (t_trial_round := p1_trial_round) (t_trial_time := p1_trial_time) (t_trial_kind := p1_trial_kind) (t_trial_hand := p1_trial_hand) (t_trial_leader := p1_trial_leader) (t_trial_course_first := p1_trial_course_first) (t_trial_course_second := p1_trial_course_second) (t_trial_course_thrown := p1_trial_course_thrown)) rfl ⟨rfl, rfl⟩ gL_law_X8_left hvX8_left 0 8 rfl rfl rfl ⟨Nat.le_of_ble_eq_true rfl, Nat.le_of_ble_eq_true rfl⟩ ⟨Nat.le_of_ble_eq_true rfl, Nat.le_of_ble_eq_true rfl⟩ rfl (Nat.le_of_ble_eq_true rfl) rfl (by decide) (fun _ => rfl) dL_law_626 hR (fun r626 hR => ?_)
                                    refine z_aload_n hC dL_law_629 rfl 2 rfl ?_
                                    refine z_aload_n hC dL_law_630 rfl 0 rfl ?_
                                    refine z_iload_n hC dL_law_631 rfl 3 rfl ?_
                                    refine z_ic1 hC dL_law_632 ?_
                                    refine z_iadd hC dL_law_633 ?_
                                    refine z_sld hC hL dL_law_634 hR (fun hR => ?_)
                                    refine z_callVi hC hN [.int (xs (Int32.toNatClampNeg (l3 + 1)))] [30, 31, 35, 44, 45] (c_X9_left (l := zl E) (D := zD E) (cI := cI) (cB := cB) (cZ := cZ) (N := N) (a_t := a_p2) (a_t_now := a_p2_now) (a_t_kept := a_p2_kept) (a_t_isKept := a_p2_isKept) (a_t_acts := a_p2_acts) (a_t_was := a_p2_was) (a_t_lanes := a_p2_lanes) (a_t_longs := a_p2_longs) (a_t_isThere := a_p2_isThere) (a_t_items := a_p2_items) (a_t_copied := a_p2_copied) (a_t_tape := a_p2_tape) (a_t_readSorts := a_p2_readSorts) (a_t_readHands := a_p2_readHands) (a_t_inTurn := a_p2_inTurn) (a_t_ends := a_p2_ends) (a_t_bestHands := a_p2_bestHands) (a_t_traces := a_p2_traces) (l1 := (xs (Int32.toNatClampNeg (l3 + 1)))) (t_manyActs := p2_manyActs) (t_status := p2_status) (t_tapeLong := p2_tapeLong) (t_fault := p2_fault) (t_tokenAt := p2_tokenAt) (t_tokenLong := p2_tokenLong) (t_token := p2_token) (t_value := p2_value) (t_winner := p2_winner) (t_throwsOf := p2_throwsOf) (t_handA := p2_handA) (t_handB := p2_handB) (t_fewestSo := p2_fewestSo) (t_traced := p2_traced) (t_now := p2_now) (t_was := p2_was) (t_inTurn := p2_inTurn) (t_ends := p2_ends)) rfl ⟨rfl, rfl⟩ gL_law_X9_left hvX9_left 30 9 rfl rfl rfl ⟨Nat.le_of_ble_eq_true rfl, Nat.le_of_ble_eq_true rfl⟩ ⟨Nat.le_of_ble_eq_true rfl, Nat.le_of_ble_eq_true rfl⟩ rfl (Nat.le_of_ble_eq_true rfl) rfl (by decide) (fun _ => rfl) dL_law_635 hR (fun r635 hR => ?_)
                                    refine z_icmp_eq hC 1088 dL_law_638 (by decide) hR (fun hR => ?_) (fun hR => ?_)
                                    · refine z_iinc6 hC [(3, .int (l3 + 6)), (0, .ref a_scr), (1, .ref a_p1), (2, .ref a_p2)] dL_law_1088 3 rfl (by decide) rfl ?_
                                      refine z_goto hC 18 dL_law_1091 (by decide) ?_
                                      refine z_sub (lv' := [(0, .ref a_scr), (1, .ref a_p1), (2, .ref a_p2), (3, .int (l3 + 6))]) [1, 2, 3, 0] rfl ?_
                                      exact ih a_p1_ways_best a_p1_ways_better p1_latestFault p1_latestFinding p1_rows_lane p1_rows_size p1_rows_items p1_tape_length p1_tape_bytes p1_reader_token p1_reader_start p1_reader_past p1_reader_value p1_now_players p1_now_round p1_now_time p1_now_kind p1_now_hand p1_now_leader p1_now_course_first p1_now_course_second p1_now_course_thrown r626.2.1 r626.2.2.1 r626.2.2.2.1 r626.2.2.2.2.1 r626.2.2.2.2.2.1 r626.2.2.2.2.2.2.1 r626.2.2.2.2.2.2.2.1 r626.2.2.2.2.2.2.2.2.1 r626.2.2.2.2.2.2.2.2.2 p1_acts_kept p1_acts_next p1_acts_halls p1_ways_groups p1_ways_group p1_ways_train p1_ways_best p1_ways_better p1_ways_course_first p1_ways_course_second p1_ways_course_thrown p1_asks_length p1_asks_numbers p1_images p1_imageKept p2_manyActs p2_status p2_tapeLong p2_fault p2_tokenAt p2_tokenLong p2_token p2_value r635.2.1 r635.2.2.1 r635.2.2.2.1 r635.2.2.2.2.1 p2_fewestSo p2_traced r635.2.2.2.2.2.1 p2_kept p2_isKept p2_acts r635.2.2.2.2.2.2.1 p2_lanes p2_longs p2_isThere p2_items p2_copied p2_tape p2_readSorts p2_readHands r635.2.2.2.2.2.2.2.1 r635.2.2.2.2.2.2.2.2 p2_bestHands p2_traces (l3 + 6) hR
                                    · refine z_ic0 hC dL_law_641 ?_
                                      obtain rfl := Option.some.inj hR
                                      exact absurd hrf (by decide)
                                  · refine z_by hR (fun c15 hR => ?_) (fun c15 hR => ?_)
                                    · refine z_tin hC 15 643 c15 dL_law_33 (by decide) (by decide) rfl (by decide) ?_
                                      refine z_aload_n hC dL_law_643 rfl 1 rfl ?_
                                      refine z_aload_n hC dL_law_644 rfl 0 rfl ?_
                                      refine z_iload_n hC dL_law_645 rfl 3 rfl ?_
                                      refine z_ic1 hC dL_law_646 ?_
                                      refine z_iadd hC dL_law_647 ?_
                                      refine z_sld hC hL dL_law_648 hR (fun hR => ?_)
                                      refine z_aload_n hC dL_law_649 rfl 0 rfl ?_
                                      refine z_iload_n hC dL_law_650 rfl 3 rfl ?_
                                      refine z_ic2 hC dL_law_651 ?_
                                      refine z_iadd hC dL_law_652 ?_
                                      refine z_sld hC hL dL_law_653 hR (fun hR => ?_)
                                      refine z_callVi hC hN [.int (xs (Int32.toNatClampNeg (l3 + 1))), .int (xs (Int32.toNatClampNeg (l3 + 2)))] [0, 8, 9, 10, 11, 13, 14, 15, 16, 17] (c_X8_longest (l := zl E) (D := zD E) (cI := cI) (cB := cB) (cZ := cZ) (N := N) (a_t := a_p1) (a_t_rows := a_p1_rows) (a_t_tape := a_p1_tape) (a_t_reader := a_p1_reader) (a_t_now := a_p1_now) (a_t_trial := a_p1_trial) (a_t_acts := a_p1_acts) (a_t_ways := a_p1_ways) (a_t_asks := a_p1_asks) (a_t_images := a_p1_images) (a_t_imageKept := a_p1_imageKept) (a_t_now_kind := a_p1_now_kind) (a_t_now_hand := a_p1_now_hand) (a_t_now_leader := a_p1_now_leader) (a_t_now_course := a_p1_now_course) (a_t_trial_kind := a_p1_trial_kind) (a_t_trial_hand := a_p1_trial_hand) (a_t_trial_leader := a_p1_trial_leader) (a_t_trial_course := a_p1_trial_course) (l1 := (xs (Int32.toNatClampNeg (l3 + 1)))) (l2 := (xs (Int32.toNatClampNeg (l3 + 2)))) (t_latestFault := p1_latestFault) (t_latestFinding := p1_latestFinding) (t_now_players := p1_now_players) (t_now_round := p1_now_round) (t_now_time := p1_now_time) (t_now_kind := p1_now_kind) (t_now_hand := p1_now_hand) (t_now_leader := p1_now_leader) (t_trial_players := p1_trial_players) (t_trial_round := p1_trial_round) (t_trial_time := p1_trial_time) (t_trial_kind := p1_trial_kind) (t_trial_hand := p1_trial_hand) (t_trial_leader := p1_trial_leader) (t_trial_course_first := p1_trial_course_first) (t_trial_course_second := p1_trial_course_second) (t_trial_course_thrown := p1_trial_course_thrown)) rfl ⟨rfl, rfl⟩ gL_law_X8_longest hvX8_longest 0 8 rfl rfl rfl ⟨Nat.le_of_ble_eq_true rfl, Nat.le_of_ble_eq_true rfl⟩ ⟨Nat.le_of_ble_eq_true rfl, Nat.le_of_ble_eq_true rfl⟩ rfl (Nat.le_of_ble_eq_true rfl) rfl (by decide) (fun _ => rfl) dL_law_654 hR (fun r654 hR => ?_)
                                      refine z_aload_n hC dL_law_657 rfl 2 rfl ?_
                                      refine z_aload_n hC dL_law_658 rfl 0 rfl ?_
                                      refine z_iload_n hC dL_law_659 rfl 3 rfl ?_
                                      refine z_ic1 hC dL_law_660 ?_
                                      refine z_iadd hC dL_law_661 ?_
                                      refine z_sld hC hL dL_law_662 hR (fun hR => ?_)
                                      refine z_aload_n hC dL_law_663 rfl 0 rfl ?_
                                      refine z_iload_n hC dL_law_664 rfl 3 rfl ?_
                                      refine z_ic2 hC dL_law_665 ?_
                                      refine z_iadd hC dL_law_666 ?_
                                      refine z_sld hC hL dL_law_667 hR (fun hR => ?_)
                                      refine z_callVi hC hN [.int (xs (Int32.toNatClampNeg (l3 + 1))), .int (xs (Int32.toNatClampNeg (l3 + 2)))] [30, 31, 35, 44, 45] (c_X9_longest (l := zl E) (D := zD E) (cI := cI) (cB := cB) (cZ := cZ) (N := N) (a_t := a_p2) (a_t_now := a_p2_now) (a_t_kept := a_p2_kept) (a_t_isKept := a_p2_isKept) (a_t_acts := a_p2_acts) (a_t_was := a_p2_was) (a_t_lanes := a_p2_lanes) (a_t_longs := a_p2_longs) (a_t_isThere := a_p2_isThere) (a_t_items := a_p2_items) (a_t_copied := a_p2_copied) (a_t_tape := a_p2_tape) (a_t_readSorts := a_p2_readSorts) (a_t_readHands := a_p2_readHands) (a_t_inTurn := a_p2_inTurn) (a_t_ends := a_p2_ends) (a_t_bestHands := a_p2_bestHands) (a_t_traces := a_p2_traces) (l1 := (xs (Int32.toNatClampNeg (l3 + 1)))) (l2 := (xs (Int32.toNatClampNeg (l3 + 2)))) (t_manyActs := p2_manyActs) (t_status := p2_status) (t_tapeLong := p2_tapeLong) (t_fault := p2_fault) (t_tokenAt := p2_tokenAt) (t_tokenLong := p2_tokenLong) (t_token := p2_token) (t_value := p2_value) (t_winner := p2_winner) (t_throwsOf := p2_throwsOf) (t_handA := p2_handA) (t_handB := p2_handB) (t_fewestSo := p2_fewestSo) (t_traced := p2_traced) (t_now := p2_now) (t_was := p2_was) (t_inTurn := p2_inTurn) (t_ends := p2_ends)) rfl ⟨rfl, rfl⟩ gL_law_X9_longest hvX9_longest 30 9 rfl rfl rfl ⟨Nat.le_of_ble_eq_true rfl, Nat.le_of_ble_eq_true rfl⟩ ⟨Nat.le_of_ble_eq_true rfl, Nat.le_of_ble_eq_true rfl⟩ rfl (Nat.le_of_ble_eq_true rfl) rfl (by decide) (fun _ => rfl) dL_law_668 hR (fun r668 hR => ?_)
                                      refine z_icmp_eq hC 1088 dL_law_671 (by decide) hR (fun hR => ?_) (fun hR => ?_)
                                      · refine z_iinc6 hC [(3, .int (l3 + 6)), (0, .ref a_scr), (1, .ref a_p1), (2, .ref a_p2)] dL_law_1088 3 rfl (by decide) rfl ?_
                                        refine z_goto hC 18 dL_law_1091 (by decide) ?_
                                        refine z_sub (lv' := [(0, .ref a_scr), (1, .ref a_p1), (2, .ref a_p2), (3, .int (l3 + 6))]) [1, 2, 3, 0] rfl ?_
                                        exact ih a_p1_ways_best a_p1_ways_better p1_latestFault p1_latestFinding p1_rows_lane p1_rows_size p1_rows_items p1_tape_length p1_tape_bytes p1_reader_token p1_reader_start p1_reader_past p1_reader_value p1_now_players p1_now_round p1_now_time p1_now_kind p1_now_hand p1_now_leader p1_now_course_first p1_now_course_second p1_now_course_thrown r654.2.1 r654.2.2.1 r654.2.2.2.1 r654.2.2.2.2.1 r654.2.2.2.2.2.1 r654.2.2.2.2.2.2.1 r654.2.2.2.2.2.2.2.1 r654.2.2.2.2.2.2.2.2.1 r654.2.2.2.2.2.2.2.2.2 p1_acts_kept p1_acts_next p1_acts_halls p1_ways_groups p1_ways_group p1_ways_train p1_ways_best p1_ways_better p1_ways_course_first p1_ways_course_second p1_ways_course_thrown p1_asks_length p1_asks_numbers p1_images p1_imageKept p2_manyActs p2_status p2_tapeLong p2_fault p2_tokenAt p2_tokenLong p2_token p2_value r668.2.1 r668.2.2.1 r668.2.2.2.1 r668.2.2.2.2.1 p2_fewestSo p2_traced r668.2.2.2.2.2.1 p2_kept p2_isKept p2_acts r668.2.2.2.2.2.2.1 p2_lanes p2_longs p2_isThere p2_items p2_copied p2_tape p2_readSorts p2_readHands r668.2.2.2.2.2.2.2.1 r668.2.2.2.2.2.2.2.2 p2_bestHands p2_traces (l3 + 6) hR
                                      · refine z_ic0 hC dL_law_674 ?_
                                        obtain rfl := Option.some.inj hR
                                        exact absurd hrf (by decide)
                                    · refine z_by hR (fun c16 hR => ?_) (fun c16 hR => ?_)
                                      · refine z_tin hC 16 676 c16 dL_law_33 (by decide) (by decide) rfl (by decide) ?_
                                        refine z_aload_n hC dL_law_676 rfl 1 rfl ?_
                                        refine z_aload_n hC dL_law_677 rfl 0 rfl ?_
                                        refine z_iload_n hC dL_law_678 rfl 3 rfl ?_
                                        refine z_ic1 hC dL_law_679 ?_
                                        refine z_iadd hC dL_law_680 ?_
                                        refine z_sld hC hL dL_law_681 hR (fun hR => ?_)
                                        refine z_callVi hC hN [.int (xs (Int32.toNatClampNeg (l3 + 1)))] [0, 8, 9, 10, 11, 13, 14, 15, 16, 17] (c_X8_begin (l := zl E) (D := zD E) (cI := cI) (cB := cB) (cZ := cZ) (N := N) (a_t := a_p1) (a_t_rows := a_p1_rows) (a_t_tape := a_p1_tape) (a_t_reader := a_p1_reader) (a_t_now := a_p1_now) (a_t_trial := a_p1_trial) (a_t_acts := a_p1_acts) (a_t_ways := a_p1_ways) (a_t_asks := a_p1_asks) (a_t_images := a_p1_images) (a_t_imageKept := a_p1_imageKept) (a_t_now_kind := a_p1_now_kind) (a_t_now_hand := a_p1_now_hand) (a_t_now_leader := a_p1_now_leader) (a_t_now_course := a_p1_now_course) (a_t_trial_kind := a_p1_trial_kind) (a_t_trial_hand := a_p1_trial_hand) (a_t_trial_leader := a_p1_trial_leader) (a_t_trial_course := a_p1_trial_course) (l1 := (xs (Int32.toNatClampNeg (l3 + 1)))) (t_latestFault := p1_latestFault) (t_latestFinding := p1_latestFinding) (t_now_players := p1_now_players) (t_now_round := p1_now_round) (t_now_time := p1_now_time) (t_now_kind := p1_now_kind) (t_now_hand := p1_now_hand) (t_now_leader := p1_now_leader) (t_trial_players := p1_trial_players) (t_trial_round := p1_trial_round) (t_trial_time := p1_trial_time) (t_trial_kind := p1_trial_kind) (t_trial_hand := p1_trial_hand) (t_trial_leader := p1_trial_leader) (t_trial_course_first := p1_trial_course_first) (t_trial_course_second := p1_trial_course_second) (t_trial_course_thrown := p1_trial_course_thrown)) rfl ⟨rfl, rfl⟩ gL_law_X8_begin hvX8_begin 0 8 rfl rfl rfl ⟨Nat.le_of_ble_eq_true rfl, Nat.le_of_ble_eq_true rfl⟩ ⟨Nat.le_of_ble_eq_true rfl, Nat.le_of_ble_eq_true rfl⟩ rfl (Nat.le_of_ble_eq_true rfl) rfl (by decide) (fun _ => rfl) dL_law_682 hR (fun r682 hR => ?_)
                                        refine z_aload_n hC dL_law_685 rfl 2 rfl ?_
                                        refine z_aload_n hC dL_law_686 rfl 0 rfl ?_
                                        refine z_iload_n hC dL_law_687 rfl 3 rfl ?_
                                        refine z_ic1 hC dL_law_688 ?_
                                        refine z_iadd hC dL_law_689 ?_
                                        refine z_sld hC hL dL_law_690 hR (fun hR => ?_)
                                        refine z_callVi hC hN [.int (xs (Int32.toNatClampNeg (l3 + 1)))] [30, 31, 35, 44, 45] (c_X9_begin (l := zl E) (D := zD E) (cI := cI) (cB := cB) (cZ := cZ) (N := N) (a_t := a_p2) (a_t_now := a_p2_now) (a_t_kept := a_p2_kept) (a_t_isKept := a_p2_isKept) (a_t_acts := a_p2_acts) (a_t_was := a_p2_was) (a_t_lanes := a_p2_lanes) (a_t_longs := a_p2_longs) (a_t_isThere := a_p2_isThere) (a_t_items := a_p2_items) (a_t_copied := a_p2_copied) (a_t_tape := a_p2_tape) (a_t_readSorts := a_p2_readSorts) (a_t_readHands := a_p2_readHands) (a_t_inTurn := a_p2_inTurn) (a_t_ends := a_p2_ends) (a_t_bestHands := a_p2_bestHands) (a_t_traces := a_p2_traces) (l1 := (xs (Int32.toNatClampNeg (l3 + 1)))) (t_manyActs := p2_manyActs) (t_status := p2_status) (t_tapeLong := p2_tapeLong) (t_fault := p2_fault) (t_tokenAt := p2_tokenAt) (t_tokenLong := p2_tokenLong) (t_token := p2_token) (t_value := p2_value) (t_winner := p2_winner) (t_throwsOf := p2_throwsOf) (t_handA := p2_handA) (t_handB := p2_handB) (t_fewestSo := p2_fewestSo) (t_traced := p2_traced) (t_now := p2_now) (t_was := p2_was) (t_inTurn := p2_inTurn) (t_ends := p2_ends)) rfl ⟨rfl, rfl⟩ gL_law_X9_begin hvX9_begin 30 9 rfl rfl rfl ⟨Nat.le_of_ble_eq_true rfl, Nat.le_of_ble_eq_true rfl⟩ ⟨Nat.le_of_ble_eq_true rfl, Nat.le_of_ble_eq_true rfl⟩ rfl (Nat.le_of_ble_eq_true rfl) rfl (by decide) (fun _ => rfl) dL_law_691 hR (fun r691 hR => ?_)
                                        refine z_icmp_eq hC 1088 dL_law_694 (by decide) hR (fun hR => ?_) (fun hR => ?_)
                                        · refine z_iinc6 hC [(3, .int (l3 + 6)), (0, .ref a_scr), (1, .ref a_p1), (2, .ref a_p2)] dL_law_1088 3 rfl (by decide) rfl ?_
                                          refine z_goto hC 18 dL_law_1091 (by decide) ?_
                                          refine z_sub (lv' := [(0, .ref a_scr), (1, .ref a_p1), (2, .ref a_p2), (3, .int (l3 + 6))]) [1, 2, 3, 0] rfl ?_
                                          exact ih a_p1_ways_best a_p1_ways_better p1_latestFault p1_latestFinding p1_rows_lane p1_rows_size p1_rows_items p1_tape_length p1_tape_bytes p1_reader_token p1_reader_start p1_reader_past p1_reader_value p1_now_players p1_now_round p1_now_time p1_now_kind p1_now_hand p1_now_leader p1_now_course_first p1_now_course_second p1_now_course_thrown r682.2.1 r682.2.2.1 r682.2.2.2.1 r682.2.2.2.2.1 r682.2.2.2.2.2.1 r682.2.2.2.2.2.2.1 r682.2.2.2.2.2.2.2.1 r682.2.2.2.2.2.2.2.2.1 r682.2.2.2.2.2.2.2.2.2 p1_acts_kept p1_acts_next p1_acts_halls p1_ways_groups p1_ways_group p1_ways_train p1_ways_best p1_ways_better p1_ways_course_first p1_ways_course_second p1_ways_course_thrown p1_asks_length p1_asks_numbers p1_images p1_imageKept p2_manyActs p2_status p2_tapeLong p2_fault p2_tokenAt p2_tokenLong p2_token p2_value r691.2.1 r691.2.2.1 r691.2.2.2.1 r691.2.2.2.2.1 p2_fewestSo p2_traced r691.2.2.2.2.2.1 p2_kept p2_isKept p2_acts r691.2.2.2.2.2.2.1 p2_lanes p2_longs p2_isThere p2_items p2_copied p2_tape p2_readSorts p2_readHands r691.2.2.2.2.2.2.2.1 r691.2.2.2.2.2.2.2.2 p2_bestHands p2_traces (l3 + 6) hR
                                        · refine z_ic0 hC dL_law_697 ?_
                                          obtain rfl := Option.some.inj hR
                                          exact absurd hrf (by decide)
                                      · refine z_by hR (fun c17 hR => ?_) (fun c17 hR => ?_)
                                        · refine z_tin hC 17 699 c17 dL_law_33 (by decide) (by decide) rfl (by decide) ?_
                                          refine z_aload_n hC dL_law_699 rfl 1 rfl ?_
                                          refine z_aload_n hC dL_law_700 rfl 0 rfl ?_
                                          refine z_iload_n hC dL_law_701 rfl 3 rfl ?_
                                          refine z_ic1 hC dL_law_702 ?_
                                          refine z_iadd hC dL_law_703 ?_
                                          refine z_sld hC hL dL_law_704 hR (fun hR => ?_)
                                          refine z_callVi hC hN [.int (xs (Int32.toNatClampNeg (l3 + 1)))] [0, 8, 9, 10, 11, 13, 14, 15, 16, 17] (c_X8_seek (l := zl E) (D := zD E) (cI := cI) (cB := cB) (cZ := cZ) (N := N) (a_t := a_p1) (a_t_rows := a_p1_rows) (a_t_tape := a_p1_tape) (a_t_reader := a_p1_reader) (a_t_now := a_p1_now) (a_t_trial := a_p1_trial) (a_t_acts := a_p1_acts) (a_t_ways := a_p1_ways) (a_t_asks := a_p1_asks) (a_t_images := a_p1_images) (a_t_imageKept := a_p1_imageKept) (a_t_now_kind := a_p1_now_kind) (a_t_now_hand := a_p1_now_hand) (a_t_now_leader := a_p1_now_leader) (a_t_now_course := a_p1_now_course) (a_t_trial_kind := a_p1_trial_kind) (a_t_trial_hand := a_p1_trial_hand) (a_t_trial_leader := a_p1_trial_leader) (a_t_trial_course := a_p1_trial_course) (l1 := (xs (Int32.toNatClampNeg (l3 + 1)))) (t_latestFault := p1_latestFault) (t_latestFinding := p1_latestFinding) (t_now_players := p1_now_players) (t_now_round := p1_now_round) (t_now_time := p1_now_time) (t_now_kind := p1_now_kind) (t_now_hand := p1_now_hand) (t_now_leader := p1_now_leader) (t_trial_players := p1_trial_players) (t_trial_round := p1_trial_round) (t_trial_time := p1_trial_time) (t_trial_kind := p1_trial_kind) (t_trial_hand := p1_trial_hand) (t_trial_leader := p1_trial_leader) (t_trial_course_first := p1_trial_course_first) (t_trial_course_second := p1_trial_course_second) (t_trial_course_thrown := p1_trial_course_thrown)) rfl ⟨rfl, rfl⟩ gL_law_X8_seek hvX8_seek 0 8 rfl rfl rfl ⟨Nat.le_of_ble_eq_true rfl, Nat.le_of_ble_eq_true rfl⟩ ⟨Nat.le_of_ble_eq_true rfl, Nat.le_of_ble_eq_true rfl⟩ rfl (Nat.le_of_ble_eq_true rfl) rfl (by decide) (fun _ => rfl) dL_law_705 hR (fun r705 hR => ?_)
                                          refine z_aload_n hC dL_law_708 rfl 2 rfl ?_
                                          refine z_aload_n hC dL_law_709 rfl 0 rfl ?_
                                          refine z_iload_n hC dL_law_710 rfl 3 rfl ?_
                                          refine z_ic1 hC dL_law_711 ?_
                                          refine z_iadd hC dL_law_712 ?_
                                          refine z_sld hC hL dL_law_713 hR (fun hR => ?_)
                                          refine z_callVi hC hN [.int (xs (Int32.toNatClampNeg (l3 + 1)))] [30, 31, 35, 44, 45] (c_X9_seek (l := zl E) (D := zD E) (cI := cI) (cB := cB) (cZ := cZ) (N := N) (a_t := a_p2) (a_t_now := a_p2_now) (a_t_kept := a_p2_kept) (a_t_isKept := a_p2_isKept) (a_t_acts := a_p2_acts) (a_t_was := a_p2_was) (a_t_lanes := a_p2_lanes) (a_t_longs := a_p2_longs) (a_t_isThere := a_p2_isThere) (a_t_items := a_p2_items) (a_t_copied := a_p2_copied) (a_t_tape := a_p2_tape) (a_t_readSorts := a_p2_readSorts) (a_t_readHands := a_p2_readHands) (a_t_inTurn := a_p2_inTurn) (a_t_ends := a_p2_ends) (a_t_bestHands := a_p2_bestHands) (a_t_traces := a_p2_traces) (l1 := (xs (Int32.toNatClampNeg (l3 + 1)))) (t_manyActs := p2_manyActs) (t_status := p2_status) (t_tapeLong := p2_tapeLong) (t_fault := p2_fault) (t_tokenAt := p2_tokenAt) (t_tokenLong := p2_tokenLong) (t_token := p2_token) (t_value := p2_value) (t_winner := p2_winner) (t_throwsOf := p2_throwsOf) (t_handA := p2_handA) (t_handB := p2_handB) (t_fewestSo := p2_fewestSo) (t_traced := p2_traced) (t_now := p2_now) (t_was := p2_was) (t_inTurn := p2_inTurn) (t_ends := p2_ends)) rfl ⟨rfl, rfl⟩ gL_law_X9_seek hvX9_seek 30 9 rfl rfl rfl ⟨Nat.le_of_ble_eq_true rfl, Nat.le_of_ble_eq_true rfl⟩ ⟨Nat.le_of_ble_eq_true rfl, Nat.le_of_ble_eq_true rfl⟩ rfl (Nat.le_of_ble_eq_true rfl) rfl (by decide) (fun _ => rfl) dL_law_714 hR (fun r714 hR => ?_)
                                          refine z_icmp_eq hC 1088 dL_law_717 (by decide) hR (fun hR => ?_) (fun hR => ?_)
                                          · refine z_iinc6 hC [(3, .int (l3 + 6)), (0, .ref a_scr), (1, .ref a_p1), (2, .ref a_p2)] dL_law_1088 3 rfl (by decide) rfl ?_
                                            refine z_goto hC 18 dL_law_1091 (by decide) ?_
                                            refine z_sub (lv' := [(0, .ref a_scr), (1, .ref a_p1), (2, .ref a_p2), (3, .int (l3 + 6))]) [1, 2, 3, 0] rfl ?_
                                            exact ih a_p1_ways_best a_p1_ways_better p1_latestFault p1_latestFinding p1_rows_lane p1_rows_size p1_rows_items p1_tape_length p1_tape_bytes p1_reader_token p1_reader_start p1_reader_past p1_reader_value p1_now_players p1_now_round p1_now_time p1_now_kind p1_now_hand p1_now_leader p1_now_course_first p1_now_course_second p1_now_course_thrown r705.2.1 r705.2.2.1 r705.2.2.2.1 r705.2.2.2.2.1 r705.2.2.2.2.2.1 r705.2.2.2.2.2.2.1 r705.2.2.2.2.2.2.2.1 r705.2.2.2.2.2.2.2.2.1 r705.2.2.2.2.2.2.2.2.2 p1_acts_kept p1_acts_next p1_acts_halls p1_ways_groups p1_ways_group p1_ways_train p1_ways_best p1_ways_better p1_ways_course_first p1_ways_course_second p1_ways_course_thrown p1_asks_length p1_asks_numbers p1_images p1_imageKept p2_manyActs p2_status p2_tapeLong p2_fault p2_tokenAt p2_tokenLong p2_token p2_value r714.2.1 r714.2.2.1 r714.2.2.2.1 r714.2.2.2.2.1 p2_fewestSo p2_traced r714.2.2.2.2.2.1 p2_kept p2_isKept p2_acts r714.2.2.2.2.2.2.1 p2_lanes p2_longs p2_isThere p2_items p2_copied p2_tape p2_readSorts p2_readHands r714.2.2.2.2.2.2.2.1 r714.2.2.2.2.2.2.2.2 p2_bestHands p2_traces (l3 + 6) hR
                                          · refine z_ic0 hC dL_law_720 ?_
                                            obtain rfl := Option.some.inj hR
                                            exact absurd hrf (by decide)
                                        · refine z_by hR (fun c18 hR => ?_) (fun c18 hR => ?_)
                                          · refine z_tin hC 18 722 c18 dL_law_33 (by decide) (by decide) rfl (by decide) ?_
                                            refine z_aload_n hC dL_law_722 rfl 1 rfl ?_
                                            refine z_aload_n hC dL_law_723 rfl 0 rfl ?_
                                            refine z_iload_n hC dL_law_724 rfl 3 rfl ?_
                                            refine z_ic1 hC dL_law_725 ?_
                                            refine z_iadd hC dL_law_726 ?_
                                            refine z_sld hC hL dL_law_727 hR (fun hR => ?_)
                                            refine z_aload_n hC dL_law_728 rfl 0 rfl ?_
                                            refine z_iload_n hC dL_law_729 rfl 3 rfl ?_
                                            refine z_ic2 hC dL_law_730 ?_
                                            refine z_iadd hC dL_law_731 ?_
                                            refine z_sld hC hL dL_law_732 hR (fun hR => ?_)
                                            refine z_callVi hC hN [.int (xs (Int32.toNatClampNeg (l3 + 1))), .int (xs (Int32.toNatClampNeg (l3 + 2)))] [0, 8, 9, 10, 11, 20, 21, 22, 23, 24, 25] (c_X8_fewest (l := zl E) (D := zD E) (cI := cI) (cB := cB) (cZ := cZ) (N := N) (a_t := a_p1) (a_t_rows := a_p1_rows) (a_t_tape := a_p1_tape) (a_t_reader := a_p1_reader) (a_t_now := a_p1_now) (a_t_trial := a_p1_trial) (a_t_acts := a_p1_acts) (a_t_ways := a_p1_ways) (a_t_asks := a_p1_asks) (a_t_images := a_p1_images) (a_t_imageKept := a_p1_imageKept) (a_t_now_kind := a_p1_now_kind) (a_t_now_hand := a_p1_now_hand) (a_t_now_leader := a_p1_now_leader) (a_t_now_course := a_p1_now_course) (a_t_ways_group := a_p1_ways_group) (a_t_ways_train := a_p1_ways_train) (a_t_ways_best := a_p1_ways_best) (a_t_ways_better := a_p1_ways_better) (a_t_ways_course := a_p1_ways_course) (l1 := (xs (Int32.toNatClampNeg (l3 + 1)))) (l2 := (xs (Int32.toNatClampNeg (l3 + 2)))) (t_latestFault := p1_latestFault) (t_latestFinding := p1_latestFinding) (t_now_players := p1_now_players) (t_now_round := p1_now_round) (t_now_time := p1_now_time) (t_now_kind := p1_now_kind) (t_now_hand := p1_now_hand) (t_now_leader := p1_now_leader) (t_ways_groups := p1_ways_groups) (t_ways_group := p1_ways_group) (t_ways_train := p1_ways_train) (t_ways_best := p1_ways_best) (t_ways_better := p1_ways_better) (t_ways_course_first := p1_ways_course_first) (t_ways_course_second := p1_ways_course_second) (t_ways_course_thrown := p1_ways_course_thrown)) rfl ⟨rfl, rfl⟩ gL_law_X8_fewest hvX8_fewest 0 8 rfl rfl rfl ⟨Nat.le_of_ble_eq_true rfl, Nat.le_of_ble_eq_true rfl⟩ ⟨Nat.le_of_ble_eq_true rfl, Nat.le_of_ble_eq_true rfl⟩ rfl (Nat.le_of_ble_eq_true rfl) rfl (by decide) (fun _ => rfl) dL_law_733 hR (fun r733 hR => ?_)
                                            refine z_aload_n hC dL_law_736 rfl 2 rfl ?_
                                            refine z_aload_n hC dL_law_737 rfl 0 rfl ?_
                                            refine z_iload_n hC dL_law_738 rfl 3 rfl ?_
                                            refine z_ic1 hC dL_law_739 ?_
                                            refine z_iadd hC dL_law_740 ?_
                                            refine z_sld hC hL dL_law_741 hR (fun hR => ?_)
                                            refine z_aload_n hC dL_law_742 rfl 0 rfl ?_
                                            refine z_iload_n hC dL_law_743 rfl 3 rfl ?_
                                            refine z_ic2 hC dL_law_744 ?_
                                            refine z_iadd hC dL_law_745 ?_
                                            refine z_sld hC hL dL_law_746 hR (fun hR => ?_)
                                            refine z_callVi hC hN [.int (xs (Int32.toNatClampNeg (l3 + 1))), .int (xs (Int32.toNatClampNeg (l3 + 2)))] [30, 31, 35, 40, 44, 45, 46] (c_X9_fewest (l := zl E) (D := zD E) (cI := cI) (cB := cB) (cZ := cZ) (N := N) (a_t := a_p2) (a_t_now := a_p2_now) (a_t_kept := a_p2_kept) (a_t_isKept := a_p2_isKept) (a_t_acts := a_p2_acts) (a_t_was := a_p2_was) (a_t_lanes := a_p2_lanes) (a_t_longs := a_p2_longs) (a_t_isThere := a_p2_isThere) (a_t_items := a_p2_items) (a_t_copied := a_p2_copied) (a_t_tape := a_p2_tape) (a_t_readSorts := a_p2_readSorts) (a_t_readHands := a_p2_readHands) (a_t_inTurn := a_p2_inTurn) (a_t_ends := a_p2_ends) (a_t_bestHands := a_p2_bestHands) (a_t_traces := a_p2_traces) (l1 := (xs (Int32.toNatClampNeg (l3 + 1)))) (l2 := (xs (Int32.toNatClampNeg (l3 + 2)))) (t_manyActs := p2_manyActs) (t_status := p2_status) (t_tapeLong := p2_tapeLong) (t_fault := p2_fault) (t_tokenAt := p2_tokenAt) (t_tokenLong := p2_tokenLong) (t_token := p2_token) (t_value := p2_value) (t_winner := p2_winner) (t_throwsOf := p2_throwsOf) (t_handA := p2_handA) (t_handB := p2_handB) (t_fewestSo := p2_fewestSo) (t_traced := p2_traced) (t_now := p2_now) (t_was := p2_was) (t_copied := p2_copied) (t_inTurn := p2_inTurn) (t_ends := p2_ends) (t_bestHands := p2_bestHands)) rfl ⟨rfl, rfl⟩ gL_law_X9_fewest hvX9_fewest 30 9 rfl rfl rfl ⟨Nat.le_of_ble_eq_true rfl, Nat.le_of_ble_eq_true rfl⟩ ⟨Nat.le_of_ble_eq_true rfl, Nat.le_of_ble_eq_true rfl⟩ rfl (Nat.le_of_ble_eq_true rfl) rfl (by decide) (fun _ => rfl) dL_law_747 hR (fun r747 hR => ?_)
                                            refine z_icmp_eq hC 1088 dL_law_750 (by decide) hR (fun hR => ?_) (fun hR => ?_)
                                            · refine z_iinc6 hC [(3, .int (l3 + 6)), (0, .ref a_scr), (1, .ref a_p1), (2, .ref a_p2)] dL_law_1088 3 rfl (by decide) rfl ?_
                                              refine z_goto hC 18 dL_law_1091 (by decide) ?_
                                              refine z_sub (lv' := [(0, .ref a_scr), (1, .ref a_p1), (2, .ref a_p2), (3, .int (l3 + 6))]) [1, 2, 3, 0] rfl ?_
                                              exact ih r733.2.2.1 r733.2.2.2.1 p1_latestFault p1_latestFinding p1_rows_lane p1_rows_size p1_rows_items p1_tape_length p1_tape_bytes p1_reader_token p1_reader_start p1_reader_past p1_reader_value p1_now_players p1_now_round p1_now_time p1_now_kind p1_now_hand p1_now_leader p1_now_course_first p1_now_course_second p1_now_course_thrown p1_trial_players p1_trial_round p1_trial_time p1_trial_kind p1_trial_hand p1_trial_leader p1_trial_course_first p1_trial_course_second p1_trial_course_thrown p1_acts_kept p1_acts_next p1_acts_halls r733.2.1 r733.2.2.2.2.1 r733.2.2.2.2.2.1 r733.2.2.2.2.2.2.1 r733.2.2.2.2.2.2.2.1 r733.2.2.2.2.2.2.2.2.1 r733.2.2.2.2.2.2.2.2.2.1 r733.2.2.2.2.2.2.2.2.2.2 p1_asks_length p1_asks_numbers p1_images p1_imageKept p2_manyActs p2_status p2_tapeLong p2_fault p2_tokenAt p2_tokenLong p2_token p2_value r747.2.1 r747.2.2.1 r747.2.2.2.1 r747.2.2.2.2.1 r747.2.2.2.2.2.1 p2_traced r747.2.2.2.2.2.2.1 p2_kept p2_isKept p2_acts r747.2.2.2.2.2.2.2.1 p2_lanes p2_longs p2_isThere p2_items r747.2.2.2.2.2.2.2.2.1 p2_tape p2_readSorts p2_readHands r747.2.2.2.2.2.2.2.2.2.1 r747.2.2.2.2.2.2.2.2.2.2.1 r747.2.2.2.2.2.2.2.2.2.2.2 p2_traces (l3 + 6) hR
                                            · refine z_ic0 hC dL_law_753 ?_
                                              obtain rfl := Option.some.inj hR
                                              exact absurd hrf (by decide)
                                          · refine z_by hR (fun c19 hR => ?_) (fun c19 hR => ?_)
                                            · refine z_tin hC 19 755 c19 dL_law_33 (by decide) (by decide) rfl (by decide) ?_
                                              refine z_aload_n hC dL_law_755 rfl 1 rfl ?_
                                              refine z_aload_n hC dL_law_756 rfl 0 rfl ?_
                                              refine z_iload_n hC dL_law_757 rfl 3 rfl ?_
                                              refine z_ic1 hC dL_law_758 ?_
                                              refine z_iadd hC dL_law_759 ?_
                                              refine z_sld hC hL dL_law_760 hR (fun hR => ?_)
                                              refine z_aload_n hC dL_law_761 rfl 0 rfl ?_
                                              refine z_iload_n hC dL_law_762 rfl 3 rfl ?_
                                              refine z_ic2 hC dL_law_763 ?_
                                              refine z_iadd hC dL_law_764 ?_
                                              refine z_sld hC hL dL_law_765 hR (fun hR => ?_)
                                              refine z_callVi hC hN [.int (xs (Int32.toNatClampNeg (l3 + 1))), .int (xs (Int32.toNatClampNeg (l3 + 2)))] [0, 8, 9, 10, 11, 13, 14, 15, 16, 17] (c_X8_begun (l := zl E) (D := zD E) (cI := cI) (cB := cB) (cZ := cZ) (N := N) (a_t := a_p1) (a_t_rows := a_p1_rows) (a_t_tape := a_p1_tape) (a_t_reader := a_p1_reader) (a_t_now := a_p1_now) (a_t_trial := a_p1_trial) (a_t_acts := a_p1_acts) (a_t_ways := a_p1_ways) (a_t_asks := a_p1_asks) (a_t_images := a_p1_images) (a_t_imageKept := a_p1_imageKept) (a_t_now_kind := a_p1_now_kind) (a_t_now_hand := a_p1_now_hand) (a_t_now_leader := a_p1_now_leader) (a_t_now_course := a_p1_now_course) (a_t_trial_kind := a_p1_trial_kind) (a_t_trial_hand := a_p1_trial_hand) (a_t_trial_leader := a_p1_trial_leader) (a_t_trial_course := a_p1_trial_course) (l1 := (xs (Int32.toNatClampNeg (l3 + 1)))) (l2 := (xs (Int32.toNatClampNeg (l3 + 2)))) (t_latestFault := p1_latestFault) (t_latestFinding := p1_latestFinding) (t_now_players := p1_now_players) (t_now_round := p1_now_round) (t_now_time := p1_now_time) (t_now_kind := p1_now_kind) (t_now_hand := p1_now_hand) (t_now_leader := p1_now_leader) (t_trial_players := p1_trial_players) (t_trial_round := p1_trial_round) (t_trial_time := p1_trial_time) (t_trial_kind := p1_trial_kind) (t_trial_hand := p1_trial_hand) (t_trial_leader := p1_trial_leader) (t_trial_course_first := p1_trial_course_first) (t_trial_course_second := p1_trial_course_second) (t_trial_course_thrown := p1_trial_course_thrown)) rfl ⟨rfl, rfl⟩ gL_law_X8_begun hvX8_begun 0 8 rfl rfl rfl ⟨Nat.le_of_ble_eq_true rfl, Nat.le_of_ble_eq_true rfl⟩ ⟨Nat.le_of_ble_eq_true rfl, Nat.le_of_ble_eq_true rfl⟩ rfl (Nat.le_of_ble_eq_true rfl) rfl (by decide) (fun _ => rfl) dL_law_766 hR (fun r766 hR => ?_)
                                              refine z_aload_n hC dL_law_769 rfl 2 rfl ?_
                                              refine z_aload_n hC dL_law_770 rfl 0 rfl ?_
                                              refine z_iload_n hC dL_law_771 rfl 3 rfl ?_
                                              refine z_ic1 hC dL_law_772 ?_
                                              refine z_iadd hC dL_law_773 ?_
                                              refine z_sld hC hL dL_law_774 hR (fun hR => ?_)
                                              refine z_aload_n hC dL_law_775 rfl 0 rfl ?_
                                              refine z_iload_n hC dL_law_776 rfl 3 rfl ?_
                                              refine z_ic2 hC dL_law_777 ?_
                                              refine z_iadd hC dL_law_778 ?_
                                              refine z_sld hC hL dL_law_779 hR (fun hR => ?_)
                                              refine z_callVi hC hN [.int (xs (Int32.toNatClampNeg (l3 + 1))), .int (xs (Int32.toNatClampNeg (l3 + 2)))] [30, 31, 35, 44, 45] (c_X9_begun (l := zl E) (D := zD E) (cI := cI) (cB := cB) (cZ := cZ) (N := N) (a_t := a_p2) (a_t_now := a_p2_now) (a_t_kept := a_p2_kept) (a_t_isKept := a_p2_isKept) (a_t_acts := a_p2_acts) (a_t_was := a_p2_was) (a_t_lanes := a_p2_lanes) (a_t_longs := a_p2_longs) (a_t_isThere := a_p2_isThere) (a_t_items := a_p2_items) (a_t_copied := a_p2_copied) (a_t_tape := a_p2_tape) (a_t_readSorts := a_p2_readSorts) (a_t_readHands := a_p2_readHands) (a_t_inTurn := a_p2_inTurn) (a_t_ends := a_p2_ends) (a_t_bestHands := a_p2_bestHands) (a_t_traces := a_p2_traces) (l1 := (xs (Int32.toNatClampNeg (l3 + 1)))) (l2 := (xs (Int32.toNatClampNeg (l3 + 2)))) (t_manyActs := p2_manyActs) (t_status := p2_status) (t_tapeLong := p2_tapeLong) (t_fault := p2_fault) (t_tokenAt := p2_tokenAt) (t_tokenLong := p2_tokenLong) (t_token := p2_token) (t_value := p2_value) (t_winner := p2_winner) (t_throwsOf := p2_throwsOf) (t_handA := p2_handA) (t_handB := p2_handB) (t_fewestSo := p2_fewestSo) (t_traced := p2_traced) (t_now := p2_now) (t_was := p2_was) (t_inTurn := p2_inTurn) (t_ends := p2_ends)) rfl ⟨rfl, rfl⟩ gL_law_X9_begun hvX9_begun 30 9 rfl rfl rfl ⟨Nat.le_of_ble_eq_true rfl, Nat.le_of_ble_eq_true rfl⟩ ⟨Nat.le_of_ble_eq_true rfl, Nat.le_of_ble_eq_true rfl⟩ rfl (Nat.le_of_ble_eq_true rfl) rfl (by decide) (fun _ => rfl) dL_law_780 hR (fun r780 hR => ?_)
                                              refine z_icmp_eq hC 1088 dL_law_783 (by decide) hR (fun hR => ?_) (fun hR => ?_)
                                              · refine z_iinc6 hC [(3, .int (l3 + 6)), (0, .ref a_scr), (1, .ref a_p1), (2, .ref a_p2)] dL_law_1088 3 rfl (by decide) rfl ?_
                                                refine z_goto hC 18 dL_law_1091 (by decide) ?_
                                                refine z_sub (lv' := [(0, .ref a_scr), (1, .ref a_p1), (2, .ref a_p2), (3, .int (l3 + 6))]) [1, 2, 3, 0] rfl ?_
                                                exact ih a_p1_ways_best a_p1_ways_better p1_latestFault p1_latestFinding p1_rows_lane p1_rows_size p1_rows_items p1_tape_length p1_tape_bytes p1_reader_token p1_reader_start p1_reader_past p1_reader_value p1_now_players p1_now_round p1_now_time p1_now_kind p1_now_hand p1_now_leader p1_now_course_first p1_now_course_second p1_now_course_thrown r766.2.1 r766.2.2.1 r766.2.2.2.1 r766.2.2.2.2.1 r766.2.2.2.2.2.1 r766.2.2.2.2.2.2.1 r766.2.2.2.2.2.2.2.1 r766.2.2.2.2.2.2.2.2.1 r766.2.2.2.2.2.2.2.2.2 p1_acts_kept p1_acts_next p1_acts_halls p1_ways_groups p1_ways_group p1_ways_train p1_ways_best p1_ways_better p1_ways_course_first p1_ways_course_second p1_ways_course_thrown p1_asks_length p1_asks_numbers p1_images p1_imageKept p2_manyActs p2_status p2_tapeLong p2_fault p2_tokenAt p2_tokenLong p2_token p2_value r780.2.1 r780.2.2.1 r780.2.2.2.1 r780.2.2.2.2.1 p2_fewestSo p2_traced r780.2.2.2.2.2.1 p2_kept p2_isKept p2_acts r780.2.2.2.2.2.2.1 p2_lanes p2_longs p2_isThere p2_items p2_copied p2_tape p2_readSorts p2_readHands r780.2.2.2.2.2.2.2.1 r780.2.2.2.2.2.2.2.2 p2_bestHands p2_traces (l3 + 6) hR
                                              · refine z_ic0 hC dL_law_786 ?_
                                                obtain rfl := Option.some.inj hR
                                                exact absurd hrf (by decide)
                                            · refine z_by hR (fun c20 hR => ?_) (fun c20 hR => ?_)
                                              · refine z_tin hC 20 788 c20 dL_law_33 (by decide) (by decide) rfl (by decide) ?_
                                                refine z_aload_n hC dL_law_788 rfl 1 rfl ?_
                                                refine z_aload_n hC dL_law_789 rfl 0 rfl ?_
                                                refine z_iload_n hC dL_law_790 rfl 3 rfl ?_
                                                refine z_ic1 hC dL_law_791 ?_
                                                refine z_iadd hC dL_law_792 ?_
                                                refine z_sld hC hL dL_law_793 hR (fun hR => ?_)
                                                refine z_aload_n hC dL_law_794 rfl 0 rfl ?_
                                                refine z_iload_n hC dL_law_795 rfl 3 rfl ?_
                                                refine z_ic2 hC dL_law_796 ?_
                                                refine z_iadd hC dL_law_797 ?_
                                                refine z_sld hC hL dL_law_798 hR (fun hR => ?_)
                                                refine z_aload_n hC dL_law_799 rfl 0 rfl ?_
                                                refine z_iload_n hC dL_law_800 rfl 3 rfl ?_
                                                refine z_ic3 hC dL_law_801 ?_
                                                refine z_iadd hC dL_law_802 ?_
                                                refine z_sld hC hL dL_law_803 hR (fun hR => ?_)
                                                refine z_aload_n hC dL_law_804 rfl 0 rfl ?_
                                                refine z_iload_n hC dL_law_805 rfl 3 rfl ?_
                                                refine z_ic4 hC dL_law_806 ?_
                                                refine z_iadd hC dL_law_807 ?_
                                                refine z_sld hC hL dL_law_808 hR (fun hR => ?_)
                                                refine z_aload_n hC dL_law_809 rfl 0 rfl ?_
                                                refine z_iload_n hC dL_law_810 rfl 3 rfl ?_
                                                refine z_ic5 hC dL_law_811 ?_
                                                refine z_iadd hC dL_law_812 ?_
                                                refine z_sld hC hL dL_law_813 hR (fun hR => ?_)
                                                refine z_callVi_p hC hN [.int (xs (Int32.toNatClampNeg (l3 + 1))), .int (xs (Int32.toNatClampNeg (l3 + 2))), .int (xs (Int32.toNatClampNeg (l3 + 3))), .int (xs (Int32.toNatClampNeg (l3 + 4))), .int (xs (Int32.toNatClampNeg (l3 + 5)))] [0] (c_X8_odds (l := zl E) (D := zD E) (cI := cI) (cB := cB) (cZ := cZ) (N := N) (a_t := a_p1) (a_t_rows := a_p1_rows) (a_t_tape := a_p1_tape) (a_t_reader := a_p1_reader) (a_t_now := a_p1_now) (a_t_trial := a_p1_trial) (a_t_acts := a_p1_acts) (a_t_ways := a_p1_ways) (a_t_asks := a_p1_asks) (a_t_images := a_p1_images) (a_t_imageKept := a_p1_imageKept) (l1 := (xs (Int32.toNatClampNeg (l3 + 1)))) (l2 := (xs (Int32.toNatClampNeg (l3 + 2)))) (l3 := (xs (Int32.toNatClampNeg (l3 + 3)))) (l4 := (xs (Int32.toNatClampNeg (l3 + 4)))) (l5 := (xs (Int32.toNatClampNeg (l3 + 5)))) (t_latestFault := p1_latestFault) (t_latestFinding := p1_latestFinding)) rfl ⟨rfl, rfl⟩ gL_law_X8_odds hvX8_odds 0 8 rfl rfl rfl ⟨Nat.le_of_ble_eq_true rfl, Nat.le_of_ble_eq_true rfl⟩ ⟨Nat.le_of_ble_eq_true rfl, Nat.le_of_ble_eq_true rfl⟩ rfl (Nat.le_of_ble_eq_true rfl) rfl (by decide) dL_law_814 hR (fun r814 hR => ?_)
                                                refine z_aload_n hC dL_law_817 rfl 2 rfl ?_
                                                refine z_aload_n hC dL_law_818 rfl 0 rfl ?_
                                                refine z_iload_n hC dL_law_819 rfl 3 rfl ?_
                                                refine z_ic1 hC dL_law_820 ?_
                                                refine z_iadd hC dL_law_821 ?_
                                                refine z_sld hC hL dL_law_822 hR (fun hR => ?_)
                                                refine z_aload_n hC dL_law_823 rfl 0 rfl ?_
                                                refine z_iload_n hC dL_law_824 rfl 3 rfl ?_
                                                refine z_ic2 hC dL_law_825 ?_
                                                refine z_iadd hC dL_law_826 ?_
                                                refine z_sld hC hL dL_law_827 hR (fun hR => ?_)
                                                refine z_aload_n hC dL_law_828 rfl 0 rfl ?_
                                                refine z_iload_n hC dL_law_829 rfl 3 rfl ?_
                                                refine z_ic3 hC dL_law_830 ?_
                                                refine z_iadd hC dL_law_831 ?_
                                                refine z_sld hC hL dL_law_832 hR (fun hR => ?_)
                                                refine z_aload_n hC dL_law_833 rfl 0 rfl ?_
                                                refine z_iload_n hC dL_law_834 rfl 3 rfl ?_
                                                refine z_ic4 hC dL_law_835 ?_
                                                refine z_iadd hC dL_law_836 ?_
                                                refine z_sld hC hL dL_law_837 hR (fun hR => ?_)
                                                refine z_aload_n hC dL_law_838 rfl 0 rfl ?_
                                                refine z_iload_n hC dL_law_839 rfl 3 rfl ?_
                                                refine z_ic5 hC dL_law_840 ?_
                                                refine z_iadd hC dL_law_841 ?_
                                                refine z_sld hC hL dL_law_842 hR (fun hR => ?_)
                                                refine z_callVi_p hC hN [.int (xs (Int32.toNatClampNeg (l3 + 1))), .int (xs (Int32.toNatClampNeg (l3 + 2))), .int (xs (Int32.toNatClampNeg (l3 + 3))), .int (xs (Int32.toNatClampNeg (l3 + 4))), .int (xs (Int32.toNatClampNeg (l3 + 5)))] [30] (c_X9_odds (l := zl E) (D := zD E) (cI := cI) (cB := cB) (cZ := cZ) (N := N) (a_t := a_p2) (a_t_now := a_p2_now) (a_t_kept := a_p2_kept) (a_t_isKept := a_p2_isKept) (a_t_acts := a_p2_acts) (a_t_was := a_p2_was) (a_t_lanes := a_p2_lanes) (a_t_longs := a_p2_longs) (a_t_isThere := a_p2_isThere) (a_t_items := a_p2_items) (a_t_copied := a_p2_copied) (a_t_tape := a_p2_tape) (a_t_readSorts := a_p2_readSorts) (a_t_readHands := a_p2_readHands) (a_t_inTurn := a_p2_inTurn) (a_t_ends := a_p2_ends) (a_t_bestHands := a_p2_bestHands) (a_t_traces := a_p2_traces) (l1 := (xs (Int32.toNatClampNeg (l3 + 1)))) (l2 := (xs (Int32.toNatClampNeg (l3 + 2)))) (l3 := (xs (Int32.toNatClampNeg (l3 + 3)))) (l4 := (xs (Int32.toNatClampNeg (l3 + 4)))) (l5 := (xs (Int32.toNatClampNeg (l3 + 5)))) (t_manyActs := p2_manyActs) (t_status := p2_status) (t_tapeLong := p2_tapeLong) (t_fault := p2_fault) (t_tokenAt := p2_tokenAt) (t_tokenLong := p2_tokenLong) (t_token := p2_token) (t_value := p2_value) (t_winner := p2_winner) (t_throwsOf := p2_throwsOf) (t_handA := p2_handA) (t_handB := p2_handB) (t_fewestSo := p2_fewestSo) (t_traced := p2_traced)) rfl ⟨rfl, rfl⟩ gL_law_X9_odds hvX9_odds 30 9 rfl rfl rfl ⟨Nat.le_of_ble_eq_true rfl, Nat.le_of_ble_eq_true rfl⟩ ⟨Nat.le_of_ble_eq_true rfl, Nat.le_of_ble_eq_true rfl⟩ rfl (Nat.le_of_ble_eq_true rfl) rfl (by decide) dL_law_843 hR (fun r843 hR => ?_)
                                                refine z_icmp_eq hC 1088 dL_law_846 (by decide) hR (fun hR => ?_) (fun hR => ?_)
                                                · refine z_iinc6 hC [(3, .int (l3 + 6)), (0, .ref a_scr), (1, .ref a_p1), (2, .ref a_p2)] dL_law_1088 3 rfl (by decide) rfl ?_
                                                  refine z_goto hC 18 dL_law_1091 (by decide) ?_
                                                  refine z_sub (lv' := [(0, .ref a_scr), (1, .ref a_p1), (2, .ref a_p2), (3, .int (l3 + 6))]) [1, 2, 3, 0] rfl ?_
                                                  exact ih a_p1_ways_best a_p1_ways_better p1_latestFault p1_latestFinding p1_rows_lane p1_rows_size p1_rows_items p1_tape_length p1_tape_bytes p1_reader_token p1_reader_start p1_reader_past p1_reader_value p1_now_players p1_now_round p1_now_time p1_now_kind p1_now_hand p1_now_leader p1_now_course_first p1_now_course_second p1_now_course_thrown p1_trial_players p1_trial_round p1_trial_time p1_trial_kind p1_trial_hand p1_trial_leader p1_trial_course_first p1_trial_course_second p1_trial_course_thrown p1_acts_kept p1_acts_next p1_acts_halls p1_ways_groups p1_ways_group p1_ways_train p1_ways_best p1_ways_better p1_ways_course_first p1_ways_course_second p1_ways_course_thrown p1_asks_length p1_asks_numbers p1_images p1_imageKept p2_manyActs p2_status p2_tapeLong p2_fault p2_tokenAt p2_tokenLong p2_token p2_value p2_winner p2_throwsOf p2_handA p2_handB p2_fewestSo p2_traced p2_now p2_kept p2_isKept p2_acts p2_was p2_lanes p2_longs p2_isThere p2_items p2_copied p2_tape p2_readSorts p2_readHands p2_inTurn p2_ends p2_bestHands p2_traces (l3 + 6) hR
                                                · refine z_ic0 hC dL_law_849 ?_
                                                  obtain rfl := Option.some.inj hR
                                                  exact absurd hrf (by decide)
                                              · refine z_by hR (fun c21 hR => ?_) (fun c21 hR => ?_)
                                                · refine z_tin hC 21 851 c21 dL_law_33 (by decide) (by decide) rfl (by decide) ?_
                                                  refine z_aload_n hC dL_law_851 rfl 1 rfl ?_
                                                  refine z_aload_n hC dL_law_852 rfl 0 rfl ?_
                                                  refine z_iload_n hC dL_law_853 rfl 3 rfl ?_
                                                  refine z_ic1 hC dL_law_854 ?_
                                                  refine z_iadd hC dL_law_855 ?_
                                                  refine z_sld hC hL dL_law_856 hR (fun hR => ?_)
                                                  refine z_aload_n hC dL_law_857 rfl 0 rfl ?_
                                                  refine z_iload_n hC dL_law_858 rfl 3 rfl ?_
                                                  refine z_ic2 hC dL_law_859 ?_
                                                  refine z_iadd hC dL_law_860 ?_
                                                  refine z_sld hC hL dL_law_861 hR (fun hR => ?_)
                                                  refine z_aload_n hC dL_law_862 rfl 0 rfl ?_
                                                  refine z_iload_n hC dL_law_863 rfl 3 rfl ?_
                                                  refine z_ic3 hC dL_law_864 ?_
                                                  refine z_iadd hC dL_law_865 ?_
                                                  refine z_sld hC hL dL_law_866 hR (fun hR => ?_)
                                                  refine z_callVi_p hC hN [.int (xs (Int32.toNatClampNeg (l3 + 1))), .int (xs (Int32.toNatClampNeg (l3 + 2))), .int (xs (Int32.toNatClampNeg (l3 + 3)))] [0] (c_X8_gain (l := zl E) (D := zD E) (cI := cI) (cB := cB) (cZ := cZ) (N := N) (a_t := a_p1) (a_t_rows := a_p1_rows) (a_t_tape := a_p1_tape) (a_t_reader := a_p1_reader) (a_t_now := a_p1_now) (a_t_trial := a_p1_trial) (a_t_acts := a_p1_acts) (a_t_ways := a_p1_ways) (a_t_asks := a_p1_asks) (a_t_images := a_p1_images) (a_t_imageKept := a_p1_imageKept) (l1 := (xs (Int32.toNatClampNeg (l3 + 1)))) (l2 := (xs (Int32.toNatClampNeg (l3 + 2)))) (l3 := (xs (Int32.toNatClampNeg (l3 + 3)))) (t_latestFault := p1_latestFault) (t_latestFinding := p1_latestFinding)) rfl ⟨rfl, rfl⟩ gL_law_X8_gain hvX8_gain 0 8 rfl rfl rfl ⟨Nat.le_of_ble_eq_true rfl, Nat.le_of_ble_eq_true rfl⟩ ⟨Nat.le_of_ble_eq_true rfl, Nat.le_of_ble_eq_true rfl⟩ rfl (Nat.le_of_ble_eq_true rfl) rfl (by decide) dL_law_867 hR (fun r867 hR => ?_)
                                                  refine z_aload_n hC dL_law_870 rfl 2 rfl ?_
                                                  refine z_aload_n hC dL_law_871 rfl 0 rfl ?_
                                                  refine z_iload_n hC dL_law_872 rfl 3 rfl ?_
                                                  refine z_ic1 hC dL_law_873 ?_
                                                  refine z_iadd hC dL_law_874 ?_
                                                  refine z_sld hC hL dL_law_875 hR (fun hR => ?_)
                                                  refine z_aload_n hC dL_law_876 rfl 0 rfl ?_
                                                  refine z_iload_n hC dL_law_877 rfl 3 rfl ?_
                                                  refine z_ic2 hC dL_law_878 ?_
                                                  refine z_iadd hC dL_law_879 ?_
                                                  refine z_sld hC hL dL_law_880 hR (fun hR => ?_)
                                                  refine z_aload_n hC dL_law_881 rfl 0 rfl ?_
                                                  refine z_iload_n hC dL_law_882 rfl 3 rfl ?_
                                                  refine z_ic3 hC dL_law_883 ?_
                                                  refine z_iadd hC dL_law_884 ?_
                                                  refine z_sld hC hL dL_law_885 hR (fun hR => ?_)
                                                  refine z_callVi_p hC hN [.int (xs (Int32.toNatClampNeg (l3 + 1))), .int (xs (Int32.toNatClampNeg (l3 + 2))), .int (xs (Int32.toNatClampNeg (l3 + 3)))] [30] (c_X9_gain (l := zl E) (D := zD E) (cI := cI) (cB := cB) (cZ := cZ) (N := N) (a_t := a_p2) (a_t_now := a_p2_now) (a_t_kept := a_p2_kept) (a_t_isKept := a_p2_isKept) (a_t_acts := a_p2_acts) (a_t_was := a_p2_was) (a_t_lanes := a_p2_lanes) (a_t_longs := a_p2_longs) (a_t_isThere := a_p2_isThere) (a_t_items := a_p2_items) (a_t_copied := a_p2_copied) (a_t_tape := a_p2_tape) (a_t_readSorts := a_p2_readSorts) (a_t_readHands := a_p2_readHands) (a_t_inTurn := a_p2_inTurn) (a_t_ends := a_p2_ends) (a_t_bestHands := a_p2_bestHands) (a_t_traces := a_p2_traces) (l1 := (xs (Int32.toNatClampNeg (l3 + 1)))) (l2 := (xs (Int32.toNatClampNeg (l3 + 2)))) (l3 := (xs (Int32.toNatClampNeg (l3 + 3)))) (t_manyActs := p2_manyActs) (t_status := p2_status) (t_tapeLong := p2_tapeLong) (t_fault := p2_fault) (t_tokenAt := p2_tokenAt) (t_tokenLong := p2_tokenLong) (t_token := p2_token) (t_value := p2_value) (t_winner := p2_winner) (t_throwsOf := p2_throwsOf) (t_handA := p2_handA) (t_handB := p2_handB) (t_fewestSo := p2_fewestSo) (t_traced := p2_traced)) rfl ⟨rfl, rfl⟩ gL_law_X9_gain hvX9_gain 30 9 rfl rfl rfl ⟨Nat.le_of_ble_eq_true rfl, Nat.le_of_ble_eq_true rfl⟩ ⟨Nat.le_of_ble_eq_true rfl, Nat.le_of_ble_eq_true rfl⟩ rfl (Nat.le_of_ble_eq_true rfl) rfl (by decide) dL_law_886 hR (fun r886 hR => ?_)
                                                  refine z_icmp_eq hC 1088 dL_law_889 (by decide) hR (fun hR => ?_) (fun hR => ?_)
                                                  · refine z_iinc6 hC [(3, .int (l3 + 6)), (0, .ref a_scr), (1, .ref a_p1), (2, .ref a_p2)] dL_law_1088 3 rfl (by decide) rfl ?_
                                                    refine z_goto hC 18 dL_law_1091 (by decide) ?_
                                                    refine z_sub (lv' := [(0, .ref a_scr), (1, .ref a_p1), (2, .ref a_p2), (3, .int (l3 + 6))]) [1, 2, 3, 0] rfl ?_
                                                    exact ih a_p1_ways_best a_p1_ways_better p1_latestFault p1_latestFinding p1_rows_lane p1_rows_size p1_rows_items p1_tape_length p1_tape_bytes p1_reader_token p1_reader_start p1_reader_past p1_reader_value p1_now_players p1_now_round p1_now_time p1_now_kind p1_now_hand p1_now_leader p1_now_course_first p1_now_course_second p1_now_course_thrown p1_trial_players p1_trial_round p1_trial_time p1_trial_kind p1_trial_hand p1_trial_leader p1_trial_course_first p1_trial_course_second p1_trial_course_thrown p1_acts_kept p1_acts_next p1_acts_halls p1_ways_groups p1_ways_group p1_ways_train p1_ways_best p1_ways_better p1_ways_course_first p1_ways_course_second p1_ways_course_thrown p1_asks_length p1_asks_numbers p1_images p1_imageKept p2_manyActs p2_status p2_tapeLong p2_fault p2_tokenAt p2_tokenLong p2_token p2_value p2_winner p2_throwsOf p2_handA p2_handB p2_fewestSo p2_traced p2_now p2_kept p2_isKept p2_acts p2_was p2_lanes p2_longs p2_isThere p2_items p2_copied p2_tape p2_readSorts p2_readHands p2_inTurn p2_ends p2_bestHands p2_traces (l3 + 6) hR
                                                  · refine z_ic0 hC dL_law_892 ?_
                                                    obtain rfl := Option.some.inj hR
                                                    exact absurd hrf (by decide)
                                                · refine z_by hR (fun c22 hR => ?_) (fun c22 hR => ?_)
                                                  · refine z_tin hC 22 894 c22 dL_law_33 (by decide) (by decide) rfl (by decide) ?_
                                                    refine z_aload_n hC dL_law_894 rfl 1 rfl ?_
                                                    refine z_aload_n hC dL_law_895 rfl 0 rfl ?_
                                                    refine z_iload_n hC dL_law_896 rfl 3 rfl ?_
                                                    refine z_ic1 hC dL_law_897 ?_
                                                    refine z_iadd hC dL_law_898 ?_
                                                    refine z_sld hC hL dL_law_899 hR (fun hR => ?_)
                                                    refine z_callVi hC hN [.int (xs (Int32.toNatClampNeg (l3 + 1)))] [0, 8, 9, 10, 11, 28, 29] (c_X8_image (l := zl E) (D := zD E) (cI := cI) (cB := cB) (cZ := cZ) (N := N) (a_t := a_p1) (a_t_rows := a_p1_rows) (a_t_tape := a_p1_tape) (a_t_reader := a_p1_reader) (a_t_now := a_p1_now) (a_t_trial := a_p1_trial) (a_t_acts := a_p1_acts) (a_t_ways := a_p1_ways) (a_t_asks := a_p1_asks) (a_t_images := a_p1_images) (a_t_imageKept := a_p1_imageKept) (a_t_now_kind := a_p1_now_kind) (a_t_now_hand := a_p1_now_hand) (a_t_now_leader := a_p1_now_leader) (a_t_now_course := a_p1_now_course) (l1 := (xs (Int32.toNatClampNeg (l3 + 1)))) (t_latestFault := p1_latestFault) (t_latestFinding := p1_latestFinding) (t_now_players := p1_now_players) (t_now_round := p1_now_round) (t_now_time := p1_now_time) (t_now_kind := p1_now_kind) (t_now_hand := p1_now_hand) (t_now_leader := p1_now_leader) (t_images := p1_images) (t_imageKept := p1_imageKept)) rfl ⟨rfl, rfl⟩ gL_law_X8_image hvX8_image 0 8 rfl rfl rfl ⟨Nat.le_of_ble_eq_true rfl, Nat.le_of_ble_eq_true rfl⟩ ⟨Nat.le_of_ble_eq_true rfl, Nat.le_of_ble_eq_true rfl⟩ rfl (Nat.le_of_ble_eq_true rfl) rfl (by decide) (fun _ => rfl) dL_law_900 hR (fun r900 hR => ?_)
                                                    refine z_aload_n hC dL_law_903 rfl 2 rfl ?_
                                                    refine z_aload_n hC dL_law_904 rfl 0 rfl ?_
                                                    refine z_iload_n hC dL_law_905 rfl 3 rfl ?_
                                                    refine z_ic1 hC dL_law_906 ?_
                                                    refine z_iadd hC dL_law_907 ?_
                                                    refine z_sld hC hL dL_law_908 hR (fun hR => ?_)
                                                    refine z_callVi hC hN [.int (xs (Int32.toNatClampNeg (l3 + 1)))] [30, 31, 32, 33] (c_X9_image (l := zl E) (D := zD E) (cI := cI) (cB := cB) (cZ := cZ) (N := N) (a_t := a_p2) (a_t_now := a_p2_now) (a_t_kept := a_p2_kept) (a_t_isKept := a_p2_isKept) (a_t_acts := a_p2_acts) (a_t_was := a_p2_was) (a_t_lanes := a_p2_lanes) (a_t_longs := a_p2_longs) (a_t_isThere := a_p2_isThere) (a_t_items := a_p2_items) (a_t_copied := a_p2_copied) (a_t_tape := a_p2_tape) (a_t_readSorts := a_p2_readSorts) (a_t_readHands := a_p2_readHands) (a_t_inTurn := a_p2_inTurn) (a_t_ends := a_p2_ends) (a_t_bestHands := a_p2_bestHands) (a_t_traces := a_p2_traces) (l1 := (xs (Int32.toNatClampNeg (l3 + 1)))) (t_manyActs := p2_manyActs) (t_status := p2_status) (t_tapeLong := p2_tapeLong) (t_fault := p2_fault) (t_tokenAt := p2_tokenAt) (t_tokenLong := p2_tokenLong) (t_token := p2_token) (t_value := p2_value) (t_winner := p2_winner) (t_throwsOf := p2_throwsOf) (t_handA := p2_handA) (t_handB := p2_handB) (t_fewestSo := p2_fewestSo) (t_traced := p2_traced) (t_now := p2_now) (t_kept := p2_kept) (t_isKept := p2_isKept)) rfl ⟨rfl, rfl⟩ gL_law_X9_image hvX9_image 30 9 rfl rfl rfl ⟨Nat.le_of_ble_eq_true rfl, Nat.le_of_ble_eq_true rfl⟩ ⟨Nat.le_of_ble_eq_true rfl, Nat.le_of_ble_eq_true rfl⟩ rfl (Nat.le_of_ble_eq_true rfl) rfl (by decide) (fun _ => rfl) dL_law_909 hR (fun r909 hR => ?_)
                                                    refine z_icmp_eq hC 1088 dL_law_912 (by decide) hR (fun hR => ?_) (fun hR => ?_)
                                                    · refine z_iinc6 hC [(3, .int (l3 + 6)), (0, .ref a_scr), (1, .ref a_p1), (2, .ref a_p2)] dL_law_1088 3 rfl (by decide) rfl ?_
                                                      refine z_goto hC 18 dL_law_1091 (by decide) ?_
                                                      refine z_sub (lv' := [(0, .ref a_scr), (1, .ref a_p1), (2, .ref a_p2), (3, .int (l3 + 6))]) [1, 2, 3, 0] rfl ?_
                                                      exact ih a_p1_ways_best a_p1_ways_better p1_latestFault p1_latestFinding p1_rows_lane p1_rows_size p1_rows_items p1_tape_length p1_tape_bytes p1_reader_token p1_reader_start p1_reader_past p1_reader_value p1_now_players p1_now_round p1_now_time p1_now_kind p1_now_hand p1_now_leader p1_now_course_first p1_now_course_second p1_now_course_thrown p1_trial_players p1_trial_round p1_trial_time p1_trial_kind p1_trial_hand p1_trial_leader p1_trial_course_first p1_trial_course_second p1_trial_course_thrown p1_acts_kept p1_acts_next p1_acts_halls p1_ways_groups p1_ways_group p1_ways_train p1_ways_best p1_ways_better p1_ways_course_first p1_ways_course_second p1_ways_course_thrown p1_asks_length p1_asks_numbers r900.2.1 r900.2.2 p2_manyActs p2_status p2_tapeLong p2_fault p2_tokenAt p2_tokenLong p2_token p2_value p2_winner p2_throwsOf p2_handA p2_handB p2_fewestSo p2_traced p2_now r909.2.1 r909.2.2 p2_acts p2_was p2_lanes p2_longs p2_isThere p2_items p2_copied p2_tape p2_readSorts p2_readHands p2_inTurn p2_ends p2_bestHands p2_traces (l3 + 6) hR
                                                    · refine z_ic0 hC dL_law_915 ?_
                                                      obtain rfl := Option.some.inj hR
                                                      exact absurd hrf (by decide)
                                                  · refine z_by hR (fun c23 hR => ?_) (fun c23 hR => ?_)
                                                    · refine z_tin hC 23 917 c23 dL_law_33 (by decide) (by decide) rfl (by decide) ?_
                                                      refine z_aload_n hC dL_law_917 rfl 1 rfl ?_
                                                      refine z_aload_n hC dL_law_918 rfl 0 rfl ?_
                                                      refine z_iload_n hC dL_law_919 rfl 3 rfl ?_
                                                      refine z_ic1 hC dL_law_920 ?_
                                                      refine z_iadd hC dL_law_921 ?_
                                                      refine z_sld hC hL dL_law_922 hR (fun hR => ?_)
                                                      refine z_callVi hC hN [.int (xs (Int32.toNatClampNeg (l3 + 1)))] [0, 8, 9, 10, 11, 18, 28, 29] (c_X8_restore (l := zl E) (D := zD E) (cI := cI) (cB := cB) (cZ := cZ) (N := N) (a_t := a_p1) (a_t_rows := a_p1_rows) (a_t_tape := a_p1_tape) (a_t_reader := a_p1_reader) (a_t_now := a_p1_now) (a_t_trial := a_p1_trial) (a_t_acts := a_p1_acts) (a_t_ways := a_p1_ways) (a_t_asks := a_p1_asks) (a_t_images := a_p1_images) (a_t_imageKept := a_p1_imageKept) (a_t_now_kind := a_p1_now_kind) (a_t_now_hand := a_p1_now_hand) (a_t_now_leader := a_p1_now_leader) (a_t_now_course := a_p1_now_course) (a_t_acts_halls := a_p1_acts_halls) (l1 := (xs (Int32.toNatClampNeg (l3 + 1)))) (t_latestFault := p1_latestFault) (t_latestFinding := p1_latestFinding) (t_now_players := p1_now_players) (t_now_round := p1_now_round) (t_now_time := p1_now_time) (t_now_kind := p1_now_kind) (t_now_hand := p1_now_hand) (t_now_leader := p1_now_leader) (t_acts_kept := p1_acts_kept) (t_acts_next := p1_acts_next) (t_images := p1_images) (t_imageKept := p1_imageKept)) rfl ⟨rfl, rfl⟩ gL_law_X8_restore hvX8_restore 0 8 rfl rfl rfl ⟨Nat.le_of_ble_eq_true rfl, Nat.le_of_ble_eq_true rfl⟩ ⟨Nat.le_of_ble_eq_true rfl, Nat.le_of_ble_eq_true rfl⟩ rfl (Nat.le_of_ble_eq_true rfl) rfl (by decide) (fun _ => rfl) dL_law_923 hR (fun r923 hR => ?_)
                                                      refine z_aload_n hC dL_law_926 rfl 2 rfl ?_
                                                      refine z_aload_n hC dL_law_927 rfl 0 rfl ?_
                                                      refine z_iload_n hC dL_law_928 rfl 3 rfl ?_
                                                      refine z_ic1 hC dL_law_929 ?_
                                                      refine z_iadd hC dL_law_930 ?_
                                                      refine z_sld hC hL dL_law_931 hR (fun hR => ?_)
                                                      refine z_callVi hC hN [.int (xs (Int32.toNatClampNeg (l3 + 1)))] [30, 31, 32, 33] (c_X9_restore (l := zl E) (D := zD E) (cI := cI) (cB := cB) (cZ := cZ) (N := N) (a_t := a_p2) (a_t_now := a_p2_now) (a_t_kept := a_p2_kept) (a_t_isKept := a_p2_isKept) (a_t_acts := a_p2_acts) (a_t_was := a_p2_was) (a_t_lanes := a_p2_lanes) (a_t_longs := a_p2_longs) (a_t_isThere := a_p2_isThere) (a_t_items := a_p2_items) (a_t_copied := a_p2_copied) (a_t_tape := a_p2_tape) (a_t_readSorts := a_p2_readSorts) (a_t_readHands := a_p2_readHands) (a_t_inTurn := a_p2_inTurn) (a_t_ends := a_p2_ends) (a_t_bestHands := a_p2_bestHands) (a_t_traces := a_p2_traces) (l1 := (xs (Int32.toNatClampNeg (l3 + 1)))) (t_manyActs := p2_manyActs) (t_status := p2_status) (t_tapeLong := p2_tapeLong) (t_fault := p2_fault) (t_tokenAt := p2_tokenAt) (t_tokenLong := p2_tokenLong) (t_token := p2_token) (t_value := p2_value) (t_winner := p2_winner) (t_throwsOf := p2_throwsOf) (t_handA := p2_handA) (t_handB := p2_handB) (t_fewestSo := p2_fewestSo) (t_traced := p2_traced) (t_now := p2_now) (t_kept := p2_kept) (t_isKept := p2_isKept)) rfl ⟨rfl, rfl⟩ gL_law_X9_restore hvX9_restore 30 9 rfl rfl rfl ⟨Nat.le_of_ble_eq_true rfl, Nat.le_of_ble_eq_true rfl⟩ ⟨Nat.le_of_ble_eq_true rfl, Nat.le_of_ble_eq_true rfl⟩ rfl (Nat.le_of_ble_eq_true rfl) rfl (by decide) (fun _ => rfl) dL_law_932 hR (fun r932 hR => ?_)
                                                      refine z_icmp_eq hC 1088 dL_law_935 (by decide) hR (fun hR => ?_) (fun hR => ?_)
                                                      · refine z_iinc6 hC [(3, .int (l3 + 6)), (0, .ref a_scr), (1, .ref a_p1), (2, .ref a_p2)] dL_law_1088 3 rfl (by decide) rfl ?_
                                                        refine z_goto hC 18 dL_law_1091 (by decide) ?_
                                                        refine z_sub (lv' := [(0, .ref a_scr), (1, .ref a_p1), (2, .ref a_p2), (3, .int (l3 + 6))]) [1, 2, 3, 0] rfl ?_
                                                        exact ih a_p1_ways_best a_p1_ways_better p1_latestFault p1_latestFinding p1_rows_lane p1_rows_size p1_rows_items p1_tape_length p1_tape_bytes p1_reader_token p1_reader_start p1_reader_past p1_reader_value r923.2.1 r923.2.2.1 r923.2.2.2.1 r923.2.2.2.2.1 r923.2.2.2.2.2.1 r923.2.2.2.2.2.2.1 p1_now_course_first p1_now_course_second p1_now_course_thrown p1_trial_players p1_trial_round p1_trial_time p1_trial_kind p1_trial_hand p1_trial_leader p1_trial_course_first p1_trial_course_second p1_trial_course_thrown r923.2.2.2.2.2.2.2 p1_acts_next p1_acts_halls p1_ways_groups p1_ways_group p1_ways_train p1_ways_best p1_ways_better p1_ways_course_first p1_ways_course_second p1_ways_course_thrown p1_asks_length p1_asks_numbers p1_images p1_imageKept r932.2.1 p2_status p2_tapeLong p2_fault p2_tokenAt p2_tokenLong p2_token p2_value p2_winner p2_throwsOf p2_handA p2_handB p2_fewestSo p2_traced r932.2.2 p2_kept p2_isKept p2_acts p2_was p2_lanes p2_longs p2_isThere p2_items p2_copied p2_tape p2_readSorts p2_readHands p2_inTurn p2_ends p2_bestHands p2_traces (l3 + 6) hR
                                                      · refine z_ic0 hC dL_law_938 ?_
                                                        obtain rfl := Option.some.inj hR
                                                        exact absurd hrf (by decide)
                                                    · refine z_by hR (fun c24 hR => ?_) (fun c24 hR => ?_)
                                                      · refine z_tin hC 24 940 c24 dL_law_33 (by decide) (by decide) rfl (by decide) ?_
                                                        refine z_aload_n hC dL_law_940 rfl 1 rfl ?_
                                                        refine z_aload_n hC dL_law_941 rfl 0 rfl ?_
                                                        refine z_iload_n hC dL_law_942 rfl 3 rfl ?_
                                                        refine z_ic1 hC dL_law_943 ?_
                                                        refine z_iadd hC dL_law_944 ?_
                                                        refine z_sld hC hL dL_law_945 hR (fun hR => ?_)
                                                        refine z_callVi_p hC hN [.int (xs (Int32.toNatClampNeg (l3 + 1)))] [0, 8, 9] (c_X8_kind (l := zl E) (D := zD E) (cI := cI) (cB := cB) (cZ := cZ) (N := N) (a_t := a_p1) (a_t_rows := a_p1_rows) (a_t_tape := a_p1_tape) (a_t_reader := a_p1_reader) (a_t_now := a_p1_now) (a_t_trial := a_p1_trial) (a_t_acts := a_p1_acts) (a_t_ways := a_p1_ways) (a_t_asks := a_p1_asks) (a_t_images := a_p1_images) (a_t_imageKept := a_p1_imageKept) (a_t_now_kind := a_p1_now_kind) (a_t_now_hand := a_p1_now_hand) (a_t_now_leader := a_p1_now_leader) (a_t_now_course := a_p1_now_course) (l1 := (xs (Int32.toNatClampNeg (l3 + 1)))) (t_latestFault := p1_latestFault) (t_latestFinding := p1_latestFinding) (t_now_players := p1_now_players) (t_now_round := p1_now_round) (t_now_time := p1_now_time) (t_now_kind := p1_now_kind)) rfl ⟨rfl, rfl⟩ gL_law_X8_kind hvX8_kind 0 8 rfl rfl rfl ⟨Nat.le_of_ble_eq_true rfl, Nat.le_of_ble_eq_true rfl⟩ ⟨Nat.le_of_ble_eq_true rfl, Nat.le_of_ble_eq_true rfl⟩ rfl (Nat.le_of_ble_eq_true rfl) rfl (by decide) dL_law_946 hR (fun r946 hR => ?_)
                                                        refine z_aload_n hC dL_law_949 rfl 2 rfl ?_
                                                        refine z_aload_n hC dL_law_950 rfl 0 rfl ?_
                                                        refine z_iload_n hC dL_law_951 rfl 3 rfl ?_
                                                        refine z_ic1 hC dL_law_952 ?_
                                                        refine z_iadd hC dL_law_953 ?_
                                                        refine z_sld hC hL dL_law_954 hR (fun hR => ?_)
                                                        refine z_callVi_p hC hN [.int (xs (Int32.toNatClampNeg (l3 + 1)))] [30, 31] (c_X9_kind (l := zl E) (D := zD E) (cI := cI) (cB := cB) (cZ := cZ) (N := N) (a_t := a_p2) (a_t_now := a_p2_now) (a_t_kept := a_p2_kept) (a_t_isKept := a_p2_isKept) (a_t_acts := a_p2_acts) (a_t_was := a_p2_was) (a_t_lanes := a_p2_lanes) (a_t_longs := a_p2_longs) (a_t_isThere := a_p2_isThere) (a_t_items := a_p2_items) (a_t_copied := a_p2_copied) (a_t_tape := a_p2_tape) (a_t_readSorts := a_p2_readSorts) (a_t_readHands := a_p2_readHands) (a_t_inTurn := a_p2_inTurn) (a_t_ends := a_p2_ends) (a_t_bestHands := a_p2_bestHands) (a_t_traces := a_p2_traces) (l1 := (xs (Int32.toNatClampNeg (l3 + 1)))) (t_manyActs := p2_manyActs) (t_status := p2_status) (t_tapeLong := p2_tapeLong) (t_fault := p2_fault) (t_tokenAt := p2_tokenAt) (t_tokenLong := p2_tokenLong) (t_token := p2_token) (t_value := p2_value) (t_winner := p2_winner) (t_throwsOf := p2_throwsOf) (t_handA := p2_handA) (t_handB := p2_handB) (t_fewestSo := p2_fewestSo) (t_traced := p2_traced) (t_now := p2_now)) rfl ⟨rfl, rfl⟩ gL_law_X9_kind hvX9_kind 30 9 rfl rfl rfl ⟨Nat.le_of_ble_eq_true rfl, Nat.le_of_ble_eq_true rfl⟩ ⟨Nat.le_of_ble_eq_true rfl, Nat.le_of_ble_eq_true rfl⟩ rfl (Nat.le_of_ble_eq_true rfl) rfl (by decide) dL_law_955 hR (fun r955 hR => ?_)
                                                        refine z_icmp_eq hC 1088 dL_law_958 (by decide) hR (fun hR => ?_) (fun hR => ?_)
                                                        · refine z_iinc6 hC [(3, .int (l3 + 6)), (0, .ref a_scr), (1, .ref a_p1), (2, .ref a_p2)] dL_law_1088 3 rfl (by decide) rfl ?_
                                                          refine z_goto hC 18 dL_law_1091 (by decide) ?_
                                                          refine z_sub (lv' := [(0, .ref a_scr), (1, .ref a_p1), (2, .ref a_p2), (3, .int (l3 + 6))]) [1, 2, 3, 0] rfl ?_
                                                          exact ih a_p1_ways_best a_p1_ways_better p1_latestFault p1_latestFinding p1_rows_lane p1_rows_size p1_rows_items p1_tape_length p1_tape_bytes p1_reader_token p1_reader_start p1_reader_past p1_reader_value p1_now_players p1_now_round p1_now_time p1_now_kind p1_now_hand p1_now_leader p1_now_course_first p1_now_course_second p1_now_course_thrown p1_trial_players p1_trial_round p1_trial_time p1_trial_kind p1_trial_hand p1_trial_leader p1_trial_course_first p1_trial_course_second p1_trial_course_thrown p1_acts_kept p1_acts_next p1_acts_halls p1_ways_groups p1_ways_group p1_ways_train p1_ways_best p1_ways_better p1_ways_course_first p1_ways_course_second p1_ways_course_thrown p1_asks_length p1_asks_numbers p1_images p1_imageKept p2_manyActs p2_status p2_tapeLong p2_fault p2_tokenAt p2_tokenLong p2_token p2_value p2_winner p2_throwsOf p2_handA p2_handB p2_fewestSo p2_traced p2_now p2_kept p2_isKept p2_acts p2_was p2_lanes p2_longs p2_isThere p2_items p2_copied p2_tape p2_readSorts p2_readHands p2_inTurn p2_ends p2_bestHands p2_traces (l3 + 6) hR
                                                        · refine z_ic0 hC dL_law_961 ?_
                                                          obtain rfl := Option.some.inj hR
                                                          exact absurd hrf (by decide)
                                                      · refine z_by hR (fun c25 hR => ?_) (fun c25 hR => ?_)
                                                        · refine z_tin hC 25 963 c25 dL_law_33 (by decide) (by decide) rfl (by decide) ?_
                                                          refine z_aload_n hC dL_law_963 rfl 1 rfl ?_
                                                          refine z_aload_n hC dL_law_964 rfl 0 rfl ?_
                                                          refine z_iload_n hC dL_law_965 rfl 3 rfl ?_
                                                          refine z_ic1 hC dL_law_966 ?_
                                                          refine z_iadd hC dL_law_967 ?_
                                                          refine z_sld hC hL dL_law_968 hR (fun hR => ?_)
                                                          refine z_aload_n hC dL_law_969 rfl 0 rfl ?_
                                                          refine z_iload_n hC dL_law_970 rfl 3 rfl ?_
                                                          refine z_ic2 hC dL_law_971 ?_
                                                          refine z_iadd hC dL_law_972 ?_
                                                          refine z_sld hC hL dL_law_973 hR (fun hR => ?_)
                                                          refine z_callVi hC hN [.int (xs (Int32.toNatClampNeg (l3 + 1))), .int (xs (Int32.toNatClampNeg (l3 + 2)))] [0, 8, 9] (c_X8_as (l := zl E) (D := zD E) (cI := cI) (cB := cB) (cZ := cZ) (N := N) (a_t := a_p1) (a_t_rows := a_p1_rows) (a_t_tape := a_p1_tape) (a_t_reader := a_p1_reader) (a_t_now := a_p1_now) (a_t_trial := a_p1_trial) (a_t_acts := a_p1_acts) (a_t_ways := a_p1_ways) (a_t_asks := a_p1_asks) (a_t_images := a_p1_images) (a_t_imageKept := a_p1_imageKept) (a_t_now_kind := a_p1_now_kind) (a_t_now_hand := a_p1_now_hand) (a_t_now_leader := a_p1_now_leader) (a_t_now_course := a_p1_now_course) (l1 := (xs (Int32.toNatClampNeg (l3 + 1)))) (l2 := (xs (Int32.toNatClampNeg (l3 + 2)))) (t_latestFault := p1_latestFault) (t_latestFinding := p1_latestFinding) (t_now_players := p1_now_players) (t_now_round := p1_now_round) (t_now_time := p1_now_time) (t_now_kind := p1_now_kind)) rfl ⟨rfl, rfl⟩ gL_law_X8_as hvX8_as 0 8 rfl rfl rfl ⟨Nat.le_of_ble_eq_true rfl, Nat.le_of_ble_eq_true rfl⟩ ⟨Nat.le_of_ble_eq_true rfl, Nat.le_of_ble_eq_true rfl⟩ rfl (Nat.le_of_ble_eq_true rfl) rfl (by decide) (fun _ => rfl) dL_law_974 hR (fun r974 hR => ?_)
                                                          refine z_aload_n hC dL_law_977 rfl 2 rfl ?_
                                                          refine z_aload_n hC dL_law_978 rfl 0 rfl ?_
                                                          refine z_iload_n hC dL_law_979 rfl 3 rfl ?_
                                                          refine z_ic1 hC dL_law_980 ?_
                                                          refine z_iadd hC dL_law_981 ?_
                                                          refine z_sld hC hL dL_law_982 hR (fun hR => ?_)
                                                          refine z_aload_n hC dL_law_983 rfl 0 rfl ?_
                                                          refine z_iload_n hC dL_law_984 rfl 3 rfl ?_
                                                          refine z_ic2 hC dL_law_985 ?_
                                                          refine z_iadd hC dL_law_986 ?_
                                                          refine z_sld hC hL dL_law_987 hR (fun hR => ?_)
                                                          refine z_callVi hC hN [.int (xs (Int32.toNatClampNeg (l3 + 1))), .int (xs (Int32.toNatClampNeg (l3 + 2)))] [30, 31] (c_X9_as (l := zl E) (D := zD E) (cI := cI) (cB := cB) (cZ := cZ) (N := N) (a_t := a_p2) (a_t_now := a_p2_now) (a_t_kept := a_p2_kept) (a_t_isKept := a_p2_isKept) (a_t_acts := a_p2_acts) (a_t_was := a_p2_was) (a_t_lanes := a_p2_lanes) (a_t_longs := a_p2_longs) (a_t_isThere := a_p2_isThere) (a_t_items := a_p2_items) (a_t_copied := a_p2_copied) (a_t_tape := a_p2_tape) (a_t_readSorts := a_p2_readSorts) (a_t_readHands := a_p2_readHands) (a_t_inTurn := a_p2_inTurn) (a_t_ends := a_p2_ends) (a_t_bestHands := a_p2_bestHands) (a_t_traces := a_p2_traces) (l1 := (xs (Int32.toNatClampNeg (l3 + 1)))) (l2 := (xs (Int32.toNatClampNeg (l3 + 2)))) (t_manyActs := p2_manyActs) (t_status := p2_status) (t_tapeLong := p2_tapeLong) (t_fault := p2_fault) (t_tokenAt := p2_tokenAt) (t_tokenLong := p2_tokenLong) (t_token := p2_token) (t_value := p2_value) (t_winner := p2_winner) (t_throwsOf := p2_throwsOf) (t_handA := p2_handA) (t_handB := p2_handB) (t_fewestSo := p2_fewestSo) (t_traced := p2_traced) (t_now := p2_now)) rfl ⟨rfl, rfl⟩ gL_law_X9_as hvX9_as 30 9 rfl rfl rfl ⟨Nat.le_of_ble_eq_true rfl, Nat.le_of_ble_eq_true rfl⟩ ⟨Nat.le_of_ble_eq_true rfl, Nat.le_of_ble_eq_true rfl⟩ rfl (Nat.le_of_ble_eq_true rfl) rfl (by decide) (fun _ => rfl) dL_law_988 hR (fun r988 hR => ?_)
                                                          refine z_icmp_eq hC 1088 dL_law_991 (by decide) hR (fun hR => ?_) (fun hR => ?_)
                                                          · refine z_iinc6 hC [(3, .int (l3 + 6)), (0, .ref a_scr), (1, .ref a_p1), (2, .ref a_p2)] dL_law_1088 3 rfl (by decide) rfl ?_
                                                            refine z_goto hC 18 dL_law_1091 (by decide) ?_
                                                            refine z_sub (lv' := [(0, .ref a_scr), (1, .ref a_p1), (2, .ref a_p2), (3, .int (l3 + 6))]) [1, 2, 3, 0] rfl ?_
                                                            exact ih a_p1_ways_best a_p1_ways_better p1_latestFault r974.2 p1_rows_lane p1_rows_size p1_rows_items p1_tape_length p1_tape_bytes p1_reader_token p1_reader_start p1_reader_past p1_reader_value p1_now_players p1_now_round p1_now_time p1_now_kind p1_now_hand p1_now_leader p1_now_course_first p1_now_course_second p1_now_course_thrown p1_trial_players p1_trial_round p1_trial_time p1_trial_kind p1_trial_hand p1_trial_leader p1_trial_course_first p1_trial_course_second p1_trial_course_thrown p1_acts_kept p1_acts_next p1_acts_halls p1_ways_groups p1_ways_group p1_ways_train p1_ways_best p1_ways_better p1_ways_course_first p1_ways_course_second p1_ways_course_thrown p1_asks_length p1_asks_numbers p1_images p1_imageKept p2_manyActs r988.2 p2_tapeLong p2_fault p2_tokenAt p2_tokenLong p2_token p2_value p2_winner p2_throwsOf p2_handA p2_handB p2_fewestSo p2_traced p2_now p2_kept p2_isKept p2_acts p2_was p2_lanes p2_longs p2_isThere p2_items p2_copied p2_tape p2_readSorts p2_readHands p2_inTurn p2_ends p2_bestHands p2_traces (l3 + 6) hR
                                                          · refine z_ic0 hC dL_law_994 ?_
                                                            obtain rfl := Option.some.inj hR
                                                            exact absurd hrf (by decide)
                                                        · refine z_by hR (fun c26 hR => ?_) (fun c26 hR => ?_)
                                                          · refine z_tin hC 26 996 c26 dL_law_33 (by decide) (by decide) rfl (by decide) ?_
                                                            refine z_aload_n hC dL_law_996 rfl 1 rfl ?_
                                                            refine z_aload_n hC dL_law_997 rfl 0 rfl ?_
                                                            refine z_iload_n hC dL_law_998 rfl 3 rfl ?_
                                                            refine z_ic1 hC dL_law_999 ?_
                                                            refine z_iadd hC dL_law_1000 ?_
                                                            refine z_sld hC hL dL_law_1001 hR (fun hR => ?_)
                                                            refine z_aload_n hC dL_law_1002 rfl 0 rfl ?_
                                                            refine z_iload_n hC dL_law_1003 rfl 3 rfl ?_
                                                            refine z_ic2 hC dL_law_1004 ?_
                                                            refine z_iadd hC dL_law_1005 ?_
                                                            refine z_sld hC hL dL_law_1006 hR (fun hR => ?_)
                                                            refine z_callVi hC hN [.int (xs (Int32.toNatClampNeg (l3 + 1))), .int (xs (Int32.toNatClampNeg (l3 + 2)))] [0, 8, 9, 10, 11, 26, 27] (c_X8_ask (l := zl E) (D := zD E) (cI := cI) (cB := cB) (cZ := cZ) (N := N) (a_t := a_p1) (a_t_rows := a_p1_rows) (a_t_tape := a_p1_tape) (a_t_reader := a_p1_reader) (a_t_now := a_p1_now) (a_t_trial := a_p1_trial) (a_t_acts := a_p1_acts) (a_t_ways := a_p1_ways) (a_t_asks := a_p1_asks) (a_t_images := a_p1_images) (a_t_imageKept := a_p1_imageKept) (a_t_now_kind := a_p1_now_kind) (a_t_now_hand := a_p1_now_hand) (a_t_now_leader := a_p1_now_leader) (a_t_now_course := a_p1_now_course) (a_t_asks_numbers := a_p1_asks_numbers) (l1 := (xs (Int32.toNatClampNeg (l3 + 1)))) (l2 := (xs (Int32.toNatClampNeg (l3 + 2)))) (t_latestFault := p1_latestFault) (t_latestFinding := p1_latestFinding) (t_now_players := p1_now_players) (t_now_round := p1_now_round) (t_now_time := p1_now_time) (t_now_kind := p1_now_kind) (t_now_hand := p1_now_hand) (t_now_leader := p1_now_leader) (t_asks_length := p1_asks_length) (t_asks_numbers := p1_asks_numbers)) rfl ⟨rfl, rfl⟩ gL_law_X8_ask hvX8_ask 0 8 rfl rfl rfl ⟨Nat.le_of_ble_eq_true rfl, Nat.le_of_ble_eq_true rfl⟩ ⟨Nat.le_of_ble_eq_true rfl, Nat.le_of_ble_eq_true rfl⟩ rfl (Nat.le_of_ble_eq_true rfl) rfl (by decide) (fun _ => rfl) dL_law_1007 hR (fun r1007 hR => ?_)
                                                            refine z_aload_n hC dL_law_1010 rfl 2 rfl ?_
                                                            refine z_aload_n hC dL_law_1011 rfl 0 rfl ?_
                                                            refine z_iload_n hC dL_law_1012 rfl 3 rfl ?_
                                                            refine z_ic1 hC dL_law_1013 ?_
                                                            refine z_iadd hC dL_law_1014 ?_
                                                            refine z_sld hC hL dL_law_1015 hR (fun hR => ?_)
                                                            refine z_aload_n hC dL_law_1016 rfl 0 rfl ?_
                                                            refine z_iload_n hC dL_law_1017 rfl 3 rfl ?_
                                                            refine z_ic2 hC dL_law_1018 ?_
                                                            refine z_iadd hC dL_law_1019 ?_
                                                            refine z_sld hC hL dL_law_1020 hR (fun hR => ?_)
                                                            refine z_callVi hC hN [.int (xs (Int32.toNatClampNeg (l3 + 1))), .int (xs (Int32.toNatClampNeg (l3 + 2)))] [30, 31, 47] (c_X9_ask (l := zl E) (D := zD E) (cI := cI) (cB := cB) (cZ := cZ) (N := N) (a_t := a_p2) (a_t_now := a_p2_now) (a_t_kept := a_p2_kept) (a_t_isKept := a_p2_isKept) (a_t_acts := a_p2_acts) (a_t_was := a_p2_was) (a_t_lanes := a_p2_lanes) (a_t_longs := a_p2_longs) (a_t_isThere := a_p2_isThere) (a_t_items := a_p2_items) (a_t_copied := a_p2_copied) (a_t_tape := a_p2_tape) (a_t_readSorts := a_p2_readSorts) (a_t_readHands := a_p2_readHands) (a_t_inTurn := a_p2_inTurn) (a_t_ends := a_p2_ends) (a_t_bestHands := a_p2_bestHands) (a_t_traces := a_p2_traces) (l1 := (xs (Int32.toNatClampNeg (l3 + 1)))) (l2 := (xs (Int32.toNatClampNeg (l3 + 2)))) (t_manyActs := p2_manyActs) (t_status := p2_status) (t_tapeLong := p2_tapeLong) (t_fault := p2_fault) (t_tokenAt := p2_tokenAt) (t_tokenLong := p2_tokenLong) (t_token := p2_token) (t_value := p2_value) (t_winner := p2_winner) (t_throwsOf := p2_throwsOf) (t_handA := p2_handA) (t_handB := p2_handB) (t_fewestSo := p2_fewestSo) (t_traced := p2_traced) (t_now := p2_now) (t_traces := p2_traces)) rfl ⟨rfl, rfl⟩ gL_law_X9_ask hvX9_ask 30 9 rfl rfl rfl ⟨Nat.le_of_ble_eq_true rfl, Nat.le_of_ble_eq_true rfl⟩ ⟨Nat.le_of_ble_eq_true rfl, Nat.le_of_ble_eq_true rfl⟩ rfl (Nat.le_of_ble_eq_true rfl) rfl (by decide) (fun _ => rfl) dL_law_1021 hR (fun r1021 hR => ?_)
                                                            refine z_icmp_eq hC 1088 dL_law_1024 (by decide) hR (fun hR => ?_) (fun hR => ?_)
                                                            · refine z_iinc6 hC [(3, .int (l3 + 6)), (0, .ref a_scr), (1, .ref a_p1), (2, .ref a_p2)] dL_law_1088 3 rfl (by decide) rfl ?_
                                                              refine z_goto hC 18 dL_law_1091 (by decide) ?_
                                                              refine z_sub (lv' := [(0, .ref a_scr), (1, .ref a_p1), (2, .ref a_p2), (3, .int (l3 + 6))]) [1, 2, 3, 0] rfl ?_
                                                              exact ih a_p1_ways_best a_p1_ways_better p1_latestFault p1_latestFinding p1_rows_lane p1_rows_size p1_rows_items p1_tape_length p1_tape_bytes p1_reader_token p1_reader_start p1_reader_past p1_reader_value p1_now_players p1_now_round p1_now_time p1_now_kind p1_now_hand p1_now_leader p1_now_course_first p1_now_course_second p1_now_course_thrown p1_trial_players p1_trial_round p1_trial_time p1_trial_kind p1_trial_hand p1_trial_leader p1_trial_course_first p1_trial_course_second p1_trial_course_thrown p1_acts_kept p1_acts_next p1_acts_halls p1_ways_groups p1_ways_group p1_ways_train p1_ways_best p1_ways_better p1_ways_course_first p1_ways_course_second p1_ways_course_thrown r1007.2.1 r1007.2.2 p1_images p1_imageKept p2_manyActs p2_status p2_tapeLong p2_fault p2_tokenAt p2_tokenLong p2_token p2_value p2_winner p2_throwsOf p2_handA p2_handB p2_fewestSo r1021.2.1 p2_now p2_kept p2_isKept p2_acts p2_was p2_lanes p2_longs p2_isThere p2_items p2_copied p2_tape p2_readSorts p2_readHands p2_inTurn p2_ends p2_bestHands r1021.2.2 (l3 + 6) hR
                                                            · refine z_ic0 hC dL_law_1027 ?_
                                                              obtain rfl := Option.some.inj hR
                                                              exact absurd hrf (by decide)
                                                          · refine z_by hR (fun c27 hR => ?_) (fun c27 hR => ?_)
                                                            · refine z_tin hC 27 1029 c27 dL_law_33 (by decide) (by decide) rfl (by decide) ?_
                                                              refine z_aload_n hC dL_law_1029 rfl 1 rfl ?_
                                                              refine z_aload_n hC dL_law_1030 rfl 0 rfl ?_
                                                              refine z_iload_n hC dL_law_1031 rfl 3 rfl ?_
                                                              refine z_ic1 hC dL_law_1032 ?_
                                                              refine z_iadd hC dL_law_1033 ?_
                                                              refine z_sld hC hL dL_law_1034 hR (fun hR => ?_)
                                                              refine z_callVi_p hC hN [.int (xs (Int32.toNatClampNeg (l3 + 1)))] [0, 26, 27] (c_X8_trace (l := zl E) (D := zD E) (cI := cI) (cB := cB) (cZ := cZ) (N := N) (a_t := a_p1) (a_t_rows := a_p1_rows) (a_t_tape := a_p1_tape) (a_t_reader := a_p1_reader) (a_t_now := a_p1_now) (a_t_trial := a_p1_trial) (a_t_acts := a_p1_acts) (a_t_ways := a_p1_ways) (a_t_asks := a_p1_asks) (a_t_images := a_p1_images) (a_t_imageKept := a_p1_imageKept) (a_t_asks_numbers := a_p1_asks_numbers) (l1 := (xs (Int32.toNatClampNeg (l3 + 1)))) (t_latestFault := p1_latestFault) (t_latestFinding := p1_latestFinding) (t_asks_length := p1_asks_length) (t_asks_numbers := p1_asks_numbers)) rfl ⟨rfl, rfl⟩ gL_law_X8_trace hvX8_trace 0 8 rfl rfl rfl ⟨Nat.le_of_ble_eq_true rfl, Nat.le_of_ble_eq_true rfl⟩ ⟨Nat.le_of_ble_eq_true rfl, Nat.le_of_ble_eq_true rfl⟩ rfl (Nat.le_of_ble_eq_true rfl) rfl (by decide) dL_law_1035 hR (fun r1035 hR => ?_)
                                                              refine z_aload_n hC dL_law_1038 rfl 2 rfl ?_
                                                              refine z_aload_n hC dL_law_1039 rfl 0 rfl ?_
                                                              refine z_iload_n hC dL_law_1040 rfl 3 rfl ?_
                                                              refine z_ic1 hC dL_law_1041 ?_
                                                              refine z_iadd hC dL_law_1042 ?_
                                                              refine z_sld hC hL dL_law_1043 hR (fun hR => ?_)
                                                              refine z_callVi_p hC hN [.int (xs (Int32.toNatClampNeg (l3 + 1)))] [30, 47] (c_X9_trace (l := zl E) (D := zD E) (cI := cI) (cB := cB) (cZ := cZ) (N := N) (a_t := a_p2) (a_t_now := a_p2_now) (a_t_kept := a_p2_kept) (a_t_isKept := a_p2_isKept) (a_t_acts := a_p2_acts) (a_t_was := a_p2_was) (a_t_lanes := a_p2_lanes) (a_t_longs := a_p2_longs) (a_t_isThere := a_p2_isThere) (a_t_items := a_p2_items) (a_t_copied := a_p2_copied) (a_t_tape := a_p2_tape) (a_t_readSorts := a_p2_readSorts) (a_t_readHands := a_p2_readHands) (a_t_inTurn := a_p2_inTurn) (a_t_ends := a_p2_ends) (a_t_bestHands := a_p2_bestHands) (a_t_traces := a_p2_traces) (l1 := (xs (Int32.toNatClampNeg (l3 + 1)))) (t_manyActs := p2_manyActs) (t_status := p2_status) (t_tapeLong := p2_tapeLong) (t_fault := p2_fault) (t_tokenAt := p2_tokenAt) (t_tokenLong := p2_tokenLong) (t_token := p2_token) (t_value := p2_value) (t_winner := p2_winner) (t_throwsOf := p2_throwsOf) (t_handA := p2_handA) (t_handB := p2_handB) (t_fewestSo := p2_fewestSo) (t_traced := p2_traced) (t_traces := p2_traces)) rfl ⟨rfl, rfl⟩ gL_law_X9_trace hvX9_trace 30 9 rfl rfl rfl ⟨Nat.le_of_ble_eq_true rfl, Nat.le_of_ble_eq_true rfl⟩ ⟨Nat.le_of_ble_eq_true rfl, Nat.le_of_ble_eq_true rfl⟩ rfl (Nat.le_of_ble_eq_true rfl) rfl (by decide) dL_law_1044 hR (fun r1044 hR => ?_)
                                                              refine z_icmp_eq hC 1088 dL_law_1047 (by decide) hR (fun hR => ?_) (fun hR => ?_)
                                                              · refine z_iinc6 hC [(3, .int (l3 + 6)), (0, .ref a_scr), (1, .ref a_p1), (2, .ref a_p2)] dL_law_1088 3 rfl (by decide) rfl ?_
                                                                refine z_goto hC 18 dL_law_1091 (by decide) ?_
                                                                refine z_sub (lv' := [(0, .ref a_scr), (1, .ref a_p1), (2, .ref a_p2), (3, .int (l3 + 6))]) [1, 2, 3, 0] rfl ?_
                                                                exact ih a_p1_ways_best a_p1_ways_better p1_latestFault p1_latestFinding p1_rows_lane p1_rows_size p1_rows_items p1_tape_length p1_tape_bytes p1_reader_token p1_reader_start p1_reader_past p1_reader_value p1_now_players p1_now_round p1_now_time p1_now_kind p1_now_hand p1_now_leader p1_now_course_first p1_now_course_second p1_now_course_thrown p1_trial_players p1_trial_round p1_trial_time p1_trial_kind p1_trial_hand p1_trial_leader p1_trial_course_first p1_trial_course_second p1_trial_course_thrown p1_acts_kept p1_acts_next p1_acts_halls p1_ways_groups p1_ways_group p1_ways_train p1_ways_best p1_ways_better p1_ways_course_first p1_ways_course_second p1_ways_course_thrown p1_asks_length p1_asks_numbers p1_images p1_imageKept p2_manyActs p2_status p2_tapeLong p2_fault p2_tokenAt p2_tokenLong p2_token p2_value p2_winner p2_throwsOf p2_handA p2_handB p2_fewestSo p2_traced p2_now p2_kept p2_isKept p2_acts p2_was p2_lanes p2_longs p2_isThere p2_items p2_copied p2_tape p2_readSorts p2_readHands p2_inTurn p2_ends p2_bestHands p2_traces (l3 + 6) hR
                                                              · refine z_ic0 hC dL_law_1050 ?_
                                                                obtain rfl := Option.some.inj hR
                                                                exact absurd hrf (by decide)
                                                            · refine z_by hR (fun c28 hR => ?_) (fun c28 hR => ?_)
                                                              · refine z_tin hC 28 1052 c28 dL_law_33 (by decide) (by decide) rfl (by decide) ?_
                                                                refine z_aload_n hC dL_law_1052 rfl 1 rfl ?_
                                                                refine z_aload_n hC dL_law_1053 rfl 0 rfl ?_
                                                                refine z_iload_n hC dL_law_1054 rfl 3 rfl ?_
                                                                refine z_ic1 hC dL_law_1055 ?_
                                                                refine z_iadd hC dL_law_1056 ?_
                                                                refine z_sld hC hL dL_law_1057 hR (fun hR => ?_)
                                                                refine z_callVi_p hC hN [.int (xs (Int32.toNatClampNeg (l3 + 1)))] [0, 1, 2, 5, 8, 11, 18] (c_X8_count (l := zl E) (D := zD E) (cI := cI) (cB := cB) (cZ := cZ) (N := N) (a_t := a_p1) (a_t_rows := a_p1_rows) (a_t_tape := a_p1_tape) (a_t_reader := a_p1_reader) (a_t_now := a_p1_now) (a_t_trial := a_p1_trial) (a_t_acts := a_p1_acts) (a_t_ways := a_p1_ways) (a_t_asks := a_p1_asks) (a_t_images := a_p1_images) (a_t_imageKept := a_p1_imageKept) (a_t_rows_lane := a_p1_rows_lane) (a_t_rows_size := a_p1_rows_size) (a_t_rows_items := a_p1_rows_items) (a_t_tape_bytes := a_p1_tape_bytes) (a_t_now_kind := a_p1_now_kind) (a_t_now_hand := a_p1_now_hand) (a_t_now_leader := a_p1_now_leader) (a_t_now_course := a_p1_now_course) (a_t_acts_halls := a_p1_acts_halls) (l1 := (xs (Int32.toNatClampNeg (l3 + 1)))) (t_latestFault := p1_latestFault) (t_latestFinding := p1_latestFinding) (t_rows_lane := p1_rows_lane) (t_tape_length := p1_tape_length) (t_now_players := p1_now_players) (t_now_round := p1_now_round) (t_now_time := p1_now_time) (t_now_leader := p1_now_leader) (t_acts_kept := p1_acts_kept) (t_acts_next := p1_acts_next)) rfl ⟨rfl, rfl⟩ gL_law_X8_count hvX8_count 0 8 rfl rfl rfl ⟨Nat.le_of_ble_eq_true rfl, Nat.le_of_ble_eq_true rfl⟩ ⟨Nat.le_of_ble_eq_true rfl, Nat.le_of_ble_eq_true rfl⟩ rfl (Nat.le_of_ble_eq_true rfl) rfl (by decide) dL_law_1058 hR (fun r1058 hR => ?_)
                                                                refine z_aload_n hC dL_law_1061 rfl 2 rfl ?_
                                                                refine z_aload_n hC dL_law_1062 rfl 0 rfl ?_
                                                                refine z_iload_n hC dL_law_1063 rfl 3 rfl ?_
                                                                refine z_ic1 hC dL_law_1064 ?_
                                                                refine z_iadd hC dL_law_1065 ?_
                                                                refine z_sld hC hL dL_law_1066 hR (fun hR => ?_)
                                                                refine z_callVi_p hC hN [.int (xs (Int32.toNatClampNeg (l3 + 1)))] [30, 31, 38] (c_X9_count (l := zl E) (D := zD E) (cI := cI) (cB := cB) (cZ := cZ) (N := N) (a_t := a_p2) (a_t_now := a_p2_now) (a_t_kept := a_p2_kept) (a_t_isKept := a_p2_isKept) (a_t_acts := a_p2_acts) (a_t_was := a_p2_was) (a_t_lanes := a_p2_lanes) (a_t_longs := a_p2_longs) (a_t_isThere := a_p2_isThere) (a_t_items := a_p2_items) (a_t_copied := a_p2_copied) (a_t_tape := a_p2_tape) (a_t_readSorts := a_p2_readSorts) (a_t_readHands := a_p2_readHands) (a_t_inTurn := a_p2_inTurn) (a_t_ends := a_p2_ends) (a_t_bestHands := a_p2_bestHands) (a_t_traces := a_p2_traces) (l1 := (xs (Int32.toNatClampNeg (l3 + 1)))) (t_manyActs := p2_manyActs) (t_status := p2_status) (t_tapeLong := p2_tapeLong) (t_fault := p2_fault) (t_tokenAt := p2_tokenAt) (t_tokenLong := p2_tokenLong) (t_token := p2_token) (t_value := p2_value) (t_winner := p2_winner) (t_throwsOf := p2_throwsOf) (t_handA := p2_handA) (t_handB := p2_handB) (t_fewestSo := p2_fewestSo) (t_traced := p2_traced) (t_now := p2_now) (t_isThere := p2_isThere)) rfl ⟨rfl, rfl⟩ gL_law_X9_count hvX9_count 30 9 rfl rfl rfl ⟨Nat.le_of_ble_eq_true rfl, Nat.le_of_ble_eq_true rfl⟩ ⟨Nat.le_of_ble_eq_true rfl, Nat.le_of_ble_eq_true rfl⟩ rfl (Nat.le_of_ble_eq_true rfl) rfl (by decide) dL_law_1067 hR (fun r1067 hR => ?_)
                                                                refine z_icmp_eq hC 1088 dL_law_1070 (by decide) hR (fun hR => ?_) (fun hR => ?_)
                                                                · refine z_iinc6 hC [(3, .int (l3 + 6)), (0, .ref a_scr), (1, .ref a_p1), (2, .ref a_p2)] dL_law_1088 3 rfl (by decide) rfl ?_
                                                                  refine z_goto hC 18 dL_law_1091 (by decide) ?_
                                                                  refine z_sub (lv' := [(0, .ref a_scr), (1, .ref a_p1), (2, .ref a_p2), (3, .int (l3 + 6))]) [1, 2, 3, 0] rfl ?_
                                                                  exact ih a_p1_ways_best a_p1_ways_better p1_latestFault p1_latestFinding p1_rows_lane p1_rows_size p1_rows_items p1_tape_length p1_tape_bytes p1_reader_token p1_reader_start p1_reader_past p1_reader_value p1_now_players p1_now_round p1_now_time p1_now_kind p1_now_hand p1_now_leader p1_now_course_first p1_now_course_second p1_now_course_thrown p1_trial_players p1_trial_round p1_trial_time p1_trial_kind p1_trial_hand p1_trial_leader p1_trial_course_first p1_trial_course_second p1_trial_course_thrown p1_acts_kept p1_acts_next p1_acts_halls p1_ways_groups p1_ways_group p1_ways_train p1_ways_best p1_ways_better p1_ways_course_first p1_ways_course_second p1_ways_course_thrown p1_asks_length p1_asks_numbers p1_images p1_imageKept p2_manyActs p2_status p2_tapeLong p2_fault p2_tokenAt p2_tokenLong p2_token p2_value p2_winner p2_throwsOf p2_handA p2_handB p2_fewestSo p2_traced p2_now p2_kept p2_isKept p2_acts p2_was p2_lanes p2_longs p2_isThere p2_items p2_copied p2_tape p2_readSorts p2_readHands p2_inTurn p2_ends p2_bestHands p2_traces (l3 + 6) hR
                                                                · refine z_ic0 hC dL_law_1073 ?_
                                                                  obtain rfl := Option.some.inj hR
                                                                  exact absurd hrf (by decide)
                                                              · refine z_by hR (fun c29 hR => ?_) (fun c29 hR => ?_)
                                                                · refine z_tin hC 29 1075 c29 dL_law_33 (by decide) (by decide) rfl (by decide) ?_
                                                                  refine z_aload_n hC dL_law_1075 rfl 1 rfl ?_
                                                                  refine z_callVi_p hC hN [] [0] (c_X8_status (l := zl E) (D := zD E) (cI := cI) (cB := cB) (cZ := cZ) (N := N) (a_t := a_p1) (a_t_rows := a_p1_rows) (a_t_tape := a_p1_tape) (a_t_reader := a_p1_reader) (a_t_now := a_p1_now) (a_t_trial := a_p1_trial) (a_t_acts := a_p1_acts) (a_t_ways := a_p1_ways) (a_t_asks := a_p1_asks) (a_t_images := a_p1_images) (a_t_imageKept := a_p1_imageKept) (t_latestFault := p1_latestFault) (t_latestFinding := p1_latestFinding)) rfl ⟨rfl, rfl⟩ gL_law_X8_status hvX8_status 0 8 rfl rfl rfl ⟨Nat.le_of_ble_eq_true rfl, Nat.le_of_ble_eq_true rfl⟩ ⟨Nat.le_of_ble_eq_true rfl, Nat.le_of_ble_eq_true rfl⟩ rfl (Nat.le_of_ble_eq_true rfl) rfl (by decide) dL_law_1076 hR (fun r1076 hR => ?_)
                                                                  refine z_aload_n hC dL_law_1079 rfl 2 rfl ?_
                                                                  refine z_callVi_p hC hN [] [30] (c_X9_status (l := zl E) (D := zD E) (cI := cI) (cB := cB) (cZ := cZ) (N := N) (a_t := a_p2) (a_t_now := a_p2_now) (a_t_kept := a_p2_kept) (a_t_isKept := a_p2_isKept) (a_t_acts := a_p2_acts) (a_t_was := a_p2_was) (a_t_lanes := a_p2_lanes) (a_t_longs := a_p2_longs) (a_t_isThere := a_p2_isThere) (a_t_items := a_p2_items) (a_t_copied := a_p2_copied) (a_t_tape := a_p2_tape) (a_t_readSorts := a_p2_readSorts) (a_t_readHands := a_p2_readHands) (a_t_inTurn := a_p2_inTurn) (a_t_ends := a_p2_ends) (a_t_bestHands := a_p2_bestHands) (a_t_traces := a_p2_traces) (t_manyActs := p2_manyActs) (t_status := p2_status) (t_tapeLong := p2_tapeLong) (t_fault := p2_fault) (t_tokenAt := p2_tokenAt) (t_tokenLong := p2_tokenLong) (t_token := p2_token) (t_value := p2_value) (t_winner := p2_winner) (t_throwsOf := p2_throwsOf) (t_handA := p2_handA) (t_handB := p2_handB) (t_fewestSo := p2_fewestSo) (t_traced := p2_traced)) rfl ⟨rfl, rfl⟩ gL_law_X9_status hvX9_status 30 9 rfl rfl rfl ⟨Nat.le_of_ble_eq_true rfl, Nat.le_of_ble_eq_true rfl⟩ ⟨Nat.le_of_ble_eq_true rfl, Nat.le_of_ble_eq_true rfl⟩ rfl (Nat.le_of_ble_eq_true rfl) rfl (by decide) dL_law_1080 hR (fun r1080 hR => ?_)
                                                                  refine z_icmp_eq hC 1088 dL_law_1083 (by decide) hR (fun hR => ?_) (fun hR => ?_)
                                                                  · refine z_iinc6 hC [(3, .int (l3 + 6)), (0, .ref a_scr), (1, .ref a_p1), (2, .ref a_p2)] dL_law_1088 3 rfl (by decide) rfl ?_
                                                                    refine z_goto hC 18 dL_law_1091 (by decide) ?_
                                                                    refine z_sub (lv' := [(0, .ref a_scr), (1, .ref a_p1), (2, .ref a_p2), (3, .int (l3 + 6))]) [1, 2, 3, 0] rfl ?_
                                                                    exact ih a_p1_ways_best a_p1_ways_better p1_latestFault p1_latestFinding p1_rows_lane p1_rows_size p1_rows_items p1_tape_length p1_tape_bytes p1_reader_token p1_reader_start p1_reader_past p1_reader_value p1_now_players p1_now_round p1_now_time p1_now_kind p1_now_hand p1_now_leader p1_now_course_first p1_now_course_second p1_now_course_thrown p1_trial_players p1_trial_round p1_trial_time p1_trial_kind p1_trial_hand p1_trial_leader p1_trial_course_first p1_trial_course_second p1_trial_course_thrown p1_acts_kept p1_acts_next p1_acts_halls p1_ways_groups p1_ways_group p1_ways_train p1_ways_best p1_ways_better p1_ways_course_first p1_ways_course_second p1_ways_course_thrown p1_asks_length p1_asks_numbers p1_images p1_imageKept p2_manyActs p2_status p2_tapeLong p2_fault p2_tokenAt p2_tokenLong p2_token p2_value p2_winner p2_throwsOf p2_handA p2_handB p2_fewestSo p2_traced p2_now p2_kept p2_isKept p2_acts p2_was p2_lanes p2_longs p2_isThere p2_items p2_copied p2_tape p2_readSorts p2_readHands p2_inTurn p2_ends p2_bestHands p2_traces (l3 + 6) hR
                                                                  · refine z_ic0 hC dL_law_1086 ?_
                                                                    obtain rfl := Option.some.inj hR
                                                                    exact absurd hrf (by decide)
                                                                · refine z_tout hC 1088 dL_law_33 (by have h0 := lv_neT c0 (a := 0) rfl; have h1 := lv_neT c1 (a := 1) rfl; have h2 := lv_neT c2 (a := 2) rfl; have h3 := lv_neT c3 (a := 3) rfl; have h4 := lv_neT c4 (a := 4) rfl; have h5 := lv_neT c5 (a := 5) rfl; have h6 := lv_neT c6 (a := 6) rfl; have h7 := lv_neT c7 (a := 7) rfl; have h8 := lv_neT c8 (a := 8) rfl; have h9 := lv_neT c9 (a := 9) rfl; have h10 := lv_neT c10 (a := 10) rfl; have h11 := lv_neT c11 (a := 11) rfl; have h12 := lv_neT c12 (a := 12) rfl; have h13 := lv_neT c13 (a := 13) rfl; have h14 := lv_neT c14 (a := 14) rfl; have h15 := lv_neT c15 (a := 15) rfl; have h16 := lv_neT c16 (a := 16) rfl; have h17 := lv_neT c17 (a := 17) rfl; have h18 := lv_neT c18 (a := 18) rfl; have h19 := lv_neT c19 (a := 19) rfl; have h20 := lv_neT c20 (a := 20) rfl; have h21 := lv_neT c21 (a := 21) rfl; have h22 := lv_neT c22 (a := 22) rfl; have h23 := lv_neT c23 (a := 23) rfl; have h24 := lv_neT c24 (a := 24) rfl; have h25 := lv_neT c25 (a := 25) rfl; have h26 := lv_neT c26 (a := 26) rfl; have h27 := lv_neT c27 (a := 27) rfl; have h28 := lv_neT c28 (a := 28) rfl; have h29 := lv_neT c29 (a := 29) rfl; omega) (by decide) ?_
                                                                  refine z_iinc6 hC [(3, .int (l3 + 6)), (0, .ref a_scr), (1, .ref a_p1), (2, .ref a_p2)] dL_law_1088 3 rfl (by decide) rfl ?_
                                                                  refine z_goto hC 18 dL_law_1091 (by decide) ?_
                                                                  refine z_sub (lv' := [(0, .ref a_scr), (1, .ref a_p1), (2, .ref a_p2), (3, .int (l3 + 6))]) [1, 2, 3, 0] rfl ?_
                                                                  exact ih a_p1_ways_best a_p1_ways_better p1_latestFault p1_latestFinding p1_rows_lane p1_rows_size p1_rows_items p1_tape_length p1_tape_bytes p1_reader_token p1_reader_start p1_reader_past p1_reader_value p1_now_players p1_now_round p1_now_time p1_now_kind p1_now_hand p1_now_leader p1_now_course_first p1_now_course_second p1_now_course_thrown p1_trial_players p1_trial_round p1_trial_time p1_trial_kind p1_trial_hand p1_trial_leader p1_trial_course_first p1_trial_course_second p1_trial_course_thrown p1_acts_kept p1_acts_next p1_acts_halls p1_ways_groups p1_ways_group p1_ways_train p1_ways_best p1_ways_better p1_ways_course_first p1_ways_course_second p1_ways_course_thrown p1_asks_length p1_asks_numbers p1_images p1_imageKept p2_manyActs p2_status p2_tapeLong p2_fault p2_tokenAt p2_tokenLong p2_token p2_value p2_winner p2_throwsOf p2_handA p2_handB p2_fewestSo p2_traced p2_now p2_kept p2_isKept p2_acts p2_was p2_lanes p2_longs p2_isThere p2_items p2_copied p2_tape p2_readSorts p2_readHands p2_inTurn p2_ends p2_bestHands p2_traces (l3 + 6) hR
