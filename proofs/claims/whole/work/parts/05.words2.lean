def MX0_init : gM := (yX0_init, cX0_init, 1, none)
theorem kX0_init : gCd MX0_init 0 := ⟨mW_1 (List.mem_of_getElem? (i := 196) rfl) rfl, mW_1 (List.mem_of_getElem? (i := 12) rfl) rfl, ⟨by decide, by decide, by decide +kernel⟩, by decide⟩
theorem iX0_init : Cond.instanceMethod yX0_init ∈ gW := mW_1 (List.mem_of_getElem? (i := 195) rfl) rfl
def MX0_clear : gM := (yX0_clear, cX0_clear, 1, none)
theorem kX0_clear : gCd MX0_clear 0 := ⟨mW_3 (List.mem_of_getElem? (i := 29) rfl) rfl, mW_1 (List.mem_of_getElem? (i := 12) rfl) rfl, ⟨by decide, by decide, by decide +kernel⟩, by decide⟩
theorem vX0_clear : gVi MX0_clear := ⟨mW_3 (List.mem_of_getElem? (i := 27) rfl) rfl, mW_3 (List.mem_of_getElem? (i := 28) rfl) rfl⟩
def MX0_add : gM := (yX0_add, cX0_add, 2, none)
theorem kX0_add : gCd MX0_add 1 := ⟨mW_3 (List.mem_of_getElem? (i := 186) rfl) rfl, mW_1 (List.mem_of_getElem? (i := 12) rfl) rfl, ⟨by decide, by decide, by decide +kernel⟩, by decide⟩
theorem vX0_add : gVi MX0_add := ⟨mW_3 (List.mem_of_getElem? (i := 184) rfl) rfl, mW_3 (List.mem_of_getElem? (i := 185) rfl) rfl⟩
def MX0_open : gM := (yX0_open, cX0_open, 2, none)
theorem kX0_open : gCd MX0_open 1 := ⟨mW_3 (List.mem_of_getElem? (i := 165) rfl) rfl, mW_1 (List.mem_of_getElem? (i := 12) rfl) rfl, ⟨by decide, by decide, by decide +kernel⟩, by decide⟩
theorem vX0_open : gVi MX0_open := ⟨mW_3 (List.mem_of_getElem? (i := 163) rfl) rfl, mW_3 (List.mem_of_getElem? (i := 164) rfl) rfl⟩
def MX0_close : gM := (yX0_close, cX0_close, 2, none)
theorem kX0_close : gCd MX0_close 1 := ⟨mW_3 (List.mem_of_getElem? (i := 211) rfl) rfl, mW_1 (List.mem_of_getElem? (i := 12) rfl) rfl, ⟨by decide, by decide, by decide +kernel⟩, by decide⟩
theorem vX0_close : gVi MX0_close := ⟨mW_3 (List.mem_of_getElem? (i := 209) rfl) rfl, mW_3 (List.mem_of_getElem? (i := 210) rfl) rfl⟩
def MX0_isTold : gM := (yX0_isTold, cX0_isTold, 2, (some .boolean))
theorem kX0_isTold : gCd MX0_isTold 1 := ⟨mW_3 (List.mem_of_getElem? (i := 74) rfl) rfl, mW_1 (List.mem_of_getElem? (i := 12) rfl) rfl, ⟨by decide, by decide, by decide +kernel⟩, by decide⟩
theorem vX0_isTold : gVi MX0_isTold := ⟨mW_3 (List.mem_of_getElem? (i := 72) rfl) rfl, mW_3 (List.mem_of_getElem? (i := 73) rfl) rfl⟩
def MX1_init : gM := (yX1_init, cX1_init, 2, none)
theorem kX1_init : gCd MX1_init 1 := ⟨mW_2 (List.mem_of_getElem? (i := 132) rfl) rfl, mW_1 (List.mem_of_getElem? (i := 15) rfl) rfl, ⟨by decide, by decide, by decide +kernel⟩, by decide⟩
theorem iX1_init : Cond.instanceMethod yX1_init ∈ gW := mW_2 (List.mem_of_getElem? (i := 131) rfl) rfl
def MX1_canTry : gM := (yX1_canTry, cX1_canTry, 5, (some .boolean))
theorem kX1_canTry : gCd MX1_canTry 2 := ⟨mW_5 (List.mem_of_getElem? (i := 39) rfl) rfl, mW_1 (List.mem_of_getElem? (i := 15) rfl) rfl, ⟨by decide, by decide, by decide +kernel⟩, by decide⟩
theorem vX1_canTry : gVi MX1_canTry := ⟨mW_5 (List.mem_of_getElem? (i := 37) rfl) rfl, mW_5 (List.mem_of_getElem? (i := 38) rfl) rfl⟩
def MX1_sendFile : gM := (yX1_sendFile, cX1_sendFile, 8, (some .int))
theorem kX1_sendFile : gCd MX1_sendFile 3 := ⟨mW_5 (List.mem_of_getElem? (i := 191) rfl) rfl, mW_1 (List.mem_of_getElem? (i := 15) rfl) rfl, ⟨by decide, by decide, by decide +kernel⟩, by decide⟩
theorem vX1_sendFile : gVi MX1_sendFile := ⟨mW_5 (List.mem_of_getElem? (i := 189) rfl) rfl, mW_5 (List.mem_of_getElem? (i := 190) rfl) rfl⟩
def MX1_sort : gM := (yX1_sort, cX1_sort, 3, (some .int))
theorem kX1_sort : gCd MX1_sort 2 := ⟨mW_5 (List.mem_of_getElem? (i := 51) rfl) rfl, mW_1 (List.mem_of_getElem? (i := 15) rfl) rfl, ⟨by decide, by decide, by decide +kernel⟩, by decide⟩
theorem vX1_sort : gVi MX1_sort := ⟨mW_5 (List.mem_of_getElem? (i := 49) rfl) rfl, mW_5 (List.mem_of_getElem? (i := 50) rfl) rfl⟩
def MX1_placeOne : gM := (yX1_placeOne, cX1_placeOne, 9, none)
theorem kX1_placeOne : gCd MX1_placeOne 5 := ⟨mW_5 (List.mem_of_getElem? (i := 55) rfl) rfl, mW_1 (List.mem_of_getElem? (i := 15) rfl) rfl, ⟨by decide, by decide, by decide +kernel⟩, by decide⟩
theorem vX1_placeOne : gVi MX1_placeOne := ⟨mW_5 (List.mem_of_getElem? (i := 54) rfl) rfl, mS_3 (List.mem_of_getElem? (i := 3) rfl) rfl⟩
def MX1_findLeader : gM := (yX1_findLeader, cX1_findLeader, 6, (some .int))
theorem kX1_findLeader : gCd MX1_findLeader 2 := ⟨mW_5 (List.mem_of_getElem? (i := 79) rfl) rfl, mW_1 (List.mem_of_getElem? (i := 15) rfl) rfl, ⟨by decide, by decide, by decide +kernel⟩, by decide⟩
theorem vX1_findLeader : gVi MX1_findLeader := ⟨mW_5 (List.mem_of_getElem? (i := 77) rfl) rfl, mW_5 (List.mem_of_getElem? (i := 78) rfl) rfl⟩
def MX1_countLed : gM := (yX1_countLed, cX1_countLed, 9, (some .int))
theorem kX1_countLed : gCd MX1_countLed 3 := ⟨mW_5 (List.mem_of_getElem? (i := 83) rfl) rfl, mW_1 (List.mem_of_getElem? (i := 15) rfl) rfl, ⟨by decide, by decide, by decide +kernel⟩, by decide⟩
theorem vX1_countLed : gVi MX1_countLed := ⟨mW_5 (List.mem_of_getElem? (i := 82) rfl) rfl, mS_3 (List.mem_of_getElem? (i := 4) rfl) rfl⟩
def MX1_matchedHand : gM := (yX1_matchedHand, cX1_matchedHand, 4, (some .int))
theorem kX1_matchedHand : gCd MX1_matchedHand 1 := ⟨mW_5 (List.mem_of_getElem? (i := 91) rfl) rfl, mW_1 (List.mem_of_getElem? (i := 15) rfl) rfl, ⟨by decide, by decide, by decide +kernel⟩, by decide⟩
theorem vX1_matchedHand : gVi MX1_matchedHand := ⟨mW_5 (List.mem_of_getElem? (i := 89) rfl) rfl, mW_5 (List.mem_of_getElem? (i := 90) rfl) rfl⟩
def MX1_handHeldBy : gM := (yX1_handHeldBy, cX1_handHeldBy, 3, (some .int))
theorem kX1_handHeldBy : gCd MX1_handHeldBy 1 := ⟨mW_5 (List.mem_of_getElem? (i := 100) rfl) rfl, mW_1 (List.mem_of_getElem? (i := 15) rfl) rfl, ⟨by decide, by decide, by decide +kernel⟩, by decide⟩
theorem vX1_handHeldBy : gVi MX1_handHeldBy := ⟨mW_5 (List.mem_of_getElem? (i := 99) rfl) rfl, mS_3 (List.mem_of_getElem? (i := 6) rfl) rfl⟩
def MX1_findAsking : gM := (yX1_findAsking, cX1_findAsking, 3, (some .int))
theorem kX1_findAsking : gCd MX1_findAsking 0 := ⟨mW_5 (List.mem_of_getElem? (i := 96) rfl) rfl, mW_1 (List.mem_of_getElem? (i := 15) rfl) rfl, ⟨by decide, by decide, by decide +kernel⟩, by decide⟩
theorem vX1_findAsking : gVi MX1_findAsking := ⟨mW_5 (List.mem_of_getElem? (i := 95) rfl) rfl, mS_3 (List.mem_of_getElem? (i := 5) rfl) rfl⟩
def MX1_askOne : gM := (yX1_askOne, cX1_askOne, 4, none)
theorem kX1_askOne : gCd MX1_askOne 1 := ⟨mW_5 (List.mem_of_getElem? (i := 104) rfl) rfl, mW_1 (List.mem_of_getElem? (i := 15) rfl) rfl, ⟨by decide, by decide, by decide +kernel⟩, by decide⟩
theorem vX1_askOne : gVi MX1_askOne := ⟨mW_5 (List.mem_of_getElem? (i := 103) rfl) rfl, mS_3 (List.mem_of_getElem? (i := 7) rfl) rfl⟩
def MX1_isRather : gM := (yX1_isRather, cX1_isRather, 4, (some .boolean))
theorem kX1_isRather : gCd MX1_isRather 2 := ⟨mW_5 (List.mem_of_getElem? (i := 115) rfl) rfl, mW_1 (List.mem_of_getElem? (i := 15) rfl) rfl, ⟨by decide, by decide, by decide +kernel⟩, by decide⟩
theorem vX1_isRather : gVi MX1_isRather := ⟨mW_5 (List.mem_of_getElem? (i := 114) rfl) rfl, mS_3 (List.mem_of_getElem? (i := 9) rfl) rfl⟩
def MX1_bestUnasked : gM := (yX1_bestUnasked, cX1_bestUnasked, 5, (some .int))
theorem kX1_bestUnasked : gCd MX1_bestUnasked 1 := ⟨mW_5 (List.mem_of_getElem? (i := 108) rfl) rfl, mW_1 (List.mem_of_getElem? (i := 15) rfl) rfl, ⟨by decide, by decide, by decide +kernel⟩, by decide⟩
theorem vX1_bestUnasked : gVi MX1_bestUnasked := ⟨mW_5 (List.mem_of_getElem? (i := 107) rfl) rfl, mS_3 (List.mem_of_getElem? (i := 8) rfl) rfl⟩
def MX2_init : gM := (yX2_init, cX2_init, 1, none)
theorem kX2_init : gCd MX2_init 0 := ⟨mW_1 (List.mem_of_getElem? (i := 163) rfl) rfl, mW_1 (List.mem_of_getElem? (i := 9) rfl) rfl, ⟨by decide, by decide, by decide +kernel⟩, by decide⟩
theorem iX2_init : Cond.instanceMethod yX2_init ∈ gW := mW_1 (List.mem_of_getElem? (i := 162) rfl) rfl
def MX2_begin : gM := (yX2_begin, cX2_begin, 3, none)
theorem kX2_begin : gCd MX2_begin 1 := ⟨mW_4 (List.mem_of_getElem? (i := 0) rfl) rfl, mW_1 (List.mem_of_getElem? (i := 9) rfl) rfl, ⟨by decide, by decide, by decide +kernel⟩, by decide⟩
theorem vX2_begin : gVi MX2_begin := ⟨mW_3 (List.mem_of_getElem? (i := 238) rfl) rfl, mW_3 (List.mem_of_getElem? (i := 239) rfl) rfl⟩
def MX2_forget : gM := (yX2_forget, cX2_forget, 1, none)
theorem kX2_forget : gCd MX2_forget 0 := ⟨mW_4 (List.mem_of_getElem? (i := 4) rfl) rfl, mW_1 (List.mem_of_getElem? (i := 9) rfl) rfl, ⟨by decide, by decide, by decide +kernel⟩, by decide⟩
theorem vX2_forget : gVi MX2_forget := ⟨mW_4 (List.mem_of_getElem? (i := 2) rfl) rfl, mW_4 (List.mem_of_getElem? (i := 3) rfl) rfl⟩
def MX2_remember : gM := (yX2_remember, cX2_remember, 1, none)
theorem kX2_remember : gCd MX2_remember 0 := ⟨mW_5 (List.mem_of_getElem? (i := 155) rfl) rfl, mW_1 (List.mem_of_getElem? (i := 9) rfl) rfl, ⟨by decide, by decide, by decide +kernel⟩, by decide⟩
theorem vX2_remember : gVi MX2_remember := ⟨mW_5 (List.mem_of_getElem? (i := 153) rfl) rfl, mW_5 (List.mem_of_getElem? (i := 154) rfl) rfl⟩
def MX2_goBack : gM := (yX2_goBack, cX2_goBack, 1, (some .boolean))
theorem kX2_goBack : gCd MX2_goBack 0 := ⟨mW_6 (List.mem_of_getElem? (i := 9) rfl) rfl, mW_1 (List.mem_of_getElem? (i := 9) rfl) rfl, ⟨by decide, by decide, by decide +kernel⟩, by decide⟩
theorem vX2_goBack : gVi MX2_goBack := ⟨mW_6 (List.mem_of_getElem? (i := 7) rfl) rfl, mW_6 (List.mem_of_getElem? (i := 8) rfl) rfl⟩
def MX2_isBoat : gM := (yX2_isBoat, cX2_isBoat, 2, (some .boolean))
theorem kX2_isBoat : gCd MX2_isBoat 1 := ⟨mW_4 (List.mem_of_getElem? (i := 37) rfl) rfl, mW_1 (List.mem_of_getElem? (i := 9) rfl) rfl, ⟨by decide, by decide, by decide +kernel⟩, by decide⟩
theorem vX2_isBoat : gVi MX2_isBoat := ⟨mW_4 (List.mem_of_getElem? (i := 36) rfl) rfl, mS_2 (List.mem_of_getElem? (i := 7) rfl) rfl⟩
def MX2_hour : gM := (yX2_hour, cX2_hour, 1, (some .int))
theorem kX2_hour : gCd MX2_hour 0 := ⟨mW_4 (List.mem_of_getElem? (i := 17) rfl) rfl, mW_1 (List.mem_of_getElem? (i := 9) rfl) rfl, ⟨by decide, by decide, by decide +kernel⟩, by decide⟩
theorem vX2_hour : gVi MX2_hour := ⟨mW_4 (List.mem_of_getElem? (i := 15) rfl) rfl, mW_4 (List.mem_of_getElem? (i := 16) rfl) rfl⟩
def MX2_coins : gM := (yX2_coins, cX2_coins, 1, (some .int))
theorem kX2_coins : gCd MX2_coins 0 := ⟨mW_4 (List.mem_of_getElem? (i := 25) rfl) rfl, mW_1 (List.mem_of_getElem? (i := 9) rfl) rfl, ⟨by decide, by decide, by decide +kernel⟩, by decide⟩
theorem vX2_coins : gVi MX2_coins := ⟨mW_4 (List.mem_of_getElem? (i := 23) rfl) rfl, mW_4 (List.mem_of_getElem? (i := 24) rfl) rfl⟩
def MX2_cellOf : gM := (yX2_cellOf, cX2_cellOf, 2, (some .int))
theorem kX2_cellOf : gCd MX2_cellOf 1 := ⟨mW_4 (List.mem_of_getElem? (i := 66) rfl) rfl, mW_1 (List.mem_of_getElem? (i := 9) rfl) rfl, ⟨by decide, by decide, by decide +kernel⟩, by decide⟩
theorem vX2_cellOf : gVi MX2_cellOf := ⟨mW_4 (List.mem_of_getElem? (i := 64) rfl) rfl, mW_4 (List.mem_of_getElem? (i := 65) rfl) rfl⟩
def MX2_trustOf : gM := (yX2_trustOf, cX2_trustOf, 2, (some .int))
theorem kX2_trustOf : gCd MX2_trustOf 1 := ⟨mW_4 (List.mem_of_getElem? (i := 45) rfl) rfl, mW_1 (List.mem_of_getElem? (i := 9) rfl) rfl, ⟨by decide, by decide, by decide +kernel⟩, by decide⟩
theorem vX2_trustOf : gVi MX2_trustOf := ⟨mW_4 (List.mem_of_getElem? (i := 43) rfl) rfl, mW_4 (List.mem_of_getElem? (i := 44) rfl) rfl⟩
def MX2_balksOf : gM := (yX2_balksOf, cX2_balksOf, 2, (some .int))
theorem kX2_balksOf : gCd MX2_balksOf 1 := ⟨mW_4 (List.mem_of_getElem? (i := 33) rfl) rfl, mW_1 (List.mem_of_getElem? (i := 9) rfl) rfl, ⟨by decide, by decide, by decide +kernel⟩, by decide⟩
theorem vX2_balksOf : gVi MX2_balksOf := ⟨mW_4 (List.mem_of_getElem? (i := 31) rfl) rfl, mW_4 (List.mem_of_getElem? (i := 32) rfl) rfl⟩
def MX2_handOf : gM := (yX2_handOf, cX2_handOf, 2, (some .int))
theorem kX2_handOf : gCd MX2_handOf 1 := ⟨mW_4 (List.mem_of_getElem? (i := 72) rfl) rfl, mW_1 (List.mem_of_getElem? (i := 9) rfl) rfl, ⟨by decide, by decide, by decide +kernel⟩, by decide⟩
theorem vX2_handOf : gVi MX2_handOf := ⟨mW_4 (List.mem_of_getElem? (i := 70) rfl) rfl, mW_4 (List.mem_of_getElem? (i := 71) rfl) rfl⟩
def MX2_boatOf : gM := (yX2_boatOf, cX2_boatOf, 3, (some .int))
theorem kX2_boatOf : gCd MX2_boatOf 1 := ⟨mW_4 (List.mem_of_getElem? (i := 115) rfl) rfl, mW_1 (List.mem_of_getElem? (i := 9) rfl) rfl, ⟨by decide, by decide, by decide +kernel⟩, by decide⟩
theorem vX2_boatOf : gVi MX2_boatOf := ⟨mW_4 (List.mem_of_getElem? (i := 113) rfl) rfl, mW_4 (List.mem_of_getElem? (i := 114) rfl) rfl⟩
def MX2_bitsIn : gM := (yX2_bitsIn, cX2_bitsIn, 4, (some .int))
theorem kX2_bitsIn : gCd MX2_bitsIn 1 := ⟨mW_4 (List.mem_of_getElem? (i := 101) rfl) rfl, mW_1 (List.mem_of_getElem? (i := 9) rfl) rfl, ⟨by decide, by decide, by decide +kernel⟩, by decide⟩
theorem vX2_bitsIn : gVi MX2_bitsIn := ⟨mW_4 (List.mem_of_getElem? (i := 99) rfl) rfl, mW_4 (List.mem_of_getElem? (i := 100) rfl) rfl⟩
def MX2_allTrust : gM := (yX2_allTrust, cX2_allTrust, 3, (some .int))
theorem kX2_allTrust : gCd MX2_allTrust 0 := ⟨mW_4 (List.mem_of_getElem? (i := 41) rfl) rfl, mW_1 (List.mem_of_getElem? (i := 9) rfl) rfl, ⟨by decide, by decide, by decide +kernel⟩, by decide⟩
theorem vX2_allTrust : gVi MX2_allTrust := ⟨mW_4 (List.mem_of_getElem? (i := 39) rfl) rfl, mW_4 (List.mem_of_getElem? (i := 40) rfl) rfl⟩
def MX2_allBalks : gM := (yX2_allBalks, cX2_allBalks, 3, (some .int))
theorem kX2_allBalks : gCd MX2_allBalks 0 := ⟨mW_4 (List.mem_of_getElem? (i := 29) rfl) rfl, mW_1 (List.mem_of_getElem? (i := 9) rfl) rfl, ⟨by decide, by decide, by decide +kernel⟩, by decide⟩
theorem vX2_allBalks : gVi MX2_allBalks := ⟨mW_4 (List.mem_of_getElem? (i := 27) rfl) rfl, mW_4 (List.mem_of_getElem? (i := 28) rfl) rfl⟩
def MX2_passHours : gM := (yX2_passHours, cX2_passHours, 2, none)
theorem kX2_passHours : gCd MX2_passHours 1 := ⟨mW_5 (List.mem_of_getElem? (i := 227) rfl) rfl, mW_1 (List.mem_of_getElem? (i := 9) rfl) rfl, ⟨by decide, by decide, by decide +kernel⟩, by decide⟩
theorem vX2_passHours : gVi MX2_passHours := ⟨mW_5 (List.mem_of_getElem? (i := 225) rfl) rfl, mW_5 (List.mem_of_getElem? (i := 226) rfl) rfl⟩
def MX2_pay : gM := (yX2_pay, cX2_pay, 2, none)
theorem kX2_pay : gCd MX2_pay 1 := ⟨mW_5 (List.mem_of_getElem? (i := 200) rfl) rfl, mW_1 (List.mem_of_getElem? (i := 9) rfl) rfl, ⟨by decide, by decide, by decide +kernel⟩, by decide⟩
theorem vX2_pay : gVi MX2_pay := ⟨mW_5 (List.mem_of_getElem? (i := 198) rfl) rfl, mW_5 (List.mem_of_getElem? (i := 199) rfl) rfl⟩
def MX2_setTrust : gM := (yX2_setTrust, cX2_setTrust, 3, none)
theorem kX2_setTrust : gCd MX2_setTrust 2 := ⟨mW_5 (List.mem_of_getElem? (i := 166) rfl) rfl, mW_1 (List.mem_of_getElem? (i := 9) rfl) rfl, ⟨by decide, by decide, by decide +kernel⟩, by decide⟩
theorem vX2_setTrust : gVi MX2_setTrust := ⟨mW_5 (List.mem_of_getElem? (i := 164) rfl) rfl, mW_5 (List.mem_of_getElem? (i := 165) rfl) rfl⟩
def MX2_crew : gM := (yX2_crew, cX2_crew, 4, none)
theorem kX2_crew : gCd MX2_crew 2 := ⟨mW_5 (List.mem_of_getElem? (i := 210) rfl) rfl, mW_1 (List.mem_of_getElem? (i := 9) rfl) rfl, ⟨by decide, by decide, by decide +kernel⟩, by decide⟩
theorem vX2_crew : gVi MX2_crew := ⟨mW_5 (List.mem_of_getElem? (i := 208) rfl) rfl, mW_5 (List.mem_of_getElem? (i := 209) rfl) rfl⟩
def MX2_move : gM := (yX2_move, cX2_move, 3, none)
theorem kX2_move : gCd MX2_move 2 := ⟨mW_5 (List.mem_of_getElem? (i := 171) rfl) rfl, mW_1 (List.mem_of_getElem? (i := 9) rfl) rfl, ⟨by decide, by decide, by decide +kernel⟩, by decide⟩
theorem vX2_move : gVi MX2_move := ⟨mW_5 (List.mem_of_getElem? (i := 169) rfl) rfl, mW_5 (List.mem_of_getElem? (i := 170) rfl) rfl⟩
def MX2_balk : gM := (yX2_balk, cX2_balk, 2, none)
theorem kX2_balk : gCd MX2_balk 1 := ⟨mW_5 (List.mem_of_getElem? (i := 175) rfl) rfl, mW_1 (List.mem_of_getElem? (i := 9) rfl) rfl, ⟨by decide, by decide, by decide +kernel⟩, by decide⟩
theorem vX2_balk : gVi MX2_balk := ⟨mW_5 (List.mem_of_getElem? (i := 173) rfl) rfl, mW_5 (List.mem_of_getElem? (i := 174) rfl) rfl⟩
def MX2_keep : gM := (yX2_keep, cX2_keep, 5, none)
theorem kX2_keep : gCd MX2_keep 3 := ⟨mW_5 (List.mem_of_getElem? (i := 179) rfl) rfl, mW_1 (List.mem_of_getElem? (i := 9) rfl) rfl, ⟨by decide, by decide, by decide +kernel⟩, by decide⟩
theorem vX2_keep : gVi MX2_keep := ⟨mW_5 (List.mem_of_getElem? (i := 177) rfl) rfl, mW_5 (List.mem_of_getElem? (i := 178) rfl) rfl⟩
def MX2_tellable : gM := (yX2_tellable, cX2_tellable, 1, (some .int))
theorem kX2_tellable : gCd MX2_tellable 0 := ⟨mW_4 (List.mem_of_getElem? (i := 49) rfl) rfl, mW_1 (List.mem_of_getElem? (i := 9) rfl) rfl, ⟨by decide, by decide, by decide +kernel⟩, by decide⟩
theorem vX2_tellable : gVi MX2_tellable := ⟨mW_4 (List.mem_of_getElem? (i := 47) rfl) rfl, mW_4 (List.mem_of_getElem? (i := 48) rfl) rfl⟩
def MX2_tell : gM := (yX2_tell, cX2_tell, 5, (some .int))
theorem kX2_tell : gCd MX2_tell 2 := ⟨mW_4 (List.mem_of_getElem? (i := 137) rfl) rfl, mW_1 (List.mem_of_getElem? (i := 9) rfl) rfl, ⟨by decide, by decide, by decide +kernel⟩, by decide⟩
theorem vX2_tell : gVi MX2_tell := ⟨mW_4 (List.mem_of_getElem? (i := 135) rfl) rfl, mW_4 (List.mem_of_getElem? (i := 136) rfl) rfl⟩
def MX2_hourIn : gM := (yX2_hourIn, cX2_hourIn, 1, (some .int))
theorem kX2_hourIn : gCd MX2_hourIn 1 := ⟨mW_6 (List.mem_of_getElem? (i := 88) rfl) rfl, mW_1 (List.mem_of_getElem? (i := 9) rfl) rfl, ⟨by decide, by decide, by decide +kernel⟩, by decide⟩
theorem sX2_hourIn : gSt MX2_hourIn := mW_6 (List.mem_of_getElem? (i := 87) rfl) rfl
def MX2_coinsIn : gM := (yX2_coinsIn, cX2_coinsIn, 1, (some .int))
theorem kX2_coinsIn : gCd MX2_coinsIn 1 := ⟨mW_6 (List.mem_of_getElem? (i := 91) rfl) rfl, mW_1 (List.mem_of_getElem? (i := 9) rfl) rfl, ⟨by decide, by decide, by decide +kernel⟩, by decide⟩
theorem sX2_coinsIn : gSt MX2_coinsIn := mW_6 (List.mem_of_getElem? (i := 90) rfl) rfl
def MX2_take : gM := (yX2_take, cX2_take, 4, none)
theorem kX2_take : gCd MX2_take 1 := ⟨mW_6 (List.mem_of_getElem? (i := 97) rfl) rfl, mW_1 (List.mem_of_getElem? (i := 9) rfl) rfl, ⟨by decide, by decide, by decide +kernel⟩, by decide⟩
theorem vX2_take : gVi MX2_take := ⟨mW_6 (List.mem_of_getElem? (i := 95) rfl) rfl, mW_6 (List.mem_of_getElem? (i := 96) rfl) rfl⟩
def MX3_init : gM := (yX3_init, cX3_init, 2, none)
theorem kX3_init : gCd MX3_init 1 := ⟨mW_1 (List.mem_of_getElem? (i := 134) rfl) rfl, mW_1 (List.mem_of_getElem? (i := 7) rfl) rfl, ⟨by decide, by decide, by decide +kernel⟩, by decide⟩
theorem iX3_init : Cond.instanceMethod yX3_init ∈ gW := mW_1 (List.mem_of_getElem? (i := 133) rfl) rfl
def MX3_readInto : gM := (yX3_readInto, cX3_readInto, 6, (some .boolean))
theorem kX3_readInto : gCd MX3_readInto 3 := ⟨mW_3 (List.mem_of_getElem? (i := 160) rfl) rfl, mW_1 (List.mem_of_getElem? (i := 7) rfl) rfl, ⟨by decide, by decide, by decide +kernel⟩, by decide⟩
theorem vX3_readInto : gVi MX3_readInto := ⟨mW_3 (List.mem_of_getElem? (i := 158) rfl) rfl, mW_3 (List.mem_of_getElem? (i := 159) rfl) rfl⟩
def MX3_readQuestion : gM := (yX3_readQuestion, cX3_readQuestion, 5, (some .int))
theorem kX3_readQuestion : gCd MX3_readQuestion 1 := ⟨mW_6 (List.mem_of_getElem? (i := 23) rfl) rfl, mW_1 (List.mem_of_getElem? (i := 7) rfl) rfl, ⟨by decide, by decide, by decide +kernel⟩, by decide⟩
theorem vX3_readQuestion : gVi MX3_readQuestion := ⟨mW_6 (List.mem_of_getElem? (i := 21) rfl) rfl, mW_6 (List.mem_of_getElem? (i := 22) rfl) rfl⟩
def MX3_readTest : gM := (yX3_readTest, cX3_readTest, 4, (some .boolean))
theorem kX3_readTest : gCd MX3_readTest 1 := ⟨mW_6 (List.mem_of_getElem? (i := 29) rfl) rfl, mW_1 (List.mem_of_getElem? (i := 7) rfl) rfl, ⟨by decide, by decide, by decide +kernel⟩, by decide⟩
theorem vX3_readTest : gVi MX3_readTest := ⟨mW_6 (List.mem_of_getElem? (i := 28) rfl) rfl, mS_3 (List.mem_of_getElem? (i := 13) rfl) rfl⟩
def MX3_readBoth : gM := (yX3_readBoth, cX3_readBoth, 4, (some .boolean))
theorem kX3_readBoth : gCd MX3_readBoth 1 := ⟨mW_6 (List.mem_of_getElem? (i := 33) rfl) rfl, mW_1 (List.mem_of_getElem? (i := 7) rfl) rfl, ⟨by decide, by decide, by decide +kernel⟩, by decide⟩
theorem vX3_readBoth : gVi MX3_readBoth := ⟨mW_6 (List.mem_of_getElem? (i := 32) rfl) rfl, mS_3 (List.mem_of_getElem? (i := 14) rfl) rfl⟩
def MX3_readFact : gM := (yX3_readFact, cX3_readFact, 3, (some .boolean))
theorem kX3_readFact : gCd MX3_readFact 1 := ⟨mW_6 (List.mem_of_getElem? (i := 37) rfl) rfl, mW_1 (List.mem_of_getElem? (i := 7) rfl) rfl, ⟨by decide, by decide, by decide +kernel⟩, by decide⟩
theorem vX3_readFact : gVi MX3_readFact := ⟨mW_6 (List.mem_of_getElem? (i := 36) rfl) rfl, mS_3 (List.mem_of_getElem? (i := 15) rfl) rfl⟩
def MX3_readComparison : gM := (yX3_readComparison, cX3_readComparison, 4, (some .boolean))
theorem kX3_readComparison : gCd MX3_readComparison 1 := ⟨mW_6 (List.mem_of_getElem? (i := 42) rfl) rfl, mW_1 (List.mem_of_getElem? (i := 7) rfl) rfl, ⟨by decide, by decide, by decide +kernel⟩, by decide⟩
theorem vX3_readComparison : gVi MX3_readComparison := ⟨mW_6 (List.mem_of_getElem? (i := 41) rfl) rfl, mS_4 (List.mem_of_getElem? (i := 0) rfl) rfl⟩
def MX3_readSum : gM := (yX3_readSum, cX3_readSum, 5, (some .boolean))
theorem kX3_readSum : gCd MX3_readSum 1 := ⟨mW_3 (List.mem_of_getElem? (i := 169) rfl) rfl, mW_1 (List.mem_of_getElem? (i := 7) rfl) rfl, ⟨by decide, by decide, by decide +kernel⟩, by decide⟩
theorem vX3_readSum : gVi MX3_readSum := ⟨mW_3 (List.mem_of_getElem? (i := 168) rfl) rfl, mS_1 (List.mem_of_getElem? (i := 13) rfl) rfl⟩
def MX3_readProduct : gM := (yX3_readProduct, cX3_readProduct, 5, (some .boolean))
theorem kX3_readProduct : gCd MX3_readProduct 1 := ⟨mW_3 (List.mem_of_getElem? (i := 173) rfl) rfl, mW_1 (List.mem_of_getElem? (i := 7) rfl) rfl, ⟨by decide, by decide, by decide +kernel⟩, by decide⟩
theorem vX3_readProduct : gVi MX3_readProduct := ⟨mW_3 (List.mem_of_getElem? (i := 172) rfl) rfl, mS_1 (List.mem_of_getElem? (i := 14) rfl) rfl⟩
def MX3_readPart : gM := (yX3_readPart, cX3_readPart, 3, (some .boolean))
theorem kX3_readPart : gCd MX3_readPart 1 := ⟨mW_3 (List.mem_of_getElem? (i := 177) rfl) rfl, mW_1 (List.mem_of_getElem? (i := 7) rfl) rfl, ⟨by decide, by decide, by decide +kernel⟩, by decide⟩
theorem vX3_readPart : gVi MX3_readPart := ⟨mW_3 (List.mem_of_getElem? (i := 176) rfl) rfl, mS_1 (List.mem_of_getElem? (i := 15) rfl) rfl⟩
def MX3_readPair : gM := (yX3_readPair, cX3_readPair, 4, (some .boolean))
theorem kX3_readPair : gCd MX3_readPair 1 := ⟨mW_3 (List.mem_of_getElem? (i := 199) rfl) rfl, mW_1 (List.mem_of_getElem? (i := 7) rfl) rfl, ⟨by decide, by decide, by decide +kernel⟩, by decide⟩
theorem vX3_readPair : gVi MX3_readPair := ⟨mW_3 (List.mem_of_getElem? (i := 198) rfl) rfl, mS_2 (List.mem_of_getElem? (i := 2) rfl) rfl⟩
def MX3_readWord : gM := (yX3_readWord, cX3_readWord, 4, (some .boolean))
theorem kX3_readWord : gCd MX3_readWord 1 := ⟨mW_3 (List.mem_of_getElem? (i := 207) rfl) rfl, mW_1 (List.mem_of_getElem? (i := 7) rfl) rfl, ⟨by decide, by decide, by decide +kernel⟩, by decide⟩
theorem vX3_readWord : gVi MX3_readWord := ⟨mW_3 (List.mem_of_getElem? (i := 206) rfl) rfl, mS_2 (List.mem_of_getElem? (i := 4) rfl) rfl⟩
def MX3_openOne : gM := (yX3_openOne, cX3_openOne, 2, (some .boolean))
theorem kX3_openOne : gCd MX3_openOne 1 := ⟨mW_3 (List.mem_of_getElem? (i := 190) rfl) rfl, mW_1 (List.mem_of_getElem? (i := 7) rfl) rfl, ⟨by decide, by decide, by decide +kernel⟩, by decide⟩
theorem vX3_openOne : gVi MX3_openOne := ⟨mW_3 (List.mem_of_getElem? (i := 189) rfl) rfl, mS_2 (List.mem_of_getElem? (i := 1) rfl) rfl⟩
def MX3_put : gM := (yX3_put, cX3_put, 2, none)
theorem kX3_put : gCd MX3_put 1 := ⟨mW_3 (List.mem_of_getElem? (i := 203) rfl) rfl, mW_1 (List.mem_of_getElem? (i := 7) rfl) rfl, ⟨by decide, by decide, by decide +kernel⟩, by decide⟩
theorem vX3_put : gVi MX3_put := ⟨mW_3 (List.mem_of_getElem? (i := 202) rfl) rfl, mS_2 (List.mem_of_getElem? (i := 3) rfl) rfl⟩
def MX3_putNumber : gM := (yX3_putNumber, cX3_putNumber, 2, none)
theorem kX3_putNumber : gCd MX3_putNumber 1 := ⟨mW_3 (List.mem_of_getElem? (i := 182) rfl) rfl, mW_1 (List.mem_of_getElem? (i := 7) rfl) rfl, ⟨by decide, by decide, by decide +kernel⟩, by decide⟩
theorem vX3_putNumber : gVi MX3_putNumber := ⟨mW_3 (List.mem_of_getElem? (i := 181) rfl) rfl, mS_2 (List.mem_of_getElem? (i := 0) rfl) rfl⟩
def MX4_init : gM := (yX4_init, cX4_init, 1, none)
theorem kX4_init : gCd MX4_init 0 := ⟨mW_1 (List.mem_of_getElem? (i := 190) rfl) rfl, mW_1 (List.mem_of_getElem? (i := 11) rfl) rfl, ⟨by decide, by decide, by decide +kernel⟩, by decide⟩
theorem iX4_init : Cond.instanceMethod yX4_init ∈ gW := mW_1 (List.mem_of_getElem? (i := 189) rfl) rfl
def MX4_clear : gM := (yX4_clear, cX4_clear, 1, none)
theorem kX4_clear : gCd MX4_clear 0 := ⟨mW_3 (List.mem_of_getElem? (i := 25) rfl) rfl, mW_1 (List.mem_of_getElem? (i := 11) rfl) rfl, ⟨by decide, by decide, by decide +kernel⟩, by decide⟩
theorem vX4_clear : gVi MX4_clear := ⟨mW_3 (List.mem_of_getElem? (i := 23) rfl) rfl, mW_3 (List.mem_of_getElem? (i := 24) rfl) rfl⟩
def MX4_isNone : gM := (yX4_isNone, cX4_isNone, 1, (some .boolean))
theorem kX4_isNone : gCd MX4_isNone 0 := ⟨mW_5 (List.mem_of_getElem? (i := 223) rfl) rfl, mW_1 (List.mem_of_getElem? (i := 11) rfl) rfl, ⟨by decide, by decide, by decide +kernel⟩, by decide⟩
theorem vX4_isNone : gVi MX4_isNone := ⟨mW_5 (List.mem_of_getElem? (i := 221) rfl) rfl, mW_5 (List.mem_of_getElem? (i := 222) rfl) rfl⟩
def MX4_cells : gM := (yX4_cells, cX4_cells, 1, (some .int))
theorem kX4_cells : gCd MX4_cells 0 := ⟨mW_3 (List.mem_of_getElem? (i := 225) rfl) rfl, mW_1 (List.mem_of_getElem? (i := 11) rfl) rfl, ⟨by decide, by decide, by decide +kernel⟩, by decide⟩
theorem vX4_cells : gVi MX4_cells := ⟨mW_3 (List.mem_of_getElem? (i := 223) rfl) rfl, mW_3 (List.mem_of_getElem? (i := 224) rfl) rfl⟩
def MX4_isCell : gM := (yX4_isCell, cX4_isCell, 2, (some .boolean))
theorem kX4_isCell : gCd MX4_isCell 1 := ⟨mW_3 (List.mem_of_getElem? (i := 130) rfl) rfl, mW_1 (List.mem_of_getElem? (i := 11) rfl) rfl, ⟨by decide, by decide, by decide +kernel⟩, by decide⟩
theorem vX4_isCell : gVi MX4_isCell := ⟨mW_3 (List.mem_of_getElem? (i := 128) rfl) rfl, mW_3 (List.mem_of_getElem? (i := 129) rfl) rfl⟩
def MX4_isLand : gM := (yX4_isLand, cX4_isLand, 2, (some .boolean))
theorem kX4_isLand : gCd MX4_isLand 1 := ⟨mW_4 (List.mem_of_getElem? (i := 81) rfl) rfl, mW_1 (List.mem_of_getElem? (i := 11) rfl) rfl, ⟨by decide, by decide, by decide +kernel⟩, by decide⟩
theorem vX4_isLand : gVi MX4_isLand := ⟨mW_4 (List.mem_of_getElem? (i := 79) rfl) rfl, mW_4 (List.mem_of_getElem? (i := 80) rfl) rfl⟩
def MX4_isWater : gM := (yX4_isWater, cX4_isWater, 2, (some .boolean))
theorem kX4_isWater : gCd MX4_isWater 1 := ⟨mW_4 (List.mem_of_getElem? (i := 89) rfl) rfl, mW_1 (List.mem_of_getElem? (i := 11) rfl) rfl, ⟨by decide, by decide, by decide +kernel⟩, by decide⟩
theorem vX4_isWater : gVi MX4_isWater := ⟨mW_4 (List.mem_of_getElem? (i := 87) rfl) rfl, mW_4 (List.mem_of_getElem? (i := 88) rfl) rfl⟩
def MX4_isHarbour : gM := (yX4_isHarbour, cX4_isHarbour, 2, (some .boolean))
theorem kX4_isHarbour : gCd MX4_isHarbour 1 := ⟨mW_3 (List.mem_of_getElem? (i := 126) rfl) rfl, mW_1 (List.mem_of_getElem? (i := 11) rfl) rfl, ⟨by decide, by decide, by decide +kernel⟩, by decide⟩
theorem vX4_isHarbour : gVi MX4_isHarbour := ⟨mW_3 (List.mem_of_getElem? (i := 124) rfl) rfl, mW_3 (List.mem_of_getElem? (i := 125) rfl) rfl⟩
def MX4_isBoat : gM := (yX4_isBoat, cX4_isBoat, 2, (some .boolean))
theorem kX4_isBoat : gCd MX4_isBoat 1 := ⟨mW_3 (List.mem_of_getElem? (i := 147) rfl) rfl, mW_1 (List.mem_of_getElem? (i := 11) rfl) rfl, ⟨by decide, by decide, by decide +kernel⟩, by decide⟩
theorem vX4_isBoat : gVi MX4_isBoat := ⟨mW_3 (List.mem_of_getElem? (i := 145) rfl) rfl, mW_3 (List.mem_of_getElem? (i := 146) rfl) rfl⟩
def MX4_isHand : gM := (yX4_isHand, cX4_isHand, 2, (some .boolean))
theorem kX4_isHand : gCd MX4_isHand 1 := ⟨mW_3 (List.mem_of_getElem? (i := 151) rfl) rfl, mW_1 (List.mem_of_getElem? (i := 11) rfl) rfl, ⟨by decide, by decide, by decide +kernel⟩, by decide⟩
theorem vX4_isHand : gVi MX4_isHand := ⟨mW_3 (List.mem_of_getElem? (i := 149) rfl) rfl, mW_3 (List.mem_of_getElem? (i := 150) rfl) rfl⟩
def MX4_depthOf : gM := (yX4_depthOf, cX4_depthOf, 2, (some .int))
theorem kX4_depthOf : gCd MX4_depthOf 1 := ⟨mW_4 (List.mem_of_getElem? (i := 85) rfl) rfl, mW_1 (List.mem_of_getElem? (i := 11) rfl) rfl, ⟨by decide, by decide, by decide +kernel⟩, by decide⟩
theorem vX4_depthOf : gVi MX4_depthOf := ⟨mW_4 (List.mem_of_getElem? (i := 83) rfl) rfl, mW_4 (List.mem_of_getElem? (i := 84) rfl) rfl⟩
def MX4_wreckIn : gM := (yX4_wreckIn, cX4_wreckIn, 2, (some .int))
theorem kX4_wreckIn : gCd MX4_wreckIn 1 := ⟨mW_4 (List.mem_of_getElem? (i := 93) rfl) rfl, mW_1 (List.mem_of_getElem? (i := 11) rfl) rfl, ⟨by decide, by decide, by decide +kernel⟩, by decide⟩
theorem vX4_wreckIn : gVi MX4_wreckIn := ⟨mW_4 (List.mem_of_getElem? (i := 91) rfl) rfl, mW_4 (List.mem_of_getElem? (i := 92) rfl) rfl⟩
def MX4_homeOf : gM := (yX4_homeOf, cX4_homeOf, 2, (some .int))
theorem kX4_homeOf : gCd MX4_homeOf 1 := ⟨mW_4 (List.mem_of_getElem? (i := 97) rfl) rfl, mW_1 (List.mem_of_getElem? (i := 11) rfl) rfl, ⟨by decide, by decide, by decide +kernel⟩, by decide⟩
theorem vX4_homeOf : gVi MX4_homeOf := ⟨mW_4 (List.mem_of_getElem? (i := 95) rfl) rfl, mW_4 (List.mem_of_getElem? (i := 96) rfl) rfl⟩
def MX4_skillOf : gM := (yX4_skillOf, cX4_skillOf, 2, (some .int))
theorem kX4_skillOf : gCd MX4_skillOf 1 := ⟨mW_4 (List.mem_of_getElem? (i := 110) rfl) rfl, mW_1 (List.mem_of_getElem? (i := 11) rfl) rfl, ⟨by decide, by decide, by decide +kernel⟩, by decide⟩
theorem vX4_skillOf : gVi MX4_skillOf := ⟨mW_4 (List.mem_of_getElem? (i := 108) rfl) rfl, mW_4 (List.mem_of_getElem? (i := 109) rfl) rfl⟩
def MX4_likingOf : gM := (yX4_likingOf, cX4_likingOf, 3, (some .int))
theorem kX4_likingOf : gCd MX4_likingOf 2 := ⟨mW_4 (List.mem_of_getElem? (i := 124) rfl) rfl, mW_1 (List.mem_of_getElem? (i := 11) rfl) rfl, ⟨by decide, by decide, by decide +kernel⟩, by decide⟩
theorem vX4_likingOf : gVi MX4_likingOf := ⟨mW_4 (List.mem_of_getElem? (i := 122) rfl) rfl, mW_4 (List.mem_of_getElem? (i := 123) rfl) rfl⟩
def MX4_skyAt : gM := (yX4_skyAt, cX4_skyAt, 5, (some .int))
theorem kX4_skyAt : gCd MX4_skyAt 1 := ⟨mW_4 (List.mem_of_getElem? (i := 21) rfl) rfl, mW_1 (List.mem_of_getElem? (i := 11) rfl) rfl, ⟨by decide, by decide, by decide +kernel⟩, by decide⟩
theorem vX4_skyAt : gVi MX4_skyAt := ⟨mW_4 (List.mem_of_getElem? (i := 19) rfl) rfl, mW_4 (List.mem_of_getElem? (i := 20) rfl) rfl⟩
def MX4_stepFrom : gM := (yX4_stepFrom, cX4_stepFrom, 5, (some .int))
theorem kX4_stepFrom : gCd MX4_stepFrom 2 := ⟨mW_5 (List.mem_of_getElem? (i := 0) rfl) rfl, mW_1 (List.mem_of_getElem? (i := 11) rfl) rfl, ⟨by decide, by decide, by decide +kernel⟩, by decide⟩
theorem vX4_stepFrom : gVi MX4_stepFrom := ⟨mW_4 (List.mem_of_getElem? (i := 238) rfl) rfl, mW_4 (List.mem_of_getElem? (i := 239) rfl) rfl⟩
def MX4_isBeside : gM := (yX4_isBeside, cX4_isBeside, 4, (some .boolean))
theorem kX4_isBeside : gCd MX4_isBeside 2 := ⟨mW_5 (List.mem_of_getElem? (i := 46) rfl) rfl, mW_1 (List.mem_of_getElem? (i := 11) rfl) rfl, ⟨by decide, by decide, by decide +kernel⟩, by decide⟩
theorem vX4_isBeside : gVi MX4_isBeside := ⟨mW_5 (List.mem_of_getElem? (i := 44) rfl) rfl, mW_5 (List.mem_of_getElem? (i := 45) rfl) rfl⟩
def MX4_measureHomes : gM := (yX4_measureHomes, cX4_measureHomes, 3, none)
theorem kX4_measureHomes : gCd MX4_measureHomes 0 := ⟨mW_3 (List.mem_of_getElem? (i := 221) rfl) rfl, mW_1 (List.mem_of_getElem? (i := 11) rfl) rfl, ⟨by decide, by decide, by decide +kernel⟩, by decide⟩
theorem vX4_measureHomes : gVi MX4_measureHomes := ⟨mW_3 (List.mem_of_getElem? (i := 219) rfl) rfl, mW_3 (List.mem_of_getElem? (i := 220) rfl) rfl⟩
def MX4_apart : gM := (yX4_apart, cX4_apart, 3, (some .int))
theorem kX4_apart : gCd MX4_apart 2 := ⟨mW_3 (List.mem_of_getElem? (i := 233) rfl) rfl, mW_1 (List.mem_of_getElem? (i := 11) rfl) rfl, ⟨by decide, by decide, by decide +kernel⟩, by decide⟩
theorem vX4_apart : gVi MX4_apart := ⟨mW_3 (List.mem_of_getElem? (i := 232) rfl) rfl, mS_2 (List.mem_of_getElem? (i := 6) rfl) rfl⟩
def MX5_init : gM := (yX5_init, cX5_init, 5, none)
theorem kX5_init : gCd MX5_init 0 := ⟨mW_1 (List.mem_of_getElem? (i := 34) rfl) rfl, mW_1 (List.mem_of_getElem? (i := 2) rfl) rfl, ⟨by decide, by decide, by decide +kernel⟩, by decide⟩
theorem iX5_init : Cond.instanceMethod yX5_init ∈ gW := mW_1 (List.mem_of_getElem? (i := 33) rfl) rfl
def MX5_write : gM := (yX5_write, cX5_write, 3, none)
theorem kX5_write : gCd MX5_write 1 := ⟨mW_3 (List.mem_of_getElem? (i := 9) rfl) rfl, mW_1 (List.mem_of_getElem? (i := 2) rfl) rfl, ⟨by decide, by decide, by decide +kernel⟩, by decide⟩
theorem vX5_write : gVi MX5_write := ⟨mW_3 (List.mem_of_getElem? (i := 7) rfl) rfl, mW_3 (List.mem_of_getElem? (i := 8) rfl) rfl⟩
def MX5_rewind : gM := (yX5_rewind, cX5_rewind, 1, none)
theorem kX5_rewind : gCd MX5_rewind 0 := ⟨mW_3 (List.mem_of_getElem? (i := 37) rfl) rfl, mW_1 (List.mem_of_getElem? (i := 2) rfl) rfl, ⟨by decide, by decide, by decide +kernel⟩, by decide⟩
theorem vX5_rewind : gVi MX5_rewind := ⟨mW_3 (List.mem_of_getElem? (i := 35) rfl) rfl, mW_3 (List.mem_of_getElem? (i := 36) rfl) rfl⟩
def MX5_move : gM := (yX5_move, cX5_move, 4, none)
theorem kX5_move : gCd MX5_move 0 := ⟨mW_3 (List.mem_of_getElem? (i := 41) rfl) rfl, mW_1 (List.mem_of_getElem? (i := 2) rfl) rfl, ⟨by decide, by decide, by decide +kernel⟩, by decide⟩
theorem vX5_move : gVi MX5_move := ⟨mW_3 (List.mem_of_getElem? (i := 39) rfl) rfl, mW_3 (List.mem_of_getElem? (i := 40) rfl) rfl⟩
def MX5_readWord : gM := (yX5_readWord, cX5_readWord, 3, none)
theorem kX5_readWord : gCd MX5_readWord 0 := ⟨mW_3 (List.mem_of_getElem? (i := 51) rfl) rfl, mW_1 (List.mem_of_getElem? (i := 2) rfl) rfl, ⟨by decide, by decide, by decide +kernel⟩, by decide⟩
theorem vX5_readWord : gVi MX5_readWord := ⟨mW_3 (List.mem_of_getElem? (i := 50) rfl) rfl, mS_1 (List.mem_of_getElem? (i := 1) rfl) rfl⟩
def MX5_numberHere : gM := (yX5_numberHere, cX5_numberHere, 3, (some .int))
theorem kX5_numberHere : gCd MX5_numberHere 0 := ⟨mW_3 (List.mem_of_getElem? (i := 88) rfl) rfl, mW_1 (List.mem_of_getElem? (i := 2) rfl) rfl, ⟨by decide, by decide, by decide +kernel⟩, by decide⟩
theorem vX5_numberHere : gVi MX5_numberHere := ⟨mW_3 (List.mem_of_getElem? (i := 87) rfl) rfl, mS_1 (List.mem_of_getElem? (i := 4) rfl) rfl⟩
def MX5_fail : gM := (yX5_fail, cX5_fail, 3, (some .boolean))
theorem kX5_fail : gCd MX5_fail 2 := ⟨mW_3 (List.mem_of_getElem? (i := 59) rfl) rfl, mW_1 (List.mem_of_getElem? (i := 2) rfl) rfl, ⟨by decide, by decide, by decide +kernel⟩, by decide⟩
theorem vX5_fail : gVi MX5_fail := ⟨mW_3 (List.mem_of_getElem? (i := 57) rfl) rfl, mW_3 (List.mem_of_getElem? (i := 58) rfl) rfl⟩
def MX5_failHere : gM := (yX5_failHere, cX5_failHere, 2, (some .boolean))
theorem kX5_failHere : gCd MX5_failHere 1 := ⟨mW_3 (List.mem_of_getElem? (i := 55) rfl) rfl, mW_1 (List.mem_of_getElem? (i := 2) rfl) rfl, ⟨by decide, by decide, by decide +kernel⟩, by decide⟩
theorem vX5_failHere : gVi MX5_failHere := ⟨mW_3 (List.mem_of_getElem? (i := 53) rfl) rfl, mW_3 (List.mem_of_getElem? (i := 54) rfl) rfl⟩
def MX5_isWord : gM := (yX5_isWord, cX5_isWord, 2, (some .boolean))
theorem kX5_isWord : gCd MX5_isWord 1 := ⟨mW_3 (List.mem_of_getElem? (i := 67) rfl) rfl, mW_1 (List.mem_of_getElem? (i := 2) rfl) rfl, ⟨by decide, by decide, by decide +kernel⟩, by decide⟩
theorem vX5_isWord : gVi MX5_isWord := ⟨mW_3 (List.mem_of_getElem? (i := 65) rfl) rfl, mW_3 (List.mem_of_getElem? (i := 66) rfl) rfl⟩
def MX5_takeWord : gM := (yX5_takeWord, cX5_takeWord, 2, (some .boolean))
theorem kX5_takeWord : gCd MX5_takeWord 1 := ⟨mW_3 (List.mem_of_getElem? (i := 117) rfl) rfl, mW_1 (List.mem_of_getElem? (i := 2) rfl) rfl, ⟨by decide, by decide, by decide +kernel⟩, by decide⟩
theorem vX5_takeWord : gVi MX5_takeWord := ⟨mW_3 (List.mem_of_getElem? (i := 115) rfl) rfl, mW_3 (List.mem_of_getElem? (i := 116) rfl) rfl⟩
def MX5_takeSign : gM := (yX5_takeSign, cX5_takeSign, 2, (some .boolean))
theorem kX5_takeSign : gCd MX5_takeSign 1 := ⟨mW_3 (List.mem_of_getElem? (i := 195) rfl) rfl, mW_1 (List.mem_of_getElem? (i := 2) rfl) rfl, ⟨by decide, by decide, by decide +kernel⟩, by decide⟩
theorem vX5_takeSign : gVi MX5_takeSign := ⟨mW_3 (List.mem_of_getElem? (i := 193) rfl) rfl, mW_3 (List.mem_of_getElem? (i := 194) rfl) rfl⟩
def MX5_takeNumber : gM := (yX5_takeNumber, cX5_takeNumber, 4, (some .int))
theorem kX5_takeNumber : gCd MX5_takeNumber 2 := ⟨mW_3 (List.mem_of_getElem? (i := 83) rfl) rfl, mW_1 (List.mem_of_getElem? (i := 2) rfl) rfl, ⟨by decide, by decide, by decide +kernel⟩, by decide⟩
theorem vX5_takeNumber : gVi MX5_takeNumber := ⟨mW_3 (List.mem_of_getElem? (i := 81) rfl) rfl, mW_3 (List.mem_of_getElem? (i := 82) rfl) rfl⟩
def MX5_isAtName : gM := (yX5_isAtName, cX5_isAtName, 1, (some .boolean))
theorem kX5_isAtName : gCd MX5_isAtName 0 := ⟨mW_3 (List.mem_of_getElem? (i := 110) rfl) rfl, mW_1 (List.mem_of_getElem? (i := 2) rfl) rfl, ⟨by decide, by decide, by decide +kernel⟩, by decide⟩
theorem vX5_isAtName : gVi MX5_isAtName := ⟨mW_3 (List.mem_of_getElem? (i := 108) rfl) rfl, mW_3 (List.mem_of_getElem? (i := 109) rfl) rfl⟩
def MX5_isBlank : gM := (yX5_isBlank, cX5_isBlank, 1, (some .boolean))
theorem kX5_isBlank : gCd MX5_isBlank 1 := ⟨mW_3 (List.mem_of_getElem? (i := 44) rfl) rfl, mW_1 (List.mem_of_getElem? (i := 2) rfl) rfl, ⟨by decide, by decide, by decide +kernel⟩, by decide⟩
theorem sX5_isBlank : gSt MX5_isBlank := mW_3 (List.mem_of_getElem? (i := 43) rfl) rfl
def MX5_kindOf : gM := (yX5_kindOf, cX5_kindOf, 1, (some .int))
theorem kX5_kindOf : gCd MX5_kindOf 1 := ⟨mW_3 (List.mem_of_getElem? (i := 47) rfl) rfl, mW_1 (List.mem_of_getElem? (i := 2) rfl) rfl, ⟨by decide, by decide, by decide +kernel⟩, by decide⟩
theorem sX5_kindOf : gSt MX5_kindOf := mW_3 (List.mem_of_getElem? (i := 46) rfl) rfl
def MX6_init : gM := (yX6_init, cX6_init, 1, none)
theorem kX6_init : gCd MX6_init 0 := ⟨mW_2 (List.mem_of_getElem? (i := 71) rfl) rfl, mW_1 (List.mem_of_getElem? (i := 13) rfl) rfl, ⟨by decide, by decide, by decide +kernel⟩, by decide⟩
theorem iX6_init : Cond.instanceMethod yX6_init ∈ gW := mW_2 (List.mem_of_getElem? (i := 70) rfl) rfl
def MX6_reckon : gM := (yX6_reckon, cX6_reckon, 5, (some .int))
theorem kX6_reckon : gCd MX6_reckon 2 := ⟨mW_4 (List.mem_of_getElem? (i := 164) rfl) rfl, mW_1 (List.mem_of_getElem? (i := 13) rfl) rfl, ⟨by decide, by decide, by decide +kernel⟩, by decide⟩
theorem vX6_reckon : gVi MX6_reckon := ⟨mW_4 (List.mem_of_getElem? (i := 162) rfl) rfl, mW_4 (List.mem_of_getElem? (i := 163) rfl) rfl⟩
def MX6_apply : gM := (yX6_apply, cX6_apply, 3, none)
theorem kX6_apply : gCd MX6_apply 1 := ⟨mW_4 (List.mem_of_getElem? (i := 173) rfl) rfl, mW_1 (List.mem_of_getElem? (i := 13) rfl) rfl, ⟨by decide, by decide, by decide +kernel⟩, by decide⟩
theorem vX6_apply : gVi MX6_apply := ⟨mW_4 (List.mem_of_getElem? (i := 172) rfl) rfl, mS_2 (List.mem_of_getElem? (i := 10) rfl) rfl⟩
def MX6_join : gM := (yX6_join, cX6_join, 5, (some .int))
theorem kX6_join : gCd MX6_join 3 := ⟨mW_4 (List.mem_of_getElem? (i := 184) rfl) rfl, mW_1 (List.mem_of_getElem? (i := 13) rfl) rfl, ⟨by decide, by decide, by decide +kernel⟩, by decide⟩
theorem sX6_join : gSt MX6_join := mW_4 (List.mem_of_getElem? (i := 183) rfl) rfl
def MX6_crowdOf : gM := (yX6_crowdOf, cX6_crowdOf, 2, (some .int))
theorem kX6_crowdOf : gCd MX6_crowdOf 1 := ⟨mW_4 (List.mem_of_getElem? (i := 181) rfl) rfl, mW_1 (List.mem_of_getElem? (i := 13) rfl) rfl, ⟨by decide, by decide, by decide +kernel⟩, by decide⟩
theorem vX6_crowdOf : gVi MX6_crowdOf := ⟨mW_4 (List.mem_of_getElem? (i := 180) rfl) rfl, mS_2 (List.mem_of_getElem? (i := 12) rfl) rfl⟩
def MX6_push : gM := (yX6_push, cX6_push, 2, none)
theorem kX6_push : gCd MX6_push 1 := ⟨mW_4 (List.mem_of_getElem? (i := 169) rfl) rfl, mW_1 (List.mem_of_getElem? (i := 13) rfl) rfl, ⟨by decide, by decide, by decide +kernel⟩, by decide⟩
theorem vX6_push : gVi MX6_push := ⟨mW_4 (List.mem_of_getElem? (i := 168) rfl) rfl, mS_2 (List.mem_of_getElem? (i := 9) rfl) rfl⟩
def MX6_pop : gM := (yX6_pop, cX6_pop, 1, (some .int))
theorem kX6_pop : gCd MX6_pop 0 := ⟨mW_4 (List.mem_of_getElem? (i := 177) rfl) rfl, mW_1 (List.mem_of_getElem? (i := 13) rfl) rfl, ⟨by decide, by decide, by decide +kernel⟩, by decide⟩
theorem vX6_pop : gVi MX6_pop := ⟨mW_4 (List.mem_of_getElem? (i := 176) rfl) rfl, mS_2 (List.mem_of_getElem? (i := 11) rfl) rfl⟩
def MX7_init : gM := (yX7_init, cX7_init, 3, none)
theorem kX7_init : gCd MX7_init 2 := ⟨mW_1 (List.mem_of_getElem? (i := 150) rfl) rfl, mW_1 (List.mem_of_getElem? (i := 8) rfl) rfl, ⟨by decide, by decide, by decide +kernel⟩, by decide⟩
theorem iX7_init : Cond.instanceMethod yX7_init ∈ gW := mW_1 (List.mem_of_getElem? (i := 149) rfl) rfl
def MX7_readLake : gM := (yX7_readLake, cX7_readLake, 3, (some .boolean))
theorem kX7_readLake : gCd MX7_readLake 1 := ⟨mW_3 (List.mem_of_getElem? (i := 21) rfl) rfl, mW_1 (List.mem_of_getElem? (i := 8) rfl) rfl, ⟨by decide, by decide, by decide +kernel⟩, by decide⟩
theorem vX7_readLake : gVi MX7_readLake := ⟨mW_3 (List.mem_of_getElem? (i := 19) rfl) rfl, mW_3 (List.mem_of_getElem? (i := 20) rfl) rfl⟩
def MX7_readStatement : gM := (yX7_readStatement, cX7_readStatement, 3, (some .boolean))
theorem kX7_readStatement : gCd MX7_readStatement 1 := ⟨mW_3 (List.mem_of_getElem? (i := 63) rfl) rfl, mW_1 (List.mem_of_getElem? (i := 8) rfl) rfl, ⟨by decide, by decide, by decide +kernel⟩, by decide⟩
theorem vX7_readStatement : gVi MX7_readStatement := ⟨mW_3 (List.mem_of_getElem? (i := 62) rfl) rfl, mS_1 (List.mem_of_getElem? (i := 2) rfl) rfl⟩
def MX7_isOneTooMany : gM := (yX7_isOneTooMany, cX7_isOneTooMany, 2, (some .boolean))
theorem kX7_isOneTooMany : gCd MX7_isOneTooMany 2 := ⟨mW_3 (List.mem_of_getElem? (i := 70) rfl) rfl, mW_1 (List.mem_of_getElem? (i := 8) rfl) rfl, ⟨by decide, by decide, by decide +kernel⟩, by decide⟩
theorem sX7_isOneTooMany : gSt MX7_isOneTooMany := mW_3 (List.mem_of_getElem? (i := 69) rfl) rfl
def MX7_readColumns : gM := (yX7_readColumns, cX7_readColumns, 3, (some .boolean))
theorem kX7_readColumns : gCd MX7_readColumns 1 := ⟨mW_3 (List.mem_of_getElem? (i := 78) rfl) rfl, mW_1 (List.mem_of_getElem? (i := 8) rfl) rfl, ⟨by decide, by decide, by decide +kernel⟩, by decide⟩
theorem vX7_readColumns : gVi MX7_readColumns := ⟨mW_3 (List.mem_of_getElem? (i := 77) rfl) rfl, mS_1 (List.mem_of_getElem? (i := 3) rfl) rfl⟩
def MX7_readRow : gM := (yX7_readRow, cX7_readRow, 6, (some .boolean))
theorem kX7_readRow : gCd MX7_readRow 1 := ⟨mW_3 (List.mem_of_getElem? (i := 92) rfl) rfl, mW_1 (List.mem_of_getElem? (i := 8) rfl) rfl, ⟨by decide, by decide, by decide +kernel⟩, by decide⟩
theorem vX7_readRow : gVi MX7_readRow := ⟨mW_3 (List.mem_of_getElem? (i := 91) rfl) rfl, mS_1 (List.mem_of_getElem? (i := 5) rfl) rfl⟩
def MX7_kindOf : gM := (yX7_kindOf, cX7_kindOf, 2, (some .int))
theorem kX7_kindOf : gCd MX7_kindOf 1 := ⟨mW_3 (List.mem_of_getElem? (i := 95) rfl) rfl, mW_1 (List.mem_of_getElem? (i := 8) rfl) rfl, ⟨by decide, by decide, by decide +kernel⟩, by decide⟩
theorem sX7_kindOf : gSt MX7_kindOf := mW_3 (List.mem_of_getElem? (i := 94) rfl) rfl
def MX7_readBoat : gM := (yX7_readBoat, cX7_readBoat, 6, (some .boolean))
theorem kX7_readBoat : gCd MX7_readBoat 1 := ⟨mW_3 (List.mem_of_getElem? (i := 102) rfl) rfl, mW_1 (List.mem_of_getElem? (i := 8) rfl) rfl, ⟨by decide, by decide, by decide +kernel⟩, by decide⟩
theorem vX7_readBoat : gVi MX7_readBoat := ⟨mW_3 (List.mem_of_getElem? (i := 101) rfl) rfl, mS_1 (List.mem_of_getElem? (i := 6) rfl) rfl⟩
def MX7_readHarbour : gM := (yX7_readHarbour, cX7_readHarbour, 6, (some .int))
theorem kX7_readHarbour : gCd MX7_readHarbour 1 := ⟨mW_3 (List.mem_of_getElem? (i := 122) rfl) rfl, mW_1 (List.mem_of_getElem? (i := 8) rfl) rfl, ⟨by decide, by decide, by decide +kernel⟩, by decide⟩
theorem vX7_readHarbour : gVi MX7_readHarbour := ⟨mW_3 (List.mem_of_getElem? (i := 121) rfl) rfl, mS_1 (List.mem_of_getElem? (i := 8) rfl) rfl⟩
def MX7_readHand : gM := (yX7_readHand, cX7_readHand, 5, (some .boolean))
theorem kX7_readHand : gCd MX7_readHand 1 := ⟨mW_3 (List.mem_of_getElem? (i := 135) rfl) rfl, mW_1 (List.mem_of_getElem? (i := 8) rfl) rfl, ⟨by decide, by decide, by decide +kernel⟩, by decide⟩
theorem vX7_readHand : gVi MX7_readHand := ⟨mW_3 (List.mem_of_getElem? (i := 134) rfl) rfl, mS_1 (List.mem_of_getElem? (i := 9) rfl) rfl⟩
def MX7_readNewName : gM := (yX7_readNewName, cX7_readNewName, 3, (some .int))
theorem kX7_readNewName : gCd MX7_readNewName 1 := ⟨mW_3 (List.mem_of_getElem? (i := 106) rfl) rfl, mW_1 (List.mem_of_getElem? (i := 8) rfl) rfl, ⟨by decide, by decide, by decide +kernel⟩, by decide⟩
theorem vX7_readNewName : gVi MX7_readNewName := ⟨mW_3 (List.mem_of_getElem? (i := 105) rfl) rfl, mS_1 (List.mem_of_getElem? (i := 7) rfl) rfl⟩
def MX7_readKnownName : gM := (yX7_readKnownName, cX7_readKnownName, 4, (some .int))
theorem kX7_readKnownName : gCd MX7_readKnownName 2 := ⟨mW_3 (List.mem_of_getElem? (i := 143) rfl) rfl, mW_1 (List.mem_of_getElem? (i := 8) rfl) rfl, ⟨by decide, by decide, by decide +kernel⟩, by decide⟩
theorem vX7_readKnownName : gVi MX7_readKnownName := ⟨mW_3 (List.mem_of_getElem? (i := 142) rfl) rfl, mS_1 (List.mem_of_getElem? (i := 11) rfl) rfl⟩
def MX7_find : gM := (yX7_find, cX7_find, 4, (some .int))
theorem kX7_find : gCd MX7_find 3 := ⟨mW_3 (List.mem_of_getElem? (i := 113) rfl) rfl, mW_1 (List.mem_of_getElem? (i := 8) rfl) rfl, ⟨by decide, by decide, by decide +kernel⟩, by decide⟩
theorem sX7_find : gSt MX7_find := mW_3 (List.mem_of_getElem? (i := 112) rfl) rfl
def MX7_readLikes : gM := (yX7_readLikes, cX7_readLikes, 5, (some .boolean))
theorem kX7_readLikes : gCd MX7_readLikes 1 := ⟨mW_3 (List.mem_of_getElem? (i := 139) rfl) rfl, mW_1 (List.mem_of_getElem? (i := 8) rfl) rfl, ⟨by decide, by decide, by decide +kernel⟩, by decide⟩
theorem vX7_readLikes : gVi MX7_readLikes := ⟨mW_3 (List.mem_of_getElem? (i := 138) rfl) rfl, mS_1 (List.mem_of_getElem? (i := 10) rfl) rfl⟩
def MX7_readSky : gM := (yX7_readSky, cX7_readSky, 6, (some .boolean))
theorem kX7_readSky : gCd MX7_readSky 1 := ⟨mW_3 (List.mem_of_getElem? (i := 155) rfl) rfl, mW_1 (List.mem_of_getElem? (i := 8) rfl) rfl, ⟨by decide, by decide, by decide +kernel⟩, by decide⟩
theorem vX7_readSky : gVi MX7_readSky := ⟨mW_3 (List.mem_of_getElem? (i := 154) rfl) rfl, mS_1 (List.mem_of_getElem? (i := 12) rfl) rfl⟩
def MX7_readCoax : gM := (yX7_readCoax, cX7_readCoax, 3, (some .boolean))
theorem kX7_readCoax : gCd MX7_readCoax 1 := ⟨mW_3 (List.mem_of_getElem? (i := 216) rfl) rfl, mW_1 (List.mem_of_getElem? (i := 8) rfl) rfl, ⟨by decide, by decide, by decide +kernel⟩, by decide⟩
theorem vX7_readCoax : gVi MX7_readCoax := ⟨mW_3 (List.mem_of_getElem? (i := 215) rfl) rfl, mS_2 (List.mem_of_getElem? (i := 5) rfl) rfl⟩
def MX8_init : gM := (yX8_init, cX8_init, 2, none)
theorem kX8_init : gCd MX8_init 1 := ⟨mW_2 (List.mem_of_getElem? (i := 162) rfl) rfl, mW_1 (List.mem_of_getElem? (i := 16) rfl) rfl, ⟨by decide, by decide, by decide +kernel⟩, by decide⟩
theorem iX8_init : Cond.instanceMethod yX8_init ∈ gW := mW_2 (List.mem_of_getElem? (i := 161) rfl) rfl
def MX8_read : gM := (yX8_read, cX8_read, 5, (some .boolean))
theorem kX8_read : gCd MX8_read 3 := ⟨mW_5 (List.mem_of_getElem? (i := 123) rfl) rfl, mW_1 (List.mem_of_getElem? (i := 16) rfl) rfl, ⟨by decide, by decide, by decide +kernel⟩, by decide⟩
theorem vX8_read : gVi MX8_read := ⟨mW_5 (List.mem_of_getElem? (i := 121) rfl) rfl, mW_5 (List.mem_of_getElem? (i := 122) rfl) rfl⟩
def MX8_findTrusts : gM := (yX8_findTrusts, cX8_findTrusts, 3, (some .int))
theorem kX8_findTrusts : gCd MX8_findTrusts 0 := ⟨mW_5 (List.mem_of_getElem? (i := 133) rfl) rfl, mW_1 (List.mem_of_getElem? (i := 16) rfl) rfl, ⟨by decide, by decide, by decide +kernel⟩, by decide⟩
theorem vX8_findTrusts : gVi MX8_findTrusts := ⟨mW_5 (List.mem_of_getElem? (i := 131) rfl) rfl, mW_5 (List.mem_of_getElem? (i := 132) rfl) rfl⟩
def MX8_findNext : gM := (yX8_findNext, cX8_findNext, 7, (some .int))
theorem kX8_findNext : gCd MX8_findNext 0 := ⟨mW_5 (List.mem_of_getElem? (i := 144) rfl) rfl, mW_1 (List.mem_of_getElem? (i := 16) rfl) rfl, ⟨by decide, by decide, by decide +kernel⟩, by decide⟩
theorem vX8_findNext : gVi MX8_findNext := ⟨mW_5 (List.mem_of_getElem? (i := 142) rfl) rfl, mW_5 (List.mem_of_getElem? (i := 143) rfl) rfl⟩
def MX9_init : gM := (yX9_init, cX9_init, 3, none)
theorem kX9_init : gCd MX9_init 2 := ⟨mW_2 (List.mem_of_getElem? (i := 65) rfl) rfl, mW_1 (List.mem_of_getElem? (i := 10) rfl) rfl, ⟨by decide, by decide, by decide +kernel⟩, by decide⟩
theorem iX9_init : Cond.instanceMethod yX9_init ∈ gW := mW_2 (List.mem_of_getElem? (i := 64) rfl) rfl
def MX9_fearOf : gM := (yX9_fearOf, cX9_fearOf, 4, (some .int))
theorem kX9_fearOf : gCd MX9_fearOf 3 := ⟨mW_4 (List.mem_of_getElem? (i := 147) rfl) rfl, mW_1 (List.mem_of_getElem? (i := 10) rfl) rfl, ⟨by decide, by decide, by decide +kernel⟩, by decide⟩
theorem vX9_fearOf : gVi MX9_fearOf := ⟨mW_4 (List.mem_of_getElem? (i := 145) rfl) rfl, mW_4 (List.mem_of_getElem? (i := 146) rfl) rfl⟩
def MX9_trustAfter : gM := (yX9_trustAfter, cX9_trustAfter, 7, (some .int))
theorem kX9_trustAfter : gCd MX9_trustAfter 4 := ⟨mW_5 (List.mem_of_getElem? (i := 70) rfl) rfl, mW_1 (List.mem_of_getElem? (i := 10) rfl) rfl, ⟨by decide, by decide, by decide +kernel⟩, by decide⟩
theorem vX9_trustAfter : gVi MX9_trustAfter := ⟨mW_5 (List.mem_of_getElem? (i := 68) rfl) rfl, mW_5 (List.mem_of_getElem? (i := 69) rfl) rfl⟩
def MX9_attempt : gM := (yX9_attempt, cX9_attempt, 6, (some .int))
theorem kX9_attempt : gCd MX9_attempt 3 := ⟨mW_5 (List.mem_of_getElem? (i := 160) rfl) rfl, mW_1 (List.mem_of_getElem? (i := 10) rfl) rfl, ⟨by decide, by decide, by decide +kernel⟩, by decide⟩
theorem vX9_attempt : gVi MX9_attempt := ⟨mW_5 (List.mem_of_getElem? (i := 158) rfl) rfl, mW_5 (List.mem_of_getElem? (i := 159) rfl) rfl⟩
def MX9_coinsUpTo : gM := (yX9_coinsUpTo, cX9_coinsUpTo, 4, (some .int))
theorem kX9_coinsUpTo : gCd MX9_coinsUpTo 2 := ⟨mW_5 (List.mem_of_getElem? (i := 18) rfl) rfl, mW_1 (List.mem_of_getElem? (i := 10) rfl) rfl, ⟨by decide, by decide, by decide +kernel⟩, by decide⟩
theorem vX9_coinsUpTo : gVi MX9_coinsUpTo := ⟨mW_5 (List.mem_of_getElem? (i := 16) rfl) rfl, mW_5 (List.mem_of_getElem? (i := 17) rfl) rfl⟩
def MX9_countCrowds : gM := (yX9_countCrowds, cX9_countCrowds, 2, none)
theorem kX9_countCrowds : gCd MX9_countCrowds 0 := ⟨mW_6 (List.mem_of_getElem? (i := 50) rfl) rfl, mW_1 (List.mem_of_getElem? (i := 10) rfl) rfl, ⟨by decide, by decide, by decide +kernel⟩, by decide⟩
theorem vX9_countCrowds : gVi MX9_countCrowds := ⟨mW_6 (List.mem_of_getElem? (i := 48) rfl) rfl, mW_6 (List.mem_of_getElem? (i := 49) rfl) rfl⟩
def MX9_answerFor : gM := (yX9_answerFor, cX9_answerFor, 6, (some .int))
theorem kX9_answerFor : gCd MX9_answerFor 3 := ⟨mW_6 (List.mem_of_getElem? (i := 57) rfl) rfl, mW_1 (List.mem_of_getElem? (i := 10) rfl) rfl, ⟨by decide, by decide, by decide +kernel⟩, by decide⟩
theorem vX9_answerFor : gVi MX9_answerFor := ⟨mW_6 (List.mem_of_getElem? (i := 55) rfl) rfl, mW_6 (List.mem_of_getElem? (i := 56) rfl) rfl⟩
def MX9_look : gM := (yX9_look, cX9_look, 5, none)
theorem kX9_look : gCd MX9_look 3 := ⟨mW_4 (List.mem_of_getElem? (i := 153) rfl) rfl, mW_1 (List.mem_of_getElem? (i := 10) rfl) rfl, ⟨by decide, by decide, by decide +kernel⟩, by decide⟩
theorem vX9_look : gVi MX9_look := ⟨mW_4 (List.mem_of_getElem? (i := 152) rfl) rfl, mS_2 (List.mem_of_getElem? (i := 8) rfl) rfl⟩
def MX10_init : gM := (yX10_init, cX10_init, 2, none)
theorem kX10_init : gCd MX10_init 1 := ⟨mW_2 (List.mem_of_getElem? (i := 108) rfl) rfl, mW_1 (List.mem_of_getElem? (i := 14) rfl) rfl, ⟨by decide, by decide, by decide +kernel⟩, by decide⟩
theorem iX10_init : Cond.instanceMethod yX10_init ∈ gW := mW_2 (List.mem_of_getElem? (i := 107) rfl) rfl
def MX10_findRoute : gM := (yX10_findRoute, cX10_findRoute, 8, (some .int))
theorem kX10_findRoute : gCd MX10_findRoute 2 := ⟨mW_4 (List.mem_of_getElem? (i := 212) rfl) rfl, mW_1 (List.mem_of_getElem? (i := 14) rfl) rfl, ⟨by decide, by decide, by decide +kernel⟩, by decide⟩
theorem vX10_findRoute : gVi MX10_findRoute := ⟨mW_4 (List.mem_of_getElem? (i := 210) rfl) rfl, mW_4 (List.mem_of_getElem? (i := 211) rfl) rfl⟩
def MX10_readFears : gM := (yX10_readFears, cX10_readFears, 3, none)
theorem kX10_readFears : gCd MX10_readFears 1 := ⟨mW_4 (List.mem_of_getElem? (i := 216) rfl) rfl, mW_1 (List.mem_of_getElem? (i := 14) rfl) rfl, ⟨by decide, by decide, by decide +kernel⟩, by decide⟩
theorem vX10_readFears : gVi MX10_readFears := ⟨mW_4 (List.mem_of_getElem? (i := 215) rfl) rfl, mS_2 (List.mem_of_getElem? (i := 13) rfl) rfl⟩
def MX10_markStepsTo : gM := (yX10_markStepsTo, cX10_markStepsTo, 7, none)
theorem kX10_markStepsTo : gCd MX10_markStepsTo 2 := ⟨mW_4 (List.mem_of_getElem? (i := 226) rfl) rfl, mW_1 (List.mem_of_getElem? (i := 14) rfl) rfl, ⟨by decide, by decide, by decide +kernel⟩, by decide⟩
theorem vX10_markStepsTo : gVi MX10_markStepsTo := ⟨mW_4 (List.mem_of_getElem? (i := 225) rfl) rfl, mS_2 (List.mem_of_getElem? (i := 14) rfl) rfl⟩
def MX10_isEasy : gM := (yX10_isEasy, cX10_isEasy, 3, (some .boolean))
theorem kX10_isEasy : gCd MX10_isEasy 2 := ⟨mW_4 (List.mem_of_getElem? (i := 231) rfl) rfl, mW_1 (List.mem_of_getElem? (i := 14) rfl) rfl, ⟨by decide, by decide, by decide +kernel⟩, by decide⟩
theorem vX10_isEasy : gVi MX10_isEasy := ⟨mW_4 (List.mem_of_getElem? (i := 230) rfl) rfl, mS_2 (List.mem_of_getElem? (i := 15) rfl) rfl⟩
def MX10_stepsBeside : gM := (yX10_stepsBeside, cX10_stepsBeside, 5, (some .int))
theorem kX10_stepsBeside : gCd MX10_stepsBeside 1 := ⟨mW_4 (List.mem_of_getElem? (i := 236) rfl) rfl, mW_1 (List.mem_of_getElem? (i := 14) rfl) rfl, ⟨by decide, by decide, by decide +kernel⟩, by decide⟩
theorem vX10_stepsBeside : gVi MX10_stepsBeside := ⟨mW_4 (List.mem_of_getElem? (i := 235) rfl) rfl, mS_3 (List.mem_of_getElem? (i := 0) rfl) rfl⟩
def MX10_firstBeside : gM := (yX10_firstBeside, cX10_firstBeside, 6, (some .int))
theorem kX10_firstBeside : gCd MX10_firstBeside 2 := ⟨mW_5 (List.mem_of_getElem? (i := 5) rfl) rfl, mW_1 (List.mem_of_getElem? (i := 14) rfl) rfl, ⟨by decide, by decide, by decide +kernel⟩, by decide⟩
theorem vX10_firstBeside : gVi MX10_firstBeside := ⟨mW_5 (List.mem_of_getElem? (i := 4) rfl) rfl, mS_3 (List.mem_of_getElem? (i := 1) rfl) rfl⟩
def MX10_gentlest : gM := (yX10_gentlest, cX10_gentlest, 8, (some .int))
theorem kX10_gentlest : gCd MX10_gentlest 2 := ⟨mW_5 (List.mem_of_getElem? (i := 13) rfl) rfl, mW_1 (List.mem_of_getElem? (i := 14) rfl) rfl, ⟨by decide, by decide, by decide +kernel⟩, by decide⟩
theorem vX10_gentlest : gVi MX10_gentlest := ⟨mW_5 (List.mem_of_getElem? (i := 11) rfl) rfl, mW_5 (List.mem_of_getElem? (i := 12) rfl) rfl⟩
def MX10_runAway : gM := (yX10_runAway, cX10_runAway, 5, (some .int))
theorem kX10_runAway : gCd MX10_runAway 1 := ⟨mW_5 (List.mem_of_getElem? (i := 27) rfl) rfl, mW_1 (List.mem_of_getElem? (i := 14) rfl) rfl, ⟨by decide, by decide, by decide +kernel⟩, by decide⟩
theorem vX10_runAway : gVi MX10_runAway := ⟨mW_5 (List.mem_of_getElem? (i := 25) rfl) rfl, mW_5 (List.mem_of_getElem? (i := 26) rfl) rfl⟩
def MX10_calmerBeside : gM := (yX10_calmerBeside, cX10_calmerBeside, 7, (some .int))
theorem kX10_calmerBeside : gCd MX10_calmerBeside 1 := ⟨mW_5 (List.mem_of_getElem? (i := 31) rfl) rfl, mW_1 (List.mem_of_getElem? (i := 14) rfl) rfl, ⟨by decide, by decide, by decide +kernel⟩, by decide⟩
theorem vX10_calmerBeside : gVi MX10_calmerBeside := ⟨mW_5 (List.mem_of_getElem? (i := 30) rfl) rfl, mS_3 (List.mem_of_getElem? (i := 2) rfl) rfl⟩
def MX11_init : gM := (yX11_init, cX11_init, 1, none)
theorem kX11_init : gCd MX11_init 0 := ⟨mW_1 (List.mem_of_getElem? (i := 26) rfl) rfl, mW_1 (List.mem_of_getElem? (i := 1) rfl) rfl, ⟨by decide, by decide, by decide +kernel⟩, by decide⟩
theorem iX11_init : Cond.instanceMethod yX11_init ∈ gW := mW_1 (List.mem_of_getElem? (i := 25) rfl) rfl
def MX11_feed : gM := (yX11_feed, cX11_feed, 6, (some .int))
theorem kX11_feed : gCd MX11_feed 5 := ⟨mW_3 (List.mem_of_getElem? (i := 1) rfl) rfl, mW_1 (List.mem_of_getElem? (i := 1) rfl) rfl, ⟨by decide, by decide, by decide +kernel⟩, by decide⟩
theorem vX11_feed : gVi MX11_feed := ⟨mW_2 (List.mem_of_getElem? (i := 239) rfl) rfl, mW_3 (List.mem_of_getElem? (i := 0) rfl) rfl⟩
def MX11_end : gM := (yX11_end, cX11_end, 2, (some .boolean))
theorem kX11_end : gCd MX11_end 1 := ⟨mW_3 (List.mem_of_getElem? (i := 13) rfl) rfl, mW_1 (List.mem_of_getElem? (i := 1) rfl) rfl, ⟨by decide, by decide, by decide +kernel⟩, by decide⟩
theorem vX11_end : gVi MX11_end := ⟨mW_3 (List.mem_of_getElem? (i := 11) rfl) rfl, mW_3 (List.mem_of_getElem? (i := 12) rfl) rfl⟩
def MX11_lake : gM := (yX11_lake, cX11_lake, 3, (some .int))
theorem kX11_lake : gCd MX11_lake 0 := ⟨mW_3 (List.mem_of_getElem? (i := 17) rfl) rfl, mW_1 (List.mem_of_getElem? (i := 1) rfl) rfl, ⟨by decide, by decide, by decide +kernel⟩, by decide⟩
theorem vX11_lake : gVi MX11_lake := ⟨mW_3 (List.mem_of_getElem? (i := 15) rfl) rfl, mW_3 (List.mem_of_getElem? (i := 16) rfl) rfl⟩
def MX11_fault : gM := (yX11_fault, cX11_fault, 2, (some .int))
theorem kX11_fault : gCd MX11_fault 1 := ⟨mW_4 (List.mem_of_getElem? (i := 9) rfl) rfl, mW_1 (List.mem_of_getElem? (i := 1) rfl) rfl, ⟨by decide, by decide, by decide +kernel⟩, by decide⟩
theorem vX11_fault : gVi MX11_fault := ⟨mW_4 (List.mem_of_getElem? (i := 7) rfl) rfl, mW_4 (List.mem_of_getElem? (i := 8) rfl) rfl⟩
def MX11_has : gM := (yX11_has, cX11_has, 3, (some .int))
theorem kX11_has : gCd MX11_has 1 := ⟨mW_4 (List.mem_of_getElem? (i := 13) rfl) rfl, mW_1 (List.mem_of_getElem? (i := 1) rfl) rfl, ⟨by decide, by decide, by decide +kernel⟩, by decide⟩
theorem vX11_has : gVi MX11_has := ⟨mW_4 (List.mem_of_getElem? (i := 11) rfl) rfl, mW_4 (List.mem_of_getElem? (i := 12) rfl) rfl⟩
def MX11_letter : gM := (yX11_letter, cX11_letter, 4, (some .int))
theorem kX11_letter : gCd MX11_letter 3 := ⟨mW_4 (List.mem_of_getElem? (i := 53) rfl) rfl, mW_1 (List.mem_of_getElem? (i := 1) rfl) rfl, ⟨by decide, by decide, by decide +kernel⟩, by decide⟩
theorem vX11_letter : gVi MX11_letter := ⟨mW_4 (List.mem_of_getElem? (i := 51) rfl) rfl, mW_4 (List.mem_of_getElem? (i := 52) rfl) rfl⟩
def MX11_boat : gM := (yX11_boat, cX11_boat, 3, (some .int))
theorem kX11_boat : gCd MX11_boat 2 := ⟨mW_4 (List.mem_of_getElem? (i := 62) rfl) rfl, mW_1 (List.mem_of_getElem? (i := 1) rfl) rfl, ⟨by decide, by decide, by decide +kernel⟩, by decide⟩
theorem vX11_boat : gVi MX11_boat := ⟨mW_4 (List.mem_of_getElem? (i := 60) rfl) rfl, mW_4 (List.mem_of_getElem? (i := 61) rfl) rfl⟩
def MX11_cell : gM := (yX11_cell, cX11_cell, 4, (some .int))
theorem kX11_cell : gCd MX11_cell 2 := ⟨mW_4 (List.mem_of_getElem? (i := 76) rfl) rfl, mW_1 (List.mem_of_getElem? (i := 1) rfl) rfl, ⟨by decide, by decide, by decide +kernel⟩, by decide⟩
theorem vX11_cell : gVi MX11_cell := ⟨mW_4 (List.mem_of_getElem? (i := 74) rfl) rfl, mW_4 (List.mem_of_getElem? (i := 75) rfl) rfl⟩
def MX11_hand : gM := (yX11_hand, cX11_hand, 3, (some .int))
theorem kX11_hand : gCd MX11_hand 2 := ⟨mW_4 (List.mem_of_getElem? (i := 106) rfl) rfl, mW_1 (List.mem_of_getElem? (i := 1) rfl) rfl, ⟨by decide, by decide, by decide +kernel⟩, by decide⟩
theorem vX11_hand : gVi MX11_hand := ⟨mW_4 (List.mem_of_getElem? (i := 104) rfl) rfl, mW_4 (List.mem_of_getElem? (i := 105) rfl) rfl⟩
def MX11_likes : gM := (yX11_likes, cX11_likes, 3, (some .int))
theorem kX11_likes : gCd MX11_likes 2 := ⟨mW_4 (List.mem_of_getElem? (i := 120) rfl) rfl, mW_1 (List.mem_of_getElem? (i := 1) rfl) rfl, ⟨by decide, by decide, by decide +kernel⟩, by decide⟩
theorem vX11_likes : gVi MX11_likes := ⟨mW_4 (List.mem_of_getElem? (i := 118) rfl) rfl, mW_4 (List.mem_of_getElem? (i := 119) rfl) rfl⟩
def MX11_sky : gM := (yX11_sky, cX11_sky, 2, (some .int))
theorem kX11_sky : gCd MX11_sky 1 := ⟨mW_4 (List.mem_of_getElem? (i := 129) rfl) rfl, mW_1 (List.mem_of_getElem? (i := 1) rfl) rfl, ⟨by decide, by decide, by decide +kernel⟩, by decide⟩
theorem vX11_sky : gVi MX11_sky := ⟨mW_4 (List.mem_of_getElem? (i := 127) rfl) rfl, mW_4 (List.mem_of_getElem? (i := 128) rfl) rfl⟩
def MX11_kept : gM := (yX11_kept, cX11_kept, 3, (some .int))
theorem kX11_kept : gCd MX11_kept 2 := ⟨mW_4 (List.mem_of_getElem? (i := 133) rfl) rfl, mW_1 (List.mem_of_getElem? (i := 1) rfl) rfl, ⟨by decide, by decide, by decide +kernel⟩, by decide⟩
theorem vX11_kept : gVi MX11_kept := ⟨mW_4 (List.mem_of_getElem? (i := 131) rfl) rfl, mW_4 (List.mem_of_getElem? (i := 132) rfl) rfl⟩
def MX11_dread : gM := (yX11_dread, cX11_dread, 5, (some .int))
theorem kX11_dread : gCd MX11_dread 3 := ⟨mW_4 (List.mem_of_getElem? (i := 142) rfl) rfl, mW_1 (List.mem_of_getElem? (i := 1) rfl) rfl, ⟨by decide, by decide, by decide +kernel⟩, by decide⟩
theorem vX11_dread : gVi MX11_dread := ⟨mW_4 (List.mem_of_getElem? (i := 140) rfl) rfl, mW_4 (List.mem_of_getElem? (i := 141) rfl) rfl⟩
def MX11_route : gM := (yX11_route, cX11_route, 5, (some .int))
theorem kX11_route : gCd MX11_route 3 := ⟨mW_4 (List.mem_of_getElem? (i := 208) rfl) rfl, mW_1 (List.mem_of_getElem? (i := 1) rfl) rfl, ⟨by decide, by decide, by decide +kernel⟩, by decide⟩
theorem vX11_route : gVi MX11_route := ⟨mW_4 (List.mem_of_getElem? (i := 206) rfl) rfl, mW_4 (List.mem_of_getElem? (i := 207) rfl) rfl⟩
def MX11_gentle : gM := (yX11_gentle, cX11_gentle, 5, (some .int))
theorem kX11_gentle : gCd MX11_gentle 3 := ⟨mW_5 (List.mem_of_getElem? (i := 9) rfl) rfl, mW_1 (List.mem_of_getElem? (i := 1) rfl) rfl, ⟨by decide, by decide, by decide +kernel⟩, by decide⟩
theorem vX11_gentle : gVi MX11_gentle := ⟨mW_5 (List.mem_of_getElem? (i := 7) rfl) rfl, mW_5 (List.mem_of_getElem? (i := 8) rfl) rfl⟩
def MX11_runs : gM := (yX11_runs, cX11_runs, 4, (some .int))
theorem kX11_runs : gCd MX11_runs 2 := ⟨mW_5 (List.mem_of_getElem? (i := 23) rfl) rfl, mW_1 (List.mem_of_getElem? (i := 1) rfl) rfl, ⟨by decide, by decide, by decide +kernel⟩, by decide⟩
theorem vX11_runs : gVi MX11_runs := ⟨mW_5 (List.mem_of_getElem? (i := 21) rfl) rfl, mW_5 (List.mem_of_getElem? (i := 22) rfl) rfl⟩
def MX11_order : gM := (yX11_order, cX11_order, 5, (some .int))
theorem kX11_order : gCd MX11_order 3 := ⟨mW_5 (List.mem_of_getElem? (i := 35) rfl) rfl, mW_1 (List.mem_of_getElem? (i := 1) rfl) rfl, ⟨by decide, by decide, by decide +kernel⟩, by decide⟩
theorem vX11_order : gVi MX11_order := ⟨mW_5 (List.mem_of_getElem? (i := 33) rfl) rfl, mW_5 (List.mem_of_getElem? (i := 34) rfl) rfl⟩
def MX11_lead : gM := (yX11_lead, cX11_lead, 5, (some .int))
theorem kX11_lead : gCd MX11_lead 3 := ⟨mW_5 (List.mem_of_getElem? (i := 75) rfl) rfl, mW_1 (List.mem_of_getElem? (i := 1) rfl) rfl, ⟨by decide, by decide, by decide +kernel⟩, by decide⟩
theorem vX11_lead : gVi MX11_lead := ⟨mW_5 (List.mem_of_getElem? (i := 73) rfl) rfl, mW_5 (List.mem_of_getElem? (i := 74) rfl) rfl⟩
def MX11_match : gM := (yX11_match, cX11_match, 2, (some .int))
theorem kX11_match : gCd MX11_match 1 := ⟨mW_5 (List.mem_of_getElem? (i := 87) rfl) rfl, mW_1 (List.mem_of_getElem? (i := 1) rfl) rfl, ⟨by decide, by decide, by decide +kernel⟩, by decide⟩
theorem vX11_match : gVi MX11_match := ⟨mW_5 (List.mem_of_getElem? (i := 85) rfl) rfl, mW_5 (List.mem_of_getElem? (i := 86) rfl) rfl⟩
def MX11_trials : gM := (yX11_trials, cX11_trials, 3, (some .int))
theorem kX11_trials : gCd MX11_trials 1 := ⟨mW_5 (List.mem_of_getElem? (i := 119) rfl) rfl, mW_1 (List.mem_of_getElem? (i := 1) rfl) rfl, ⟨by decide, by decide, by decide +kernel⟩, by decide⟩
theorem vX11_trials : gVi MX11_trials := ⟨mW_5 (List.mem_of_getElem? (i := 117) rfl) rfl, mW_5 (List.mem_of_getElem? (i := 118) rfl) rfl⟩
def MX11_trusts : gM := (yX11_trusts, cX11_trusts, 3, (some .int))
theorem kX11_trusts : gCd MX11_trusts 1 := ⟨mW_5 (List.mem_of_getElem? (i := 129) rfl) rfl, mW_1 (List.mem_of_getElem? (i := 1) rfl) rfl, ⟨by decide, by decide, by decide +kernel⟩, by decide⟩
theorem vX11_trusts : gVi MX11_trusts := ⟨mW_5 (List.mem_of_getElem? (i := 127) rfl) rfl, mW_5 (List.mem_of_getElem? (i := 128) rfl) rfl⟩
def MX11_next : gM := (yX11_next, cX11_next, 3, (some .int))
theorem kX11_next : gCd MX11_next 1 := ⟨mW_5 (List.mem_of_getElem? (i := 140) rfl) rfl, mW_1 (List.mem_of_getElem? (i := 1) rfl) rfl, ⟨by decide, by decide, by decide +kernel⟩, by decide⟩
theorem vX11_next : gVi MX11_next := ⟨mW_5 (List.mem_of_getElem? (i := 138) rfl) rfl, mW_5 (List.mem_of_getElem? (i := 139) rfl) rfl⟩
def MX11_go : gM := (yX11_go, cX11_go, 3, (some .int))
theorem kX11_go : gCd MX11_go 2 := ⟨mW_5 (List.mem_of_getElem? (i := 150) rfl) rfl, mW_1 (List.mem_of_getElem? (i := 1) rfl) rfl, ⟨by decide, by decide, by decide +kernel⟩, by decide⟩
theorem vX11_go : gVi MX11_go := ⟨mW_5 (List.mem_of_getElem? (i := 148) rfl) rfl, mW_5 (List.mem_of_getElem? (i := 149) rfl) rfl⟩
def MX11_file : gM := (yX11_file, cX11_file, 3, (some .int))
theorem kX11_file : gCd MX11_file 1 := ⟨mW_5 (List.mem_of_getElem? (i := 183) rfl) rfl, mW_1 (List.mem_of_getElem? (i := 1) rfl) rfl, ⟨by decide, by decide, by decide +kernel⟩, by decide⟩
theorem vX11_file : gVi MX11_file := ⟨mW_5 (List.mem_of_getElem? (i := 181) rfl) rfl, mW_5 (List.mem_of_getElem? (i := 182) rfl) rfl⟩
def MX11_coax : gM := (yX11_coax, cX11_coax, 3, (some .int))
theorem kX11_coax : gCd MX11_coax 2 := ⟨mW_5 (List.mem_of_getElem? (i := 196) rfl) rfl, mW_1 (List.mem_of_getElem? (i := 1) rfl) rfl, ⟨by decide, by decide, by decide +kernel⟩, by decide⟩
theorem vX11_coax : gVi MX11_coax := ⟨mW_5 (List.mem_of_getElem? (i := 194) rfl) rfl, mW_5 (List.mem_of_getElem? (i := 195) rfl) rfl⟩
def MX11_man : gM := (yX11_man, cX11_man, 5, (some .boolean))
theorem kX11_man : gCd MX11_man 2 := ⟨mW_5 (List.mem_of_getElem? (i := 206) rfl) rfl, mW_1 (List.mem_of_getElem? (i := 1) rfl) rfl, ⟨by decide, by decide, by decide +kernel⟩, by decide⟩
theorem vX11_man : gVi MX11_man := ⟨mW_5 (List.mem_of_getElem? (i := 204) rfl) rfl, mW_5 (List.mem_of_getElem? (i := 205) rfl) rfl⟩
def MX11_hours : gM := (yX11_hours, cX11_hours, 2, (some .int))
theorem kX11_hours : gCd MX11_hours 1 := ⟨mW_5 (List.mem_of_getElem? (i := 215) rfl) rfl, mW_1 (List.mem_of_getElem? (i := 1) rfl) rfl, ⟨by decide, by decide, by decide +kernel⟩, by decide⟩
theorem vX11_hours : gVi MX11_hours := ⟨mW_5 (List.mem_of_getElem? (i := 213) rfl) rfl, mW_5 (List.mem_of_getElem? (i := 214) rfl) rfl⟩
def MX11_drift : gM := (yX11_drift, cX11_drift, 5, (some .int))
theorem kX11_drift : gCd MX11_drift 1 := ⟨mW_5 (List.mem_of_getElem? (i := 231) rfl) rfl, mW_1 (List.mem_of_getElem? (i := 1) rfl) rfl, ⟨by decide, by decide, by decide +kernel⟩, by decide⟩
theorem vX11_drift : gVi MX11_drift := ⟨mW_5 (List.mem_of_getElem? (i := 229) rfl) rfl, mW_5 (List.mem_of_getElem? (i := 230) rfl) rfl⟩
def MX11_undo : gM := (yX11_undo, cX11_undo, 1, (some .boolean))
theorem kX11_undo : gCd MX11_undo 0 := ⟨mW_6 (List.mem_of_getElem? (i := 5) rfl) rfl, mW_1 (List.mem_of_getElem? (i := 1) rfl) rfl, ⟨by decide, by decide, by decide +kernel⟩, by decide⟩
theorem vX11_undo : gVi MX11_undo := ⟨mW_6 (List.mem_of_getElem? (i := 3) rfl) rfl, mW_6 (List.mem_of_getElem? (i := 4) rfl) rfl⟩
def MX11_seed : gM := (yX11_seed, cX11_seed, 2, (some .boolean))
theorem kX11_seed : gCd MX11_seed 1 := ⟨mW_6 (List.mem_of_getElem? (i := 13) rfl) rfl, mW_1 (List.mem_of_getElem? (i := 1) rfl) rfl, ⟨by decide, by decide, by decide +kernel⟩, by decide⟩
theorem vX11_seed : gVi MX11_seed := ⟨mW_6 (List.mem_of_getElem? (i := 11) rfl) rfl, mW_6 (List.mem_of_getElem? (i := 12) rfl) rfl⟩
def MX11_ask : gM := (yX11_ask, cX11_ask, 3, (some .long))
theorem kX11_ask : gCd MX11_ask 1 := ⟨mW_6 (List.mem_of_getElem? (i := 17) rfl) rfl, mW_1 (List.mem_of_getElem? (i := 1) rfl) rfl, ⟨by decide, by decide, by decide +kernel⟩, by decide⟩
theorem vX11_ask : gVi MX11_ask := ⟨mW_6 (List.mem_of_getElem? (i := 15) rfl) rfl, mW_6 (List.mem_of_getElem? (i := 16) rfl) rfl⟩
def MX11_image : gM := (yX11_image, cX11_image, 4, (some .int))
theorem kX11_image : gCd MX11_image 0 := ⟨mW_6 (List.mem_of_getElem? (i := 65) rfl) rfl, mW_1 (List.mem_of_getElem? (i := 1) rfl) rfl, ⟨by decide, by decide, by decide +kernel⟩, by decide⟩
theorem vX11_image : gVi MX11_image := ⟨mW_6 (List.mem_of_getElem? (i := 63) rfl) rfl, mW_6 (List.mem_of_getElem? (i := 64) rfl) rfl⟩
def MX11_octet : gM := (yX11_octet, cX11_octet, 2, (some .int))
theorem kX11_octet : gCd MX11_octet 1 := ⟨mW_6 (List.mem_of_getElem? (i := 77) rfl) rfl, mW_1 (List.mem_of_getElem? (i := 1) rfl) rfl, ⟨by decide, by decide, by decide +kernel⟩, by decide⟩
theorem vX11_octet : gVi MX11_octet := ⟨mW_6 (List.mem_of_getElem? (i := 75) rfl) rfl, mW_6 (List.mem_of_getElem? (i := 76) rfl) rfl⟩
def MX11_on : gM := (yX11_on, cX11_on, 2, (some .boolean))
theorem kX11_on : gCd MX11_on 0 := ⟨mW_6 (List.mem_of_getElem? (i := 81) rfl) rfl, mW_1 (List.mem_of_getElem? (i := 1) rfl) rfl, ⟨by decide, by decide, by decide +kernel⟩, by decide⟩
theorem vX11_on : gVi MX11_on := ⟨mW_6 (List.mem_of_getElem? (i := 79) rfl) rfl, mW_6 (List.mem_of_getElem? (i := 80) rfl) rfl⟩
def MX11_status : gM := (yX11_status, cX11_status, 2, (some .int))
theorem kX11_status : gCd MX11_status 1 := ⟨mW_6 (List.mem_of_getElem? (i := 103) rfl) rfl, mW_1 (List.mem_of_getElem? (i := 1) rfl) rfl, ⟨by decide, by decide, by decide +kernel⟩, by decide⟩
theorem vX11_status : gVi MX11_status := ⟨mW_6 (List.mem_of_getElem? (i := 101) rfl) rfl, mW_6 (List.mem_of_getElem? (i := 102) rfl) rfl⟩
def MX11_refuse : gM := (yX11_refuse, cX11_refuse, 2, (some .int))
theorem kX11_refuse : gCd MX11_refuse 1 := ⟨mW_3 (List.mem_of_getElem? (i := 5) rfl) rfl, mW_1 (List.mem_of_getElem? (i := 1) rfl) rfl, ⟨by decide, by decide, by decide +kernel⟩, by decide⟩
theorem vX11_refuse : gVi MX11_refuse := ⟨mW_3 (List.mem_of_getElem? (i := 4) rfl) rfl, mS_1 (List.mem_of_getElem? (i := 0) rfl) rfl⟩
def MX11_letterOf : gM := (yX11_letterOf, cX11_letterOf, 2, (some .int))
theorem kX11_letterOf : gCd MX11_letterOf 2 := ⟨mW_4 (List.mem_of_getElem? (i := 57) rfl) rfl, mW_1 (List.mem_of_getElem? (i := 1) rfl) rfl, ⟨by decide, by decide, by decide +kernel⟩, by decide⟩
theorem sX11_letterOf : gSt MX11_letterOf := mW_4 (List.mem_of_getElem? (i := 56) rfl) rfl
def MX11_bitsOfTape : gM := (yX11_bitsOfTape, cX11_bitsOfTape, 5, (some .int))
theorem kX11_bitsOfTape : gCd MX11_bitsOfTape 1 := ⟨mW_5 (List.mem_of_getElem? (i := 187) rfl) rfl, mW_1 (List.mem_of_getElem? (i := 1) rfl) rfl, ⟨by decide, by decide, by decide +kernel⟩, by decide⟩
theorem vX11_bitsOfTape : gVi MX11_bitsOfTape := ⟨mW_5 (List.mem_of_getElem? (i := 186) rfl) rfl, mS_3 (List.mem_of_getElem? (i := 10) rfl) rfl⟩
def MX11_canPass : gM := (yX11_canPass, cX11_canPass, 3, (some .boolean))
theorem kX11_canPass : gCd MX11_canPass 2 := ⟨mW_5 (List.mem_of_getElem? (i := 219) rfl) rfl, mW_1 (List.mem_of_getElem? (i := 1) rfl) rfl, ⟨by decide, by decide, by decide +kernel⟩, by decide⟩
theorem vX11_canPass : gVi MX11_canPass := ⟨mW_5 (List.mem_of_getElem? (i := 218) rfl) rfl, mS_3 (List.mem_of_getElem? (i := 11) rfl) rfl⟩
def MX11_driftOnce : gM := (yX11_driftOnce, cX11_driftOnce, 4, (some .int))
theorem kX11_driftOnce : gCd MX11_driftOnce 1 := ⟨mW_5 (List.mem_of_getElem? (i := 235) rfl) rfl, mW_1 (List.mem_of_getElem? (i := 1) rfl) rfl, ⟨by decide, by decide, by decide +kernel⟩, by decide⟩
theorem vX11_driftOnce : gVi MX11_driftOnce := ⟨mW_5 (List.mem_of_getElem? (i := 234) rfl) rfl, mS_3 (List.mem_of_getElem? (i := 12) rfl) rfl⟩
def MX11_answer : gM := (yX11_answer, cX11_answer, 15, (some .long))
theorem kX11_answer : gCd MX11_answer 2 := ⟨mW_6 (List.mem_of_getElem? (i := 46) rfl) rfl, mW_1 (List.mem_of_getElem? (i := 1) rfl) rfl, ⟨by decide, by decide, by decide +kernel⟩, by decide⟩
theorem vX11_answer : gVi MX11_answer := ⟨mW_6 (List.mem_of_getElem? (i := 45) rfl) rfl, mS_4 (List.mem_of_getElem? (i := 1) rfl) rfl⟩
def MX11_draw : gM := (yX11_draw, cX11_draw, 2, none)
theorem kX11_draw : gCd MX11_draw 1 := ⟨mW_6 (List.mem_of_getElem? (i := 69) rfl) rfl, mW_1 (List.mem_of_getElem? (i := 1) rfl) rfl, ⟨by decide, by decide, by decide +kernel⟩, by decide⟩
theorem vX11_draw : gVi MX11_draw := ⟨mW_6 (List.mem_of_getElem? (i := 68) rfl) rfl, mS_4 (List.mem_of_getElem? (i := 2) rfl) rfl⟩
