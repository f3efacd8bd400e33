def MX11_sealOf : gM := (yX11_sealOf, cX11_sealOf, 4, (some .int))
theorem kX11_sealOf : gCd MX11_sealOf 2 := ⟨mW_6 (List.mem_of_getElem? (i := 73) rfl) rfl, mW_1 (List.mem_of_getElem? (i := 1) rfl) rfl, ⟨by decide, by decide, by decide +kernel⟩, by decide⟩
theorem sX11_sealOf : gSt MX11_sealOf := mW_6 (List.mem_of_getElem? (i := 72) rfl) rfl
def MX11_isImage : gM := (yX11_isImage, cX11_isImage, 9, (some .boolean))
theorem kX11_isImage : gCd MX11_isImage 2 := ⟨mW_6 (List.mem_of_getElem? (i := 85) rfl) rfl, mW_1 (List.mem_of_getElem? (i := 1) rfl) rfl, ⟨by decide, by decide, by decide +kernel⟩, by decide⟩
theorem vX11_isImage : gVi MX11_isImage := ⟨mW_6 (List.mem_of_getElem? (i := 84) rfl) rfl, mS_4 (List.mem_of_getElem? (i := 3) rfl) rfl⟩
def MX11_inTrust : gM := (yX11_inTrust, cX11_inTrust, 1, (some .int))
theorem kX11_inTrust : gCd MX11_inTrust 1 := ⟨mW_4 (List.mem_of_getElem? (i := 202) rfl) rfl, mW_1 (List.mem_of_getElem? (i := 1) rfl) rfl, ⟨by decide, by decide, by decide +kernel⟩, by decide⟩
theorem sX11_inTrust : gSt MX11_inTrust := mW_4 (List.mem_of_getElem? (i := 201) rfl) rfl
def MX12_init : gM := (yX12_init, cX12_init, 1, none)
theorem kX12_init : gCd MX12_init 0 := ⟨mW_6 (List.mem_of_getElem? (i := 108) rfl) rfl, mW_1 (List.mem_of_getElem? (i := 17) rfl) rfl, ⟨by decide, by decide, by decide +kernel⟩, by decide⟩
theorem iX12_init : Cond.instanceMethod yX12_init ∈ gW := mW_6 (List.mem_of_getElem? (i := 107) rfl) rfl
def MX12_isIn : gM := (yX12_isIn, cX12_isIn, 6, (some .boolean))
theorem kX12_isIn : gCd MX12_isIn 3 := ⟨mW_8 (List.mem_of_getElem? (i := 32) rfl) rfl, mW_1 (List.mem_of_getElem? (i := 17) rfl) rfl, ⟨by decide, by decide, by decide +kernel⟩, by decide⟩
theorem sX12_isIn : gSt MX12_isIn := mW_8 (List.mem_of_getElem? (i := 31) rfl) rfl
def MX12_feed : gM := (yX12_feed, cX12_feed, 8, (some .int))
theorem kX12_feed : gCd MX12_feed 5 := ⟨mW_7 (List.mem_of_getElem? (i := 227) rfl) rfl, mW_1 (List.mem_of_getElem? (i := 17) rfl) rfl, ⟨by decide, by decide, by decide +kernel⟩, by decide⟩
theorem vX12_feed : gVi MX12_feed := ⟨mW_7 (List.mem_of_getElem? (i := 225) rfl) rfl, mW_7 (List.mem_of_getElem? (i := 226) rfl) rfl⟩
def MX12_end : gM := (yX12_end, cX12_end, 2, (some .boolean))
theorem kX12_end : gCd MX12_end 1 := ⟨mW_7 (List.mem_of_getElem? (i := 231) rfl) rfl, mW_1 (List.mem_of_getElem? (i := 17) rfl) rfl, ⟨by decide, by decide, by decide +kernel⟩, by decide⟩
theorem vX12_end : gVi MX12_end := ⟨mW_7 (List.mem_of_getElem? (i := 229) rfl) rfl, mW_7 (List.mem_of_getElem? (i := 230) rfl) rfl⟩
def MX12_fail : gM := (yX12_fail, cX12_fail, 3, none)
theorem kX12_fail : gCd MX12_fail 2 := ⟨mW_8 (List.mem_of_getElem? (i := 22) rfl) rfl, mW_1 (List.mem_of_getElem? (i := 17) rfl) rfl, ⟨by decide, by decide, by decide +kernel⟩, by decide⟩
theorem vX12_fail : gVi MX12_fail := ⟨mW_8 (List.mem_of_getElem? (i := 21) rfl) rfl, mS_4 (List.mem_of_getElem? (i := 9) rfl) rfl⟩
def MX12_isLetter : gM := (yX12_isLetter, cX12_isLetter, 1, (some .boolean))
theorem kX12_isLetter : gCd MX12_isLetter 1 := ⟨mW_8 (List.mem_of_getElem? (i := 18) rfl) rfl, mW_1 (List.mem_of_getElem? (i := 17) rfl) rfl, ⟨by decide, by decide, by decide +kernel⟩, by decide⟩
theorem sX12_isLetter : gSt MX12_isLetter := mW_8 (List.mem_of_getElem? (i := 17) rfl) rfl
def MX12_isDigit : gM := (yX12_isDigit, cX12_isDigit, 1, (some .boolean))
theorem kX12_isDigit : gCd MX12_isDigit 1 := ⟨mW_8 (List.mem_of_getElem? (i := 29) rfl) rfl, mW_1 (List.mem_of_getElem? (i := 17) rfl) rfl, ⟨by decide, by decide, by decide +kernel⟩, by decide⟩
theorem sX12_isDigit : gSt MX12_isDigit := mW_8 (List.mem_of_getElem? (i := 28) rfl) rfl
def MX12_look : gM := (yX12_look, cX12_look, 1, (some .int))
theorem kX12_look : gCd MX12_look 0 := ⟨mW_8 (List.mem_of_getElem? (i := 15) rfl) rfl, mW_1 (List.mem_of_getElem? (i := 17) rfl) rfl, ⟨by decide, by decide, by decide +kernel⟩, by decide⟩
theorem vX12_look : gVi MX12_look := ⟨mW_8 (List.mem_of_getElem? (i := 14) rfl) rfl, mS_4 (List.mem_of_getElem? (i := 8) rfl) rfl⟩
def MX12_isHere : gM := (yX12_isHere, cX12_isHere, 4, (some .boolean))
theorem kX12_isHere : gCd MX12_isHere 1 := ⟨mW_8 (List.mem_of_getElem? (i := 11) rfl) rfl, mW_1 (List.mem_of_getElem? (i := 17) rfl) rfl, ⟨by decide, by decide, by decide +kernel⟩, by decide⟩
theorem vX12_isHere : gVi MX12_isHere := ⟨mW_8 (List.mem_of_getElem? (i := 10) rfl) rfl, mS_4 (List.mem_of_getElem? (i := 7) rfl) rfl⟩
def MX12_takes : gM := (yX12_takes, cX12_takes, 2, (some .boolean))
theorem kX12_takes : gCd MX12_takes 1 := ⟨mW_8 (List.mem_of_getElem? (i := 7) rfl) rfl, mW_1 (List.mem_of_getElem? (i := 17) rfl) rfl, ⟨by decide, by decide, by decide +kernel⟩, by decide⟩
theorem vX12_takes : gVi MX12_takes := ⟨mW_8 (List.mem_of_getElem? (i := 6) rfl) rfl, mS_4 (List.mem_of_getElem? (i := 6) rfl) rfl⟩
def MX12_asks : gM := (yX12_asks, cX12_asks, 2, none)
theorem kX12_asks : gCd MX12_asks 1 := ⟨mW_8 (List.mem_of_getElem? (i := 3) rfl) rfl, mW_1 (List.mem_of_getElem? (i := 17) rfl) rfl, ⟨by decide, by decide, by decide +kernel⟩, by decide⟩
theorem vX12_asks : gVi MX12_asks := ⟨mW_8 (List.mem_of_getElem? (i := 2) rfl) rfl, mS_4 (List.mem_of_getElem? (i := 5) rfl) rfl⟩
def MX12_takesSign : gM := (yX12_takesSign, cX12_takesSign, 2, (some .boolean))
theorem kX12_takesSign : gCd MX12_takesSign 1 := ⟨mW_8 (List.mem_of_getElem? (i := 40) rfl) rfl, mW_1 (List.mem_of_getElem? (i := 17) rfl) rfl, ⟨by decide, by decide, by decide +kernel⟩, by decide⟩
theorem vX12_takesSign : gVi MX12_takesSign := ⟨mW_8 (List.mem_of_getElem? (i := 39) rfl) rfl, mS_4 (List.mem_of_getElem? (i := 12) rfl) rfl⟩
def MX12_asksSign : gM := (yX12_asksSign, cX12_asksSign, 2, none)
theorem kX12_asksSign : gCd MX12_asksSign 1 := ⟨mW_8 (List.mem_of_getElem? (i := 36) rfl) rfl, mW_1 (List.mem_of_getElem? (i := 17) rfl) rfl, ⟨by decide, by decide, by decide +kernel⟩, by decide⟩
theorem vX12_asksSign : gVi MX12_asksSign := ⟨mW_8 (List.mem_of_getElem? (i := 35) rfl) rfl, mS_4 (List.mem_of_getElem? (i := 11) rfl) rfl⟩
def MX12_number : gM := (yX12_number, cX12_number, 5, (some .int))
theorem kX12_number : gCd MX12_number 2 := ⟨mW_8 (List.mem_of_getElem? (i := 26) rfl) rfl, mW_1 (List.mem_of_getElem? (i := 17) rfl) rfl, ⟨by decide, by decide, by decide +kernel⟩, by decide⟩
theorem vX12_number : gVi MX12_number := ⟨mW_8 (List.mem_of_getElem? (i := 25) rfl) rfl, mS_4 (List.mem_of_getElem? (i := 10) rfl) rfl⟩
def MX12_isOwnHere : gM := (yX12_isOwnHere, cX12_isOwnHere, 2, (some .boolean))
theorem kX12_isOwnHere : gCd MX12_isOwnHere 0 := ⟨mW_8 (List.mem_of_getElem? (i := 71) rfl) rfl, mW_1 (List.mem_of_getElem? (i := 17) rfl) rfl, ⟨by decide, by decide, by decide +kernel⟩, by decide⟩
theorem vX12_isOwnHere : gVi MX12_isOwnHere := ⟨mW_8 (List.mem_of_getElem? (i := 70) rfl) rfl, mS_5 (List.mem_of_getElem? (i := 3) rfl) rfl⟩
def MX12_name : gM := (yX12_name, cX12_name, 3, (some .long))
theorem kX12_name : gCd MX12_name 0 := ⟨mW_8 (List.mem_of_getElem? (i := 67) rfl) rfl, mW_1 (List.mem_of_getElem? (i := 17) rfl) rfl, ⟨by decide, by decide, by decide +kernel⟩, by decide⟩
theorem vX12_name : gVi MX12_name := ⟨mW_8 (List.mem_of_getElem? (i := 66) rfl) rfl, mS_5 (List.mem_of_getElem? (i := 2) rfl) rfl⟩
def MX12_isFull : gM := (yX12_isFull, cX12_isFull, 4, (some .boolean))
theorem kX12_isFull : gCd MX12_isFull 3 := ⟨mW_8 (List.mem_of_getElem? (i := 52) rfl) rfl, mW_1 (List.mem_of_getElem? (i := 17) rfl) rfl, ⟨by decide, by decide, by decide +kernel⟩, by decide⟩
theorem vX12_isFull : gVi MX12_isFull := ⟨mW_8 (List.mem_of_getElem? (i := 51) rfl) rfl, mS_4 (List.mem_of_getElem? (i := 15) rfl) rfl⟩
def MX12_nameOf : gM := (yX12_nameOf, cX12_nameOf, 5, (some .int))
theorem kX12_nameOf : gCd MX12_nameOf 2 := ⟨mW_8 (List.mem_of_getElem? (i := 77) rfl) rfl, mW_1 (List.mem_of_getElem? (i := 17) rfl) rfl, ⟨by decide, by decide, by decide +kernel⟩, by decide⟩
theorem vX12_nameOf : gVi MX12_nameOf := ⟨mW_8 (List.mem_of_getElem? (i := 76) rfl) rfl, mS_5 (List.mem_of_getElem? (i := 4) rfl) rfl⟩
def MX12_newName : gM := (yX12_newName, cX12_newName, 4, (some .long))
theorem kX12_newName : gCd MX12_newName 0 := ⟨mW_8 (List.mem_of_getElem? (i := 63) rfl) rfl, mW_1 (List.mem_of_getElem? (i := 17) rfl) rfl, ⟨by decide, by decide, by decide +kernel⟩, by decide⟩
theorem vX12_newName : gVi MX12_newName := ⟨mW_8 (List.mem_of_getElem? (i := 62) rfl) rfl, mS_5 (List.mem_of_getElem? (i := 1) rfl) rfl⟩
def MX12_oneOf : gM := (yX12_oneOf, cX12_oneOf, 5, (some .int))
theorem kX12_oneOf : gCd MX12_oneOf 1 := ⟨mW_8 (List.mem_of_getElem? (i := 89) rfl) rfl, mW_1 (List.mem_of_getElem? (i := 17) rfl) rfl, ⟨by decide, by decide, by decide +kernel⟩, by decide⟩
theorem vX12_oneOf : gVi MX12_oneOf := ⟨mW_8 (List.mem_of_getElem? (i := 88) rfl) rfl, mS_5 (List.mem_of_getElem? (i := 7) rfl) rfl⟩
def MX12_lakeTold : gM := (yX12_lakeTold, cX12_lakeTold, 1, none)
theorem kX12_lakeTold : gCd MX12_lakeTold 0 := ⟨mW_7 (List.mem_of_getElem? (i := 239) rfl) rfl, mW_1 (List.mem_of_getElem? (i := 17) rfl) rfl, ⟨by decide, by decide, by decide +kernel⟩, by decide⟩
theorem vX12_lakeTold : gVi MX12_lakeTold := ⟨mW_7 (List.mem_of_getElem? (i := 238) rfl) rfl, mS_4 (List.mem_of_getElem? (i := 4) rfl) rfl⟩
def MX12_kindOf : gM := (yX12_kindOf, cX12_kindOf, 1, (some .int))
theorem kX12_kindOf : gCd MX12_kindOf 1 := ⟨mW_8 (List.mem_of_getElem? (i := 55) rfl) rfl, mW_1 (List.mem_of_getElem? (i := 17) rfl) rfl, ⟨by decide, by decide, by decide +kernel⟩, by decide⟩
theorem sX12_kindOf : gSt MX12_kindOf := mW_8 (List.mem_of_getElem? (i := 54) rfl) rfl
def MX12_rowTold : gM := (yX12_rowTold, cX12_rowTold, 5, none)
theorem kX12_rowTold : gCd MX12_rowTold 1 := ⟨mW_8 (List.mem_of_getElem? (i := 48) rfl) rfl, mW_1 (List.mem_of_getElem? (i := 17) rfl) rfl, ⟨by decide, by decide, by decide +kernel⟩, by decide⟩
theorem vX12_rowTold : gVi MX12_rowTold := ⟨mW_8 (List.mem_of_getElem? (i := 47) rfl) rfl, mS_4 (List.mem_of_getElem? (i := 14) rfl) rfl⟩
def MX12_boatTold : gM := (yX12_boatTold, cX12_boatTold, 7, none)
theorem kX12_boatTold : gCd MX12_boatTold 1 := ⟨mW_8 (List.mem_of_getElem? (i := 59) rfl) rfl, mW_1 (List.mem_of_getElem? (i := 17) rfl) rfl, ⟨by decide, by decide, by decide +kernel⟩, by decide⟩
theorem vX12_boatTold : gVi MX12_boatTold := ⟨mW_8 (List.mem_of_getElem? (i := 58) rfl) rfl, mS_5 (List.mem_of_getElem? (i := 0) rfl) rfl⟩
def MX12_handTold : gM := (yX12_handTold, cX12_handTold, 5, none)
theorem kX12_handTold : gCd MX12_handTold 1 := ⟨mW_8 (List.mem_of_getElem? (i := 81) rfl) rfl, mW_1 (List.mem_of_getElem? (i := 17) rfl) rfl, ⟨by decide, by decide, by decide +kernel⟩, by decide⟩
theorem vX12_handTold : gVi MX12_handTold := ⟨mW_8 (List.mem_of_getElem? (i := 80) rfl) rfl, mS_5 (List.mem_of_getElem? (i := 5) rfl) rfl⟩
def MX12_likesTold : gM := (yX12_likesTold, cX12_likesTold, 4, none)
theorem kX12_likesTold : gCd MX12_likesTold 0 := ⟨mW_8 (List.mem_of_getElem? (i := 85) rfl) rfl, mW_1 (List.mem_of_getElem? (i := 17) rfl) rfl, ⟨by decide, by decide, by decide +kernel⟩, by decide⟩
theorem vX12_likesTold : gVi MX12_likesTold := ⟨mW_8 (List.mem_of_getElem? (i := 84) rfl) rfl, mS_5 (List.mem_of_getElem? (i := 6) rfl) rfl⟩
def MX12_skyTold : gM := (yX12_skyTold, cX12_skyTold, 5, none)
theorem kX12_skyTold : gCd MX12_skyTold 2 := ⟨mW_8 (List.mem_of_getElem? (i := 93) rfl) rfl, mW_1 (List.mem_of_getElem? (i := 17) rfl) rfl, ⟨by decide, by decide, by decide +kernel⟩, by decide⟩
theorem vX12_skyTold : gVi MX12_skyTold := ⟨mW_8 (List.mem_of_getElem? (i := 92) rfl) rfl, mS_5 (List.mem_of_getElem? (i := 8) rfl) rfl⟩
def MX12_sumIsTold : gM := (yX12_sumIsTold, cX12_sumIsTold, 3, none)
theorem kX12_sumIsTold : gCd MX12_sumIsTold 2 := ⟨mW_8 (List.mem_of_getElem? (i := 97) rfl) rfl, mW_1 (List.mem_of_getElem? (i := 17) rfl) rfl, ⟨by decide, by decide, by decide +kernel⟩, by decide⟩
theorem vX12_sumIsTold : gVi MX12_sumIsTold := ⟨mW_8 (List.mem_of_getElem? (i := 96) rfl) rfl, mS_5 (List.mem_of_getElem? (i := 9) rfl) rfl⟩
def MX12_statementTold : gM := (yX12_statementTold, cX12_statementTold, 2, none)
theorem kX12_statementTold : gCd MX12_statementTold 0 := ⟨mW_8 (List.mem_of_getElem? (i := 44) rfl) rfl, mW_1 (List.mem_of_getElem? (i := 17) rfl) rfl, ⟨by decide, by decide, by decide +kernel⟩, by decide⟩
theorem vX12_statementTold : gVi MX12_statementTold := ⟨mW_8 (List.mem_of_getElem? (i := 43) rfl) rfl, mS_4 (List.mem_of_getElem? (i := 13) rfl) rfl⟩
def MX12_lake : gM := (yX12_lake, cX12_lake, 2, (some .int))
theorem kX12_lake : gCd MX12_lake 0 := ⟨mW_7 (List.mem_of_getElem? (i := 235) rfl) rfl, mW_1 (List.mem_of_getElem? (i := 17) rfl) rfl, ⟨by decide, by decide, by decide +kernel⟩, by decide⟩
theorem vX12_lake : gVi MX12_lake := ⟨mW_7 (List.mem_of_getElem? (i := 233) rfl) rfl, mW_7 (List.mem_of_getElem? (i := 234) rfl) rfl⟩
def MX12_stands : gM := (yX12_stands, cX12_stands, 2, none)
theorem kX12_stands : gCd MX12_stands 0 := ⟨mW_8 (List.mem_of_getElem? (i := 141) rfl) rfl, mW_1 (List.mem_of_getElem? (i := 17) rfl) rfl, ⟨by decide, by decide, by decide +kernel⟩, by decide⟩
theorem vX12_stands : gVi MX12_stands := ⟨mW_8 (List.mem_of_getElem? (i := 140) rfl) rfl, mS_6 (List.mem_of_getElem? (i := 4) rfl) rfl⟩
def MX12_code : gM := (yX12_code, cX12_code, 2, none)
theorem kX12_code : gCd MX12_code 1 := ⟨mW_8 (List.mem_of_getElem? (i := 113) rfl) rfl, mW_1 (List.mem_of_getElem? (i := 17) rfl) rfl, ⟨by decide, by decide, by decide +kernel⟩, by decide⟩
theorem vX12_code : gVi MX12_code := ⟨mW_8 (List.mem_of_getElem? (i := 112) rfl) rfl, mS_5 (List.mem_of_getElem? (i := 13) rfl) rfl⟩
def MX12_opens : gM := (yX12_opens, cX12_opens, 3, none)
theorem kX12_opens : gCd MX12_opens 2 := ⟨mW_8 (List.mem_of_getElem? (i := 109) rfl) rfl, mW_1 (List.mem_of_getElem? (i := 17) rfl) rfl, ⟨by decide, by decide, by decide +kernel⟩, by decide⟩
theorem vX12_opens : gVi MX12_opens := ⟨mW_8 (List.mem_of_getElem? (i := 108) rfl) rfl, mS_5 (List.mem_of_getElem? (i := 12) rfl) rfl⟩
def MX12_isOn : gM := (yX12_isOn, cX12_isOn, 2, (some .boolean))
theorem kX12_isOn : gCd MX12_isOn 1 := ⟨mW_8 (List.mem_of_getElem? (i := 137) rfl) rfl, mW_1 (List.mem_of_getElem? (i := 17) rfl) rfl, ⟨by decide, by decide, by decide +kernel⟩, by decide⟩
theorem vX12_isOn : gVi MX12_isOn := ⟨mW_8 (List.mem_of_getElem? (i := 136) rfl) rfl, mS_6 (List.mem_of_getElem? (i := 3) rfl) rfl⟩
def MX12_drops : gM := (yX12_drops, cX12_drops, 1, none)
theorem kX12_drops : gCd MX12_drops 0 := ⟨mW_8 (List.mem_of_getElem? (i := 133) rfl) rfl, mW_1 (List.mem_of_getElem? (i := 17) rfl) rfl, ⟨by decide, by decide, by decide +kernel⟩, by decide⟩
theorem vX12_drops : gVi MX12_drops := ⟨mW_8 (List.mem_of_getElem? (i := 132) rfl) rfl, mS_6 (List.mem_of_getElem? (i := 2) rfl) rfl⟩
def MX12_isMark : gM := (yX12_isMark, cX12_isMark, 2, (some .boolean))
theorem kX12_isMark : gCd MX12_isMark 1 := ⟨mW_8 (List.mem_of_getElem? (i := 125) rfl) rfl, mW_1 (List.mem_of_getElem? (i := 17) rfl) rfl, ⟨by decide, by decide, by decide +kernel⟩, by decide⟩
theorem vX12_isMark : gVi MX12_isMark := ⟨mW_8 (List.mem_of_getElem? (i := 124) rfl) rfl, mS_6 (List.mem_of_getElem? (i := 0) rfl) rfl⟩
def MX12_waitsLast : gM := (yX12_waitsLast, cX12_waitsLast, 2, (some .int))
theorem kX12_waitsLast : gCd MX12_waitsLast 0 := ⟨mW_8 (List.mem_of_getElem? (i := 121) rfl) rfl, mW_1 (List.mem_of_getElem? (i := 17) rfl) rfl, ⟨by decide, by decide, by decide +kernel⟩, by decide⟩
theorem vX12_waitsLast : gVi MX12_waitsLast := ⟨mW_8 (List.mem_of_getElem? (i := 120) rfl) rfl, mS_5 (List.mem_of_getElem? (i := 15) rfl) rfl⟩
def MX12_dropsToMark : gM := (yX12_dropsToMark, cX12_dropsToMark, 1, none)
theorem kX12_dropsToMark : gCd MX12_dropsToMark 0 := ⟨mW_8 (List.mem_of_getElem? (i := 129) rfl) rfl, mW_1 (List.mem_of_getElem? (i := 17) rfl) rfl, ⟨by decide, by decide, by decide +kernel⟩, by decide⟩
theorem vX12_dropsToMark : gVi MX12_dropsToMark := ⟨mW_8 (List.mem_of_getElem? (i := 128) rfl) rfl, mS_6 (List.mem_of_getElem? (i := 1) rfl) rfl⟩
def MX12_onePart : gM := (yX12_onePart, cX12_onePart, 5, none)
theorem kX12_onePart : gCd MX12_onePart 0 := ⟨mW_8 (List.mem_of_getElem? (i := 105) rfl) rfl, mW_1 (List.mem_of_getElem? (i := 17) rfl) rfl, ⟨by decide, by decide, by decide +kernel⟩, by decide⟩
theorem vX12_onePart : gVi MX12_onePart := ⟨mW_8 (List.mem_of_getElem? (i := 104) rfl) rfl, mS_5 (List.mem_of_getElem? (i := 11) rfl) rfl⟩
def MX12_goesOn : gM := (yX12_goesOn, cX12_goesOn, 2, (some .boolean))
theorem kX12_goesOn : gCd MX12_goesOn 0 := ⟨mW_8 (List.mem_of_getElem? (i := 117) rfl) rfl, mW_1 (List.mem_of_getElem? (i := 17) rfl) rfl, ⟨by decide, by decide, by decide +kernel⟩, by decide⟩
theorem vX12_goesOn : gVi MX12_goesOn := ⟨mW_8 (List.mem_of_getElem? (i := 116) rfl) rfl, mS_5 (List.mem_of_getElem? (i := 14) rfl) rfl⟩
def MX12_sumsTold : gM := (yX12_sumsTold, cX12_sumsTold, 3, none)
theorem kX12_sumsTold : gCd MX12_sumsTold 0 := ⟨mW_8 (List.mem_of_getElem? (i := 101) rfl) rfl, mW_1 (List.mem_of_getElem? (i := 17) rfl) rfl, ⟨by decide, by decide, by decide +kernel⟩, by decide⟩
theorem vX12_sumsTold : gVi MX12_sumsTold := ⟨mW_8 (List.mem_of_getElem? (i := 100) rfl) rfl, mS_5 (List.mem_of_getElem? (i := 10) rfl) rfl⟩
def MX12_fault : gM := (yX12_fault, cX12_fault, 2, (some .int))
theorem kX12_fault : gCd MX12_fault 1 := ⟨mW_8 (List.mem_of_getElem? (i := 145) rfl) rfl, mW_1 (List.mem_of_getElem? (i := 17) rfl) rfl, ⟨by decide, by decide, by decide +kernel⟩, by decide⟩
theorem vX12_fault : gVi MX12_fault := ⟨mW_8 (List.mem_of_getElem? (i := 143) rfl) rfl, mW_8 (List.mem_of_getElem? (i := 144) rfl) rfl⟩
def MX12_clip : gM := (yX12_clip, cX12_clip, 2, (some .long))
theorem kX12_clip : gCd MX12_clip 1 := ⟨mW_9 (List.mem_of_getElem? (i := 64) rfl) rfl, mW_1 (List.mem_of_getElem? (i := 17) rfl) rfl, ⟨by decide, by decide, by decide +kernel⟩, by decide⟩
theorem sX12_clip : gSt MX12_clip := mW_9 (List.mem_of_getElem? (i := 63) rfl) rfl
def MX12_floor : gM := (yX12_floor, cX12_floor, 6, (some .long))
theorem kX12_floor : gCd MX12_floor 2 := ⟨mW_9 (List.mem_of_getElem? (i := 69) rfl) rfl, mW_1 (List.mem_of_getElem? (i := 17) rfl) rfl, ⟨by decide, by decide, by decide +kernel⟩, by decide⟩
theorem sX12_floor : gSt MX12_floor := mW_9 (List.mem_of_getElem? (i := 68) rfl) rfl
def MX12_puts : gM := (yX12_puts, cX12_puts, 3, none)
theorem kX12_puts : gCd MX12_puts 1 := ⟨mW_9 (List.mem_of_getElem? (i := 55) rfl) rfl, mW_1 (List.mem_of_getElem? (i := 17) rfl) rfl, ⟨by decide, by decide, by decide +kernel⟩, by decide⟩
theorem vX12_puts : gVi MX12_puts := ⟨mW_9 (List.mem_of_getElem? (i := 54) rfl) rfl, mS_7 (List.mem_of_getElem? (i := 15) rfl) rfl⟩
def MX12_joins : gM := (yX12_joins, cX12_joins, 6, none)
theorem kX12_joins : gCd MX12_joins 1 := ⟨mW_9 (List.mem_of_getElem? (i := 61) rfl) rfl, mW_1 (List.mem_of_getElem? (i := 17) rfl) rfl, ⟨by decide, by decide, by decide +kernel⟩, by decide⟩
theorem vX12_joins : gVi MX12_joins := ⟨mW_9 (List.mem_of_getElem? (i := 60) rfl) rfl, mS_8 (List.mem_of_getElem? (i := 0) rfl) rfl⟩
def MX12_columns : gM := (yX12_columns, cX12_columns, 1, (some .int))
theorem kX12_columns : gCd MX12_columns 0 := ⟨mW_8 (List.mem_of_getElem? (i := 199) rfl) rfl, mW_1 (List.mem_of_getElem? (i := 17) rfl) rfl, ⟨by decide, by decide, by decide +kernel⟩, by decide⟩
theorem vX12_columns : gVi MX12_columns := ⟨mW_8 (List.mem_of_getElem? (i := 198) rfl) rfl, mS_6 (List.mem_of_getElem? (i := 13) rfl) rfl⟩
def MX12_cellMany : gM := (yX12_cellMany, cX12_cellMany, 1, (some .int))
theorem kX12_cellMany : gCd MX12_cellMany 0 := ⟨mW_8 (List.mem_of_getElem? (i := 195) rfl) rfl, mW_1 (List.mem_of_getElem? (i := 17) rfl) rfl, ⟨by decide, by decide, by decide +kernel⟩, by decide⟩
theorem vX12_cellMany : gVi MX12_cellMany := ⟨mW_8 (List.mem_of_getElem? (i := 194) rfl) rfl, mS_6 (List.mem_of_getElem? (i := 12) rfl) rfl⟩
def MX12_boatMany : gM := (yX12_boatMany, cX12_boatMany, 1, (some .int))
theorem kX12_boatMany : gCd MX12_boatMany 0 := ⟨mW_8 (List.mem_of_getElem? (i := 161) rfl) rfl, mW_1 (List.mem_of_getElem? (i := 17) rfl) rfl, ⟨by decide, by decide, by decide +kernel⟩, by decide⟩
theorem vX12_boatMany : gVi MX12_boatMany := ⟨mW_8 (List.mem_of_getElem? (i := 160) rfl) rfl, mS_6 (List.mem_of_getElem? (i := 7) rfl) rfl⟩
def MX12_handMany : gM := (yX12_handMany, cX12_handMany, 1, (some .int))
theorem kX12_handMany : gCd MX12_handMany 0 := ⟨mW_9 (List.mem_of_getElem? (i := 6) rfl) rfl, mW_1 (List.mem_of_getElem? (i := 17) rfl) rfl, ⟨by decide, by decide, by decide +kernel⟩, by decide⟩
theorem vX12_handMany : gVi MX12_handMany := ⟨mW_9 (List.mem_of_getElem? (i := 5) rfl) rfl, mS_7 (List.mem_of_getElem? (i := 7) rfl) rfl⟩
def MX12_isCell : gM := (yX12_isCell, cX12_isCell, 2, (some .boolean))
theorem kX12_isCell : gCd MX12_isCell 1 := ⟨mW_8 (List.mem_of_getElem? (i := 191) rfl) rfl, mW_1 (List.mem_of_getElem? (i := 17) rfl) rfl, ⟨by decide, by decide, by decide +kernel⟩, by decide⟩
theorem vX12_isCell : gVi MX12_isCell := ⟨mW_8 (List.mem_of_getElem? (i := 190) rfl) rfl, mS_6 (List.mem_of_getElem? (i := 11) rfl) rfl⟩
def MX12_isBoat : gM := (yX12_isBoat, cX12_isBoat, 2, (some .boolean))
theorem kX12_isBoat : gCd MX12_isBoat 1 := ⟨mW_8 (List.mem_of_getElem? (i := 182) rfl) rfl, mW_1 (List.mem_of_getElem? (i := 17) rfl) rfl, ⟨by decide, by decide, by decide +kernel⟩, by decide⟩
theorem vX12_isBoat : gVi MX12_isBoat := ⟨mW_8 (List.mem_of_getElem? (i := 181) rfl) rfl, mS_6 (List.mem_of_getElem? (i := 10) rfl) rfl⟩
def MX12_kindAt : gM := (yX12_kindAt, cX12_kindAt, 2, (some .int))
theorem kX12_kindAt : gCd MX12_kindAt 1 := ⟨mW_8 (List.mem_of_getElem? (i := 207) rfl) rfl, mW_1 (List.mem_of_getElem? (i := 17) rfl) rfl, ⟨by decide, by decide, by decide +kernel⟩, by decide⟩
theorem vX12_kindAt : gVi MX12_kindAt := ⟨mW_8 (List.mem_of_getElem? (i := 206) rfl) rfl, mS_6 (List.mem_of_getElem? (i := 15) rfl) rfl⟩
def MX12_isLand : gM := (yX12_isLand, cX12_isLand, 2, (some .boolean))
theorem kX12_isLand : gCd MX12_isLand 1 := ⟨mW_8 (List.mem_of_getElem? (i := 203) rfl) rfl, mW_1 (List.mem_of_getElem? (i := 17) rfl) rfl, ⟨by decide, by decide, by decide +kernel⟩, by decide⟩
theorem vX12_isLand : gVi MX12_isLand := ⟨mW_8 (List.mem_of_getElem? (i := 202) rfl) rfl, mS_6 (List.mem_of_getElem? (i := 14) rfl) rfl⟩
def MX12_isWater : gM := (yX12_isWater, cX12_isWater, 2, (some .boolean))
theorem kX12_isWater : gCd MX12_isWater 1 := ⟨mW_9 (List.mem_of_getElem? (i := 39) rfl) rfl, mW_1 (List.mem_of_getElem? (i := 17) rfl) rfl, ⟨by decide, by decide, by decide +kernel⟩, by decide⟩
theorem vX12_isWater : gVi MX12_isWater := ⟨mW_9 (List.mem_of_getElem? (i := 38) rfl) rfl, mS_7 (List.mem_of_getElem? (i := 11) rfl) rfl⟩
def MX12_isWreck : gM := (yX12_isWreck, cX12_isWreck, 2, (some .boolean))
theorem kX12_isWreck : gCd MX12_isWreck 1 := ⟨mW_8 (List.mem_of_getElem? (i := 215) rfl) rfl, mW_1 (List.mem_of_getElem? (i := 17) rfl) rfl, ⟨by decide, by decide, by decide +kernel⟩, by decide⟩
theorem vX12_isWreck : gVi MX12_isWreck := ⟨mW_8 (List.mem_of_getElem? (i := 214) rfl) rfl, mS_7 (List.mem_of_getElem? (i := 1) rfl) rfl⟩
def MX12_depthOf : gM := (yX12_depthOf, cX12_depthOf, 2, (some .int))
theorem kX12_depthOf : gCd MX12_depthOf 1 := ⟨mW_8 (List.mem_of_getElem? (i := 211) rfl) rfl, mW_1 (List.mem_of_getElem? (i := 17) rfl) rfl, ⟨by decide, by decide, by decide +kernel⟩, by decide⟩
theorem vX12_depthOf : gVi MX12_depthOf := ⟨mW_8 (List.mem_of_getElem? (i := 210) rfl) rfl, mS_7 (List.mem_of_getElem? (i := 0) rfl) rfl⟩
def MX12_size : gM := (yX12_size, cX12_size, 1, (some .int))
theorem kX12_size : gCd MX12_size 1 := ⟨mW_8 (List.mem_of_getElem? (i := 226) rfl) rfl, mW_1 (List.mem_of_getElem? (i := 17) rfl) rfl, ⟨by decide, by decide, by decide +kernel⟩, by decide⟩
theorem sX12_size : gSt MX12_size := mW_8 (List.mem_of_getElem? (i := 225) rfl) rfl
def MX12_offOf : gM := (yX12_offOf, cX12_offOf, 3, (some .int))
theorem kX12_offOf : gCd MX12_offOf 2 := ⟨mW_8 (List.mem_of_getElem? (i := 223) rfl) rfl, mW_1 (List.mem_of_getElem? (i := 17) rfl) rfl, ⟨by decide, by decide, by decide +kernel⟩, by decide⟩
theorem vX12_offOf : gVi MX12_offOf := ⟨mW_8 (List.mem_of_getElem? (i := 222) rfl) rfl, mS_7 (List.mem_of_getElem? (i := 3) rfl) rfl⟩
def MX12_homeOf : gM := (yX12_homeOf, cX12_homeOf, 4, (some .int))
theorem kX12_homeOf : gCd MX12_homeOf 1 := ⟨mW_8 (List.mem_of_getElem? (i := 219) rfl) rfl, mW_1 (List.mem_of_getElem? (i := 17) rfl) rfl, ⟨by decide, by decide, by decide +kernel⟩, by decide⟩
theorem vX12_homeOf : gVi MX12_homeOf := ⟨mW_8 (List.mem_of_getElem? (i := 218) rfl) rfl, mS_7 (List.mem_of_getElem? (i := 2) rfl) rfl⟩
def MX12_skyIn : gM := (yX12_skyIn, cX12_skyIn, 5, (some .int))
theorem kX12_skyIn : gCd MX12_skyIn 1 := ⟨mW_8 (List.mem_of_getElem? (i := 153) rfl) rfl, mW_1 (List.mem_of_getElem? (i := 17) rfl) rfl, ⟨by decide, by decide, by decide +kernel⟩, by decide⟩
theorem vX12_skyIn : gVi MX12_skyIn := ⟨mW_8 (List.mem_of_getElem? (i := 152) rfl) rfl, mS_6 (List.mem_of_getElem? (i := 5) rfl) rfl⟩
def MX12_cellOf : gM := (yX12_cellOf, cX12_cellOf, 2, (some .int))
theorem kX12_cellOf : gCd MX12_cellOf 1 := ⟨mW_8 (List.mem_of_getElem? (i := 234) rfl) rfl, mW_1 (List.mem_of_getElem? (i := 17) rfl) rfl, ⟨by decide, by decide, by decide +kernel⟩, by decide⟩
theorem vX12_cellOf : gVi MX12_cellOf := ⟨mW_8 (List.mem_of_getElem? (i := 233) rfl) rfl, mS_7 (List.mem_of_getElem? (i := 5) rfl) rfl⟩
def MX12_trustOf : gM := (yX12_trustOf, cX12_trustOf, 2, (some .int))
theorem kX12_trustOf : gCd MX12_trustOf 1 := ⟨mW_8 (List.mem_of_getElem? (i := 169) rfl) rfl, mW_1 (List.mem_of_getElem? (i := 17) rfl) rfl, ⟨by decide, by decide, by decide +kernel⟩, by decide⟩
theorem vX12_trustOf : gVi MX12_trustOf := ⟨mW_8 (List.mem_of_getElem? (i := 168) rfl) rfl, mS_6 (List.mem_of_getElem? (i := 9) rfl) rfl⟩
def MX12_balksOf : gM := (yX12_balksOf, cX12_balksOf, 2, (some .int))
theorem kX12_balksOf : gCd MX12_balksOf 1 := ⟨mW_8 (List.mem_of_getElem? (i := 165) rfl) rfl, mW_1 (List.mem_of_getElem? (i := 17) rfl) rfl, ⟨by decide, by decide, by decide +kernel⟩, by decide⟩
theorem vX12_balksOf : gVi MX12_balksOf := ⟨mW_8 (List.mem_of_getElem? (i := 164) rfl) rfl, mS_6 (List.mem_of_getElem? (i := 8) rfl) rfl⟩
def MX12_handOf : gM := (yX12_handOf, cX12_handOf, 2, (some .int))
theorem kX12_handOf : gCd MX12_handOf 1 := ⟨mW_9 (List.mem_of_getElem? (i := 14) rfl) rfl, mW_1 (List.mem_of_getElem? (i := 17) rfl) rfl, ⟨by decide, by decide, by decide +kernel⟩, by decide⟩
theorem vX12_handOf : gVi MX12_handOf := ⟨mW_9 (List.mem_of_getElem? (i := 13) rfl) rfl, mS_7 (List.mem_of_getElem? (i := 9) rfl) rfl⟩
def MX12_boatsIn : gM := (yX12_boatsIn, cX12_boatsIn, 4, (some .int))
theorem kX12_boatsIn : gCd MX12_boatsIn 1 := ⟨mW_8 (List.mem_of_getElem? (i := 230) rfl) rfl, mW_1 (List.mem_of_getElem? (i := 17) rfl) rfl, ⟨by decide, by decide, by decide +kernel⟩, by decide⟩
theorem vX12_boatsIn : gVi MX12_boatsIn := ⟨mW_8 (List.mem_of_getElem? (i := 229) rfl) rfl, mS_7 (List.mem_of_getElem? (i := 4) rfl) rfl⟩
def MX12_bits : gM := (yX12_bits, cX12_bits, 3, (some .int))
theorem kX12_bits : gCd MX12_bits 1 := ⟨mW_9 (List.mem_of_getElem? (i := 125) rfl) rfl, mW_1 (List.mem_of_getElem? (i := 17) rfl) rfl, ⟨by decide, by decide, by decide +kernel⟩, by decide⟩
theorem sX12_bits : gSt MX12_bits := mW_9 (List.mem_of_getElem? (i := 124) rfl) rfl
def MX12_asksOf : gM := (yX12_asksOf, cX12_asksOf, 4, none)
theorem kX12_asksOf : gCd MX12_asksOf 3 := ⟨mW_9 (List.mem_of_getElem? (i := 47) rfl) rfl, mW_1 (List.mem_of_getElem? (i := 17) rfl) rfl, ⟨by decide, by decide, by decide +kernel⟩, by decide⟩
theorem vX12_asksOf : gVi MX12_asksOf := ⟨mW_9 (List.mem_of_getElem? (i := 46) rfl) rfl, mS_7 (List.mem_of_getElem? (i := 13) rfl) rfl⟩
def MX12_told : gM := (yX12_told, cX12_told, 4, (some .int))
theorem kX12_told : gCd MX12_told 1 := ⟨mW_9 (List.mem_of_getElem? (i := 51) rfl) rfl, mW_1 (List.mem_of_getElem? (i := 17) rfl) rfl, ⟨by decide, by decide, by decide +kernel⟩, by decide⟩
theorem vX12_told : gVi MX12_told := ⟨mW_9 (List.mem_of_getElem? (i := 50) rfl) rfl, mS_7 (List.mem_of_getElem? (i := 14) rfl) rfl⟩
def MX12_dreadOf : gM := (yX12_dreadOf, cX12_dreadOf, 4, (some .int))
theorem kX12_dreadOf : gCd MX12_dreadOf 3 := ⟨mW_9 (List.mem_of_getElem? (i := 43) rfl) rfl, mW_1 (List.mem_of_getElem? (i := 17) rfl) rfl, ⟨by decide, by decide, by decide +kernel⟩, by decide⟩
theorem vX12_dreadOf : gVi MX12_dreadOf := ⟨mW_9 (List.mem_of_getElem? (i := 42) rfl) rfl, mS_7 (List.mem_of_getElem? (i := 12) rfl) rfl⟩
def MX12_wouldGo : gM := (yX12_wouldGo, cX12_wouldGo, 4, (some .boolean))
theorem kX12_wouldGo : gCd MX12_wouldGo 3 := ⟨mW_9 (List.mem_of_getElem? (i := 145) rfl) rfl, mW_1 (List.mem_of_getElem? (i := 17) rfl) rfl, ⟨by decide, by decide, by decide +kernel⟩, by decide⟩
theorem vX12_wouldGo : gVi MX12_wouldGo := ⟨mW_9 (List.mem_of_getElem? (i := 144) rfl) rfl, mS_8 (List.mem_of_getElem? (i := 13) rfl) rfl⟩
def MX12_learnt : gM := (yX12_learnt, cX12_learnt, 7, (some .int))
theorem kX12_learnt : gCd MX12_learnt 4 := ⟨mW_9 (List.mem_of_getElem? (i := 149) rfl) rfl, mW_1 (List.mem_of_getElem? (i := 17) rfl) rfl, ⟨by decide, by decide, by decide +kernel⟩, by decide⟩
theorem vX12_learnt : gVi MX12_learnt := ⟨mW_9 (List.mem_of_getElem? (i := 148) rfl) rfl, mS_8 (List.mem_of_getElem? (i := 14) rfl) rfl⟩
def MX12_isKept : gM := (yX12_isKept, cX12_isKept, 5, none)
theorem kX12_isKept : gCd MX12_isKept 3 := ⟨mW_9 (List.mem_of_getElem? (i := 153) rfl) rfl, mW_1 (List.mem_of_getElem? (i := 17) rfl) rfl, ⟨by decide, by decide, by decide +kernel⟩, by decide⟩
theorem vX12_isKept : gVi MX12_isKept := ⟨mW_9 (List.mem_of_getElem? (i := 152) rfl) rfl, mS_8 (List.mem_of_getElem? (i := 15) rfl) rfl⟩
def MX12_tries : gM := (yX12_tries, cX12_tries, 6, (some .boolean))
theorem kX12_tries : gCd MX12_tries 3 := ⟨mW_9 (List.mem_of_getElem? (i := 141) rfl) rfl, mW_1 (List.mem_of_getElem? (i := 17) rfl) rfl, ⟨by decide, by decide, by decide +kernel⟩, by decide⟩
theorem vX12_tries : gVi MX12_tries := ⟨mW_9 (List.mem_of_getElem? (i := 140) rfl) rfl, mS_8 (List.mem_of_getElem? (i := 12) rfl) rfl⟩
def MX12_beside : gM := (yX12_beside, cX12_beside, 4, (some .int))
theorem kX12_beside : gCd MX12_beside 2 := ⟨mW_9 (List.mem_of_getElem? (i := 87) rfl) rfl, mW_1 (List.mem_of_getElem? (i := 17) rfl) rfl, ⟨by decide, by decide, by decide +kernel⟩, by decide⟩
theorem vX12_beside : gVi MX12_beside := ⟨mW_9 (List.mem_of_getElem? (i := 86) rfl) rfl, mS_8 (List.mem_of_getElem? (i := 3) rfl) rfl⟩
def MX12_isBeside : gM := (yX12_isBeside, cX12_isBeside, 3, (some .boolean))
theorem kX12_isBeside : gCd MX12_isBeside 2 := ⟨mW_9 (List.mem_of_getElem? (i := 122) rfl) rfl, mW_1 (List.mem_of_getElem? (i := 17) rfl) rfl, ⟨by decide, by decide, by decide +kernel⟩, by decide⟩
theorem vX12_isBeside : gVi MX12_isBeside := ⟨mW_9 (List.mem_of_getElem? (i := 121) rfl) rfl, mS_8 (List.mem_of_getElem? (i := 8) rfl) rfl⟩
def MX12_putsAside : gM := (yX12_putsAside, cX12_putsAside, 2, none)
theorem kX12_putsAside : gCd MX12_putsAside 0 := ⟨mW_9 (List.mem_of_getElem? (i := 129) rfl) rfl, mW_1 (List.mem_of_getElem? (i := 17) rfl) rfl, ⟨by decide, by decide, by decide +kernel⟩, by decide⟩
theorem vX12_putsAside : gVi MX12_putsAside := ⟨mW_9 (List.mem_of_getElem? (i := 128) rfl) rfl, mS_8 (List.mem_of_getElem? (i := 9) rfl) rfl⟩
def MX12_takesBack : gM := (yX12_takesBack, cX12_takesBack, 2, none)
theorem kX12_takesBack : gCd MX12_takesBack 0 := ⟨mW_9 (List.mem_of_getElem? (i := 157) rfl) rfl, mW_1 (List.mem_of_getElem? (i := 17) rfl) rfl, ⟨by decide, by decide, by decide +kernel⟩, by decide⟩
theorem vX12_takesBack : gVi MX12_takesBack := ⟨mW_9 (List.mem_of_getElem? (i := 156) rfl) rfl, mS_9 (List.mem_of_getElem? (i := 0) rfl) rfl⟩
def MX12_sumOf : gM := (yX12_sumOf, cX12_sumOf, 4, (some .int))
theorem kX12_sumOf : gCd MX12_sumOf 1 := ⟨mW_8 (List.mem_of_getElem? (i := 157) rfl) rfl, mW_1 (List.mem_of_getElem? (i := 17) rfl) rfl, ⟨by decide, by decide, by decide +kernel⟩, by decide⟩
theorem vX12_sumOf : gVi MX12_sumOf := ⟨mW_8 (List.mem_of_getElem? (i := 156) rfl) rfl, mS_6 (List.mem_of_getElem? (i := 6) rfl) rfl⟩
def MX12_has : gM := (yX12_has, cX12_has, 2, (some .int))
theorem kX12_has : gCd MX12_has 1 := ⟨mW_8 (List.mem_of_getElem? (i := 149) rfl) rfl, mW_1 (List.mem_of_getElem? (i := 17) rfl) rfl, ⟨by decide, by decide, by decide +kernel⟩, by decide⟩
theorem vX12_has : gVi MX12_has := ⟨mW_8 (List.mem_of_getElem? (i := 147) rfl) rfl, mW_8 (List.mem_of_getElem? (i := 148) rfl) rfl⟩
def MX12_letter : gM := (yX12_letter, cX12_letter, 9, (some .int))
theorem kX12_letter : gCd MX12_letter 3 := ⟨mW_8 (List.mem_of_getElem? (i := 173) rfl) rfl, mW_1 (List.mem_of_getElem? (i := 17) rfl) rfl, ⟨by decide, by decide, by decide +kernel⟩, by decide⟩
theorem vX12_letter : gVi MX12_letter := ⟨mW_8 (List.mem_of_getElem? (i := 171) rfl) rfl, mW_8 (List.mem_of_getElem? (i := 172) rfl) rfl⟩
def MX12_boat : gM := (yX12_boat, cX12_boat, 3, (some .int))
theorem kX12_boat : gCd MX12_boat 2 := ⟨mW_8 (List.mem_of_getElem? (i := 178) rfl) rfl, mW_1 (List.mem_of_getElem? (i := 17) rfl) rfl, ⟨by decide, by decide, by decide +kernel⟩, by decide⟩
theorem vX12_boat : gVi MX12_boat := ⟨mW_8 (List.mem_of_getElem? (i := 176) rfl) rfl, mW_8 (List.mem_of_getElem? (i := 177) rfl) rfl⟩
def MX12_cell : gM := (yX12_cell, cX12_cell, 3, (some .int))
theorem kX12_cell : gCd MX12_cell 2 := ⟨mW_8 (List.mem_of_getElem? (i := 187) rfl) rfl, mW_1 (List.mem_of_getElem? (i := 17) rfl) rfl, ⟨by decide, by decide, by decide +kernel⟩, by decide⟩
theorem vX12_cell : gVi MX12_cell := ⟨mW_8 (List.mem_of_getElem? (i := 185) rfl) rfl, mW_8 (List.mem_of_getElem? (i := 186) rfl) rfl⟩
def MX12_isHand : gM := (yX12_isHand, cX12_isHand, 2, (some .boolean))
theorem kX12_isHand : gCd MX12_isHand 1 := ⟨mW_9 (List.mem_of_getElem? (i := 2) rfl) rfl, mW_1 (List.mem_of_getElem? (i := 17) rfl) rfl, ⟨by decide, by decide, by decide +kernel⟩, by decide⟩
theorem vX12_isHand : gVi MX12_isHand := ⟨mW_9 (List.mem_of_getElem? (i := 1) rfl) rfl, mS_7 (List.mem_of_getElem? (i := 6) rfl) rfl⟩
def MX12_boatWith : gM := (yX12_boatWith, cX12_boatWith, 3, (some .int))
theorem kX12_boatWith : gCd MX12_boatWith 1 := ⟨mW_9 (List.mem_of_getElem? (i := 10) rfl) rfl, mW_1 (List.mem_of_getElem? (i := 17) rfl) rfl, ⟨by decide, by decide, by decide +kernel⟩, by decide⟩
theorem vX12_boatWith : gVi MX12_boatWith := ⟨mW_9 (List.mem_of_getElem? (i := 9) rfl) rfl, mS_7 (List.mem_of_getElem? (i := 8) rfl) rfl⟩
def MX12_hand : gM := (yX12_hand, cX12_hand, 3, (some .int))
theorem kX12_hand : gCd MX12_hand 2 := ⟨mW_8 (List.mem_of_getElem? (i := 238) rfl) rfl, mW_1 (List.mem_of_getElem? (i := 17) rfl) rfl, ⟨by decide, by decide, by decide +kernel⟩, by decide⟩
theorem vX12_hand : gVi MX12_hand := ⟨mW_8 (List.mem_of_getElem? (i := 236) rfl) rfl, mW_8 (List.mem_of_getElem? (i := 237) rfl) rfl⟩
def MX12_liked : gM := (yX12_liked, cX12_liked, 3, (some .int))
theorem kX12_liked : gCd MX12_liked 2 := ⟨mW_9 (List.mem_of_getElem? (i := 22) rfl) rfl, mW_1 (List.mem_of_getElem? (i := 17) rfl) rfl, ⟨by decide, by decide, by decide +kernel⟩, by decide⟩
theorem vX12_liked : gVi MX12_liked := ⟨mW_9 (List.mem_of_getElem? (i := 21) rfl) rfl, mS_7 (List.mem_of_getElem? (i := 10) rfl) rfl⟩
def MX12_likes : gM := (yX12_likes, cX12_likes, 3, (some .int))
theorem kX12_likes : gCd MX12_likes 2 := ⟨mW_9 (List.mem_of_getElem? (i := 18) rfl) rfl, mW_1 (List.mem_of_getElem? (i := 17) rfl) rfl, ⟨by decide, by decide, by decide +kernel⟩, by decide⟩
theorem vX12_likes : gVi MX12_likes := ⟨mW_9 (List.mem_of_getElem? (i := 16) rfl) rfl, mW_9 (List.mem_of_getElem? (i := 17) rfl) rfl⟩
def MX12_sky : gM := (yX12_sky, cX12_sky, 2, (some .int))
theorem kX12_sky : gCd MX12_sky 1 := ⟨mW_9 (List.mem_of_getElem? (i := 26) rfl) rfl, mW_1 (List.mem_of_getElem? (i := 17) rfl) rfl, ⟨by decide, by decide, by decide +kernel⟩, by decide⟩
theorem vX12_sky : gVi MX12_sky := ⟨mW_9 (List.mem_of_getElem? (i := 24) rfl) rfl, mW_9 (List.mem_of_getElem? (i := 25) rfl) rfl⟩
def MX12_kept : gM := (yX12_kept, cX12_kept, 3, (some .int))
theorem kX12_kept : gCd MX12_kept 2 := ⟨mW_9 (List.mem_of_getElem? (i := 31) rfl) rfl, mW_1 (List.mem_of_getElem? (i := 17) rfl) rfl, ⟨by decide, by decide, by decide +kernel⟩, by decide⟩
theorem vX12_kept : gVi MX12_kept := ⟨mW_9 (List.mem_of_getElem? (i := 29) rfl) rfl, mW_9 (List.mem_of_getElem? (i := 30) rfl) rfl⟩
def MX12_laysFears : gM := (yX12_laysFears, cX12_laysFears, 3, none)
theorem kX12_laysFears : gCd MX12_laysFears 1 := ⟨mW_9 (List.mem_of_getElem? (i := 78) rfl) rfl, mW_1 (List.mem_of_getElem? (i := 17) rfl) rfl, ⟨by decide, by decide, by decide +kernel⟩, by decide⟩
theorem vX12_laysFears : gVi MX12_laysFears := ⟨mW_9 (List.mem_of_getElem? (i := 77) rfl) rfl, mS_8 (List.mem_of_getElem? (i := 1) rfl) rfl⟩
def MX12_dread : gM := (yX12_dread, cX12_dread, 4, (some .int))
theorem kX12_dread : gCd MX12_dread 3 := ⟨mW_9 (List.mem_of_getElem? (i := 35) rfl) rfl, mW_1 (List.mem_of_getElem? (i := 17) rfl) rfl, ⟨by decide, by decide, by decide +kernel⟩, by decide⟩
theorem vX12_dread : gVi MX12_dread := ⟨mW_9 (List.mem_of_getElem? (i := 33) rfl) rfl, mW_9 (List.mem_of_getElem? (i := 34) rfl) rfl⟩
def MX12_laysSteps : gM := (yX12_laysSteps, cX12_laysSteps, 7, none)
theorem kX12_laysSteps : gCd MX12_laysSteps 2 := ⟨mW_9 (List.mem_of_getElem? (i := 83) rfl) rfl, mW_1 (List.mem_of_getElem? (i := 17) rfl) rfl, ⟨by decide, by decide, by decide +kernel⟩, by decide⟩
theorem vX12_laysSteps : gVi MX12_laysSteps := ⟨mW_9 (List.mem_of_getElem? (i := 82) rfl) rfl, mS_8 (List.mem_of_getElem? (i := 2) rfl) rfl⟩
def MX12_nextStep : gM := (yX12_nextStep, cX12_nextStep, 6, (some .int))
theorem kX12_nextStep : gCd MX12_nextStep 2 := ⟨mW_9 (List.mem_of_getElem? (i := 91) rfl) rfl, mW_1 (List.mem_of_getElem? (i := 17) rfl) rfl, ⟨by decide, by decide, by decide +kernel⟩, by decide⟩
theorem vX12_nextStep : gVi MX12_nextStep := ⟨mW_9 (List.mem_of_getElem? (i := 90) rfl) rfl, mS_8 (List.mem_of_getElem? (i := 4) rfl) rfl⟩
def MX12_route : gM := (yX12_route, cX12_route, 6, (some .int))
theorem kX12_route : gCd MX12_route 3 := ⟨mW_9 (List.mem_of_getElem? (i := 74) rfl) rfl, mW_1 (List.mem_of_getElem? (i := 17) rfl) rfl, ⟨by decide, by decide, by decide +kernel⟩, by decide⟩
theorem vX12_route : gVi MX12_route := ⟨mW_9 (List.mem_of_getElem? (i := 72) rfl) rfl, mW_9 (List.mem_of_getElem? (i := 73) rfl) rfl⟩
def MX12_greater : gM := (yX12_greater, cX12_greater, 2, (some .int))
theorem kX12_greater : gCd MX12_greater 2 := ⟨mW_9 (List.mem_of_getElem? (i := 102) rfl) rfl, mW_1 (List.mem_of_getElem? (i := 17) rfl) rfl, ⟨by decide, by decide, by decide +kernel⟩, by decide⟩
theorem sX12_greater : gSt MX12_greater := mW_9 (List.mem_of_getElem? (i := 101) rfl) rfl
def MX12_laysGentle : gM := (yX12_laysGentle, cX12_laysGentle, 6, none)
theorem kX12_laysGentle : gCd MX12_laysGentle 1 := ⟨mW_9 (List.mem_of_getElem? (i := 99) rfl) rfl, mW_1 (List.mem_of_getElem? (i := 17) rfl) rfl, ⟨by decide, by decide, by decide +kernel⟩, by decide⟩
theorem vX12_laysGentle : gVi MX12_laysGentle := ⟨mW_9 (List.mem_of_getElem? (i := 98) rfl) rfl, mS_8 (List.mem_of_getElem? (i := 5) rfl) rfl⟩
def MX12_gentle : gM := (yX12_gentle, cX12_gentle, 6, (some .int))
theorem kX12_gentle : gCd MX12_gentle 3 := ⟨mW_9 (List.mem_of_getElem? (i := 95) rfl) rfl, mW_1 (List.mem_of_getElem? (i := 17) rfl) rfl, ⟨by decide, by decide, by decide +kernel⟩, by decide⟩
theorem vX12_gentle : gVi MX12_gentle := ⟨mW_9 (List.mem_of_getElem? (i := 93) rfl) rfl, mW_9 (List.mem_of_getElem? (i := 94) rfl) rfl⟩
def MX12_leastBeside : gM := (yX12_leastBeside, cX12_leastBeside, 5, (some .int))
theorem kX12_leastBeside : gCd MX12_leastBeside 1 := ⟨mW_9 (List.mem_of_getElem? (i := 110) rfl) rfl, mW_1 (List.mem_of_getElem? (i := 17) rfl) rfl, ⟨by decide, by decide, by decide +kernel⟩, by decide⟩
theorem vX12_leastBeside : gVi MX12_leastBeside := ⟨mW_9 (List.mem_of_getElem? (i := 109) rfl) rfl, mS_8 (List.mem_of_getElem? (i := 6) rfl) rfl⟩
def MX12_runs : gM := (yX12_runs, cX12_runs, 6, (some .int))
theorem kX12_runs : gCd MX12_runs 2 := ⟨mW_9 (List.mem_of_getElem? (i := 106) rfl) rfl, mW_1 (List.mem_of_getElem? (i := 17) rfl) rfl, ⟨by decide, by decide, by decide +kernel⟩, by decide⟩
theorem vX12_runs : gVi MX12_runs := ⟨mW_9 (List.mem_of_getElem? (i := 104) rfl) rfl, mW_9 (List.mem_of_getElem? (i := 105) rfl) rfl⟩
def MX12_canFile : gM := (yX12_canFile, cX12_canFile, 5, (some .boolean))
theorem kX12_canFile : gCd MX12_canFile 2 := ⟨mW_9 (List.mem_of_getElem? (i := 118) rfl) rfl, mW_1 (List.mem_of_getElem? (i := 17) rfl) rfl, ⟨by decide, by decide, by decide +kernel⟩, by decide⟩
theorem vX12_canFile : gVi MX12_canFile := ⟨mW_9 (List.mem_of_getElem? (i := 117) rfl) rfl, mS_8 (List.mem_of_getElem? (i := 7) rfl) rfl⟩
def MX12_files : gM := (yX12_files, cX12_files, 6, (some .int))
theorem kX12_files : gCd MX12_files 2 := ⟨mW_9 (List.mem_of_getElem? (i := 137) rfl) rfl, mW_1 (List.mem_of_getElem? (i := 17) rfl) rfl, ⟨by decide, by decide, by decide +kernel⟩, by decide⟩
theorem vX12_files : gVi MX12_files := ⟨mW_9 (List.mem_of_getElem? (i := 136) rfl) rfl, mS_8 (List.mem_of_getElem? (i := 11) rfl) rfl⟩
def MX12_isRow : gM := (yX12_isRow, cX12_isRow, 7, (some .boolean))
theorem kX12_isRow : gCd MX12_isRow 3 := ⟨mW_9 (List.mem_of_getElem? (i := 133) rfl) rfl, mW_1 (List.mem_of_getElem? (i := 17) rfl) rfl, ⟨by decide, by decide, by decide +kernel⟩, by decide⟩
theorem vX12_isRow : gVi MX12_isRow := ⟨mW_9 (List.mem_of_getElem? (i := 132) rfl) rfl, mS_8 (List.mem_of_getElem? (i := 10) rfl) rfl⟩
def MX12_order : gM := (yX12_order, cX12_order, 10, (some .int))
theorem kX12_order : gCd MX12_order 3 := ⟨mW_9 (List.mem_of_getElem? (i := 114) rfl) rfl, mW_1 (List.mem_of_getElem? (i := 17) rfl) rfl, ⟨by decide, by decide, by decide +kernel⟩, by decide⟩
theorem vX12_order : gVi MX12_order := ⟨mW_9 (List.mem_of_getElem? (i := 112) rfl) rfl, mW_9 (List.mem_of_getElem? (i := 113) rfl) rfl⟩
def MX12_behindIt : gM := (yX12_behindIt, cX12_behindIt, 7, (some .int))
theorem kX12_behindIt : gCd MX12_behindIt 3 := ⟨mW_9 (List.mem_of_getElem? (i := 165) rfl) rfl, mW_1 (List.mem_of_getElem? (i := 17) rfl) rfl, ⟨by decide, by decide, by decide +kernel⟩, by decide⟩
theorem vX12_behindIt : gVi MX12_behindIt := ⟨mW_9 (List.mem_of_getElem? (i := 164) rfl) rfl, mS_9 (List.mem_of_getElem? (i := 1) rfl) rfl⟩
def MX12_lead : gM := (yX12_lead, cX12_lead, 8, (some .int))
theorem kX12_lead : gCd MX12_lead 3 := ⟨mW_9 (List.mem_of_getElem? (i := 161) rfl) rfl, mW_1 (List.mem_of_getElem? (i := 17) rfl) rfl, ⟨by decide, by decide, by decide +kernel⟩, by decide⟩
theorem vX12_lead : gVi MX12_lead := ⟨mW_9 (List.mem_of_getElem? (i := 159) rfl) rfl, mW_9 (List.mem_of_getElem? (i := 160) rfl) rfl⟩
def MX12_liesBest : gM := (yX12_liesBest, cX12_liesBest, 4, (some .int))
theorem kX12_liesBest : gCd MX12_liesBest 1 := ⟨mW_9 (List.mem_of_getElem? (i := 181) rfl) rfl, mW_1 (List.mem_of_getElem? (i := 17) rfl) rfl, ⟨by decide, by decide, by decide +kernel⟩, by decide⟩
theorem vX12_liesBest : gVi MX12_liesBest := ⟨mW_9 (List.mem_of_getElem? (i := 180) rfl) rfl, mS_9 (List.mem_of_getElem? (i := 4) rfl) rfl⟩
def MX12_asksOne : gM := (yX12_asksOne, cX12_asksOne, 6, (some .boolean))
theorem kX12_asksOne : gCd MX12_asksOne 1 := ⟨mW_9 (List.mem_of_getElem? (i := 177) rfl) rfl, mW_1 (List.mem_of_getElem? (i := 17) rfl) rfl, ⟨by decide, by decide, by decide +kernel⟩, by decide⟩
theorem vX12_asksOne : gVi MX12_asksOne := ⟨mW_9 (List.mem_of_getElem? (i := 176) rfl) rfl, mS_9 (List.mem_of_getElem? (i := 3) rfl) rfl⟩
def MX12_isFree : gM := (yX12_isFree, cX12_isFree, 3, (some .boolean))
theorem kX12_isFree : gCd MX12_isFree 1 := ⟨mW_9 (List.mem_of_getElem? (i := 173) rfl) rfl, mW_1 (List.mem_of_getElem? (i := 17) rfl) rfl, ⟨by decide, by decide, by decide +kernel⟩, by decide⟩
theorem vX12_isFree : gVi MX12_isFree := ⟨mW_9 (List.mem_of_getElem? (i := 172) rfl) rfl, mS_9 (List.mem_of_getElem? (i := 2) rfl) rfl⟩
def MX12_match : gM := (yX12_match, cX12_match, 4, (some .int))
theorem kX12_match : gCd MX12_match 1 := ⟨mW_9 (List.mem_of_getElem? (i := 169) rfl) rfl, mW_1 (List.mem_of_getElem? (i := 17) rfl) rfl, ⟨by decide, by decide, by decide +kernel⟩, by decide⟩
theorem vX12_match : gVi MX12_match := ⟨mW_9 (List.mem_of_getElem? (i := 167) rfl) rfl, mW_9 (List.mem_of_getElem? (i := 168) rfl) rfl⟩
def MX12_trials : gM := (yX12_trials, cX12_trials, 5, (some .int))
theorem kX12_trials : gCd MX12_trials 1 := ⟨mW_9 (List.mem_of_getElem? (i := 185) rfl) rfl, mW_1 (List.mem_of_getElem? (i := 17) rfl) rfl, ⟨by decide, by decide, by decide +kernel⟩, by decide⟩
theorem vX12_trials : gVi MX12_trials := ⟨mW_9 (List.mem_of_getElem? (i := 183) rfl) rfl, mW_9 (List.mem_of_getElem? (i := 184) rfl) rfl⟩
def MX12_canTrust : gM := (yX12_canTrust, cX12_canTrust, 3, (some .boolean))
theorem kX12_canTrust : gCd MX12_canTrust 1 := ⟨mW_9 (List.mem_of_getElem? (i := 194) rfl) rfl, mW_1 (List.mem_of_getElem? (i := 17) rfl) rfl, ⟨by decide, by decide, by decide +kernel⟩, by decide⟩
theorem vX12_canTrust : gVi MX12_canTrust := ⟨mW_9 (List.mem_of_getElem? (i := 193) rfl) rfl, mS_9 (List.mem_of_getElem? (i := 5) rfl) rfl⟩
def MX12_trusts : gM := (yX12_trusts, cX12_trusts, 6, (some .int))
theorem kX12_trusts : gCd MX12_trusts 1 := ⟨mW_9 (List.mem_of_getElem? (i := 189) rfl) rfl, mW_1 (List.mem_of_getElem? (i := 17) rfl) rfl, ⟨by decide, by decide, by decide +kernel⟩, by decide⟩
theorem vX12_trusts : gVi MX12_trusts := ⟨mW_9 (List.mem_of_getElem? (i := 187) rfl) rfl, mW_9 (List.mem_of_getElem? (i := 188) rfl) rfl⟩
def MX12_next : gM := (yX12_next, cX12_next, 8, (some .int))
theorem kX12_next : gCd MX12_next 1 := ⟨mW_9 (List.mem_of_getElem? (i := 198) rfl) rfl, mW_1 (List.mem_of_getElem? (i := 17) rfl) rfl, ⟨by decide, by decide, by decide +kernel⟩, by decide⟩
theorem vX12_next : gVi MX12_next := ⟨mW_9 (List.mem_of_getElem? (i := 196) rfl) rfl, mW_9 (List.mem_of_getElem? (i := 197) rfl) rfl⟩
def MX12_keeps : gM := (yX12_keeps, cX12_keeps, 2, none)
theorem kX12_keeps : gCd MX12_keeps 0 := ⟨mW_9 (List.mem_of_getElem? (i := 214) rfl) rfl, mW_1 (List.mem_of_getElem? (i := 17) rfl) rfl, ⟨by decide, by decide, by decide +kernel⟩, by decide⟩
theorem vX12_keeps : gVi MX12_keeps := ⟨mW_9 (List.mem_of_getElem? (i := 213) rfl) rfl, mS_9 (List.mem_of_getElem? (i := 7) rfl) rfl⟩
def MX12_undo : gM := (yX12_undo, cX12_undo, 2, (some .boolean))
theorem kX12_undo : gCd MX12_undo 0 := ⟨mW_9 (List.mem_of_getElem? (i := 202) rfl) rfl, mW_1 (List.mem_of_getElem? (i := 17) rfl) rfl, ⟨by decide, by decide, by decide +kernel⟩, by decide⟩
theorem vX12_undo : gVi MX12_undo := ⟨mW_9 (List.mem_of_getElem? (i := 200) rfl) rfl, mW_9 (List.mem_of_getElem? (i := 201) rfl) rfl⟩
def MX12_refuses : gM := (yX12_refuses, cX12_refuses, 2, (some .int))
theorem kX12_refuses : gCd MX12_refuses 1 := ⟨mW_9 (List.mem_of_getElem? (i := 210) rfl) rfl, mW_1 (List.mem_of_getElem? (i := 17) rfl) rfl, ⟨by decide, by decide, by decide +kernel⟩, by decide⟩
theorem vX12_refuses : gVi MX12_refuses := ⟨mW_9 (List.mem_of_getElem? (i := 209) rfl) rfl, mS_9 (List.mem_of_getElem? (i := 6) rfl) rfl⟩
def MX12_go : gM := (yX12_go, cX12_go, 3, (some .int))
theorem kX12_go : gCd MX12_go 2 := ⟨mW_9 (List.mem_of_getElem? (i := 206) rfl) rfl, mW_1 (List.mem_of_getElem? (i := 17) rfl) rfl, ⟨by decide, by decide, by decide +kernel⟩, by decide⟩
theorem vX12_go : gVi MX12_go := ⟨mW_9 (List.mem_of_getElem? (i := 204) rfl) rfl, mW_9 (List.mem_of_getElem? (i := 205) rfl) rfl⟩
def MX12_file : gM := (yX12_file, cX12_file, 6, (some .int))
theorem kX12_file : gCd MX12_file 1 := ⟨mW_9 (List.mem_of_getElem? (i := 218) rfl) rfl, mW_1 (List.mem_of_getElem? (i := 17) rfl) rfl, ⟨by decide, by decide, by decide +kernel⟩, by decide⟩
theorem vX12_file : gVi MX12_file := ⟨mW_9 (List.mem_of_getElem? (i := 216) rfl) rfl, mW_9 (List.mem_of_getElem? (i := 217) rfl) rfl⟩
def MX12_coax : gM := (yX12_coax, cX12_coax, 5, (some .int))
theorem kX12_coax : gCd MX12_coax 2 := ⟨mW_9 (List.mem_of_getElem? (i := 223) rfl) rfl, mW_1 (List.mem_of_getElem? (i := 17) rfl) rfl, ⟨by decide, by decide, by decide +kernel⟩, by decide⟩
theorem vX12_coax : gVi MX12_coax := ⟨mW_9 (List.mem_of_getElem? (i := 221) rfl) rfl, mW_9 (List.mem_of_getElem? (i := 222) rfl) rfl⟩
def MX12_man : gM := (yX12_man, cX12_man, 4, (some .boolean))
theorem kX12_man : gCd MX12_man 2 := ⟨mW_9 (List.mem_of_getElem? (i := 228) rfl) rfl, mW_1 (List.mem_of_getElem? (i := 17) rfl) rfl, ⟨by decide, by decide, by decide +kernel⟩, by decide⟩
theorem vX12_man : gVi MX12_man := ⟨mW_9 (List.mem_of_getElem? (i := 226) rfl) rfl, mW_9 (List.mem_of_getElem? (i := 227) rfl) rfl⟩
def MX12_hours : gM := (yX12_hours, cX12_hours, 2, (some .int))
theorem kX12_hours : gCd MX12_hours 1 := ⟨mW_9 (List.mem_of_getElem? (i := 232) rfl) rfl, mW_1 (List.mem_of_getElem? (i := 17) rfl) rfl, ⟨by decide, by decide, by decide +kernel⟩, by decide⟩
theorem vX12_hours : gVi MX12_hours := ⟨mW_9 (List.mem_of_getElem? (i := 230) rfl) rfl, mW_9 (List.mem_of_getElem? (i := 231) rfl) rfl⟩
def MX12_seed : gM := (yX12_seed, cX12_seed, 2, (some .boolean))
theorem kX12_seed : gCd MX12_seed 1 := ⟨mW_9 (List.mem_of_getElem? (i := 237) rfl) rfl, mW_1 (List.mem_of_getElem? (i := 17) rfl) rfl, ⟨by decide, by decide, by decide +kernel⟩, by decide⟩
theorem vX12_seed : gVi MX12_seed := ⟨mW_9 (List.mem_of_getElem? (i := 235) rfl) rfl, mW_9 (List.mem_of_getElem? (i := 236) rfl) rfl⟩
def MX12_drawOf : gM := (yX12_drawOf, cX12_drawOf, 2, (some .int))
theorem kX12_drawOf : gCd MX12_drawOf 1 := ⟨mW_10 (List.mem_of_getElem? (i := 6) rfl) rfl, mW_1 (List.mem_of_getElem? (i := 17) rfl) rfl, ⟨by decide, by decide, by decide +kernel⟩, by decide⟩
theorem vX12_drawOf : gVi MX12_drawOf := ⟨mW_10 (List.mem_of_getElem? (i := 5) rfl) rfl, mS_9 (List.mem_of_getElem? (i := 8) rfl) rfl⟩
def MX12_drift : gM := (yX12_drift, cX12_drift, 6, (some .int))
theorem kX12_drift : gCd MX12_drift 1 := ⟨mW_10 (List.mem_of_getElem? (i := 1) rfl) rfl, mW_1 (List.mem_of_getElem? (i := 17) rfl) rfl, ⟨by decide, by decide, by decide +kernel⟩, by decide⟩
theorem vX12_drift : gVi MX12_drift := ⟨mW_9 (List.mem_of_getElem? (i := 239) rfl) rfl, mW_10 (List.mem_of_getElem? (i := 0) rfl) rfl⟩
def MX12_qCode : gM := (yX12_qCode, cX12_qCode, 2, none)
theorem kX12_qCode : gCd MX12_qCode 1 := ⟨mW_10 (List.mem_of_getElem? (i := 35) rfl) rfl, mW_1 (List.mem_of_getElem? (i := 17) rfl) rfl, ⟨by decide, by decide, by decide +kernel⟩, by decide⟩
theorem vX12_qCode : gVi MX12_qCode := ⟨mW_10 (List.mem_of_getElem? (i := 34) rfl) rfl, mS_9 (List.mem_of_getElem? (i := 13) rfl) rfl⟩
def MX12_qOpens : gM := (yX12_qOpens, cX12_qOpens, 3, none)
theorem kX12_qOpens : gCd MX12_qOpens 2 := ⟨mW_10 (List.mem_of_getElem? (i := 27) rfl) rfl, mW_1 (List.mem_of_getElem? (i := 17) rfl) rfl, ⟨by decide, by decide, by decide +kernel⟩, by decide⟩
theorem vX12_qOpens : gVi MX12_qOpens := ⟨mW_10 (List.mem_of_getElem? (i := 26) rfl) rfl, mS_9 (List.mem_of_getElem? (i := 11) rfl) rfl⟩
def MX12_qIsOn : gM := (yX12_qIsOn, cX12_qIsOn, 2, (some .boolean))
theorem kX12_qIsOn : gCd MX12_qIsOn 1 := ⟨mW_10 (List.mem_of_getElem? (i := 82) rfl) rfl, mW_1 (List.mem_of_getElem? (i := 17) rfl) rfl, ⟨by decide, by decide, by decide +kernel⟩, by decide⟩
theorem vX12_qIsOn : gVi MX12_qIsOn := ⟨mW_10 (List.mem_of_getElem? (i := 81) rfl) rfl, mS_10 (List.mem_of_getElem? (i := 8) rfl) rfl⟩
def MX12_qDrops : gM := (yX12_qDrops, cX12_qDrops, 1, none)
theorem kX12_qDrops : gCd MX12_qDrops 0 := ⟨mW_10 (List.mem_of_getElem? (i := 63) rfl) rfl, mW_1 (List.mem_of_getElem? (i := 17) rfl) rfl, ⟨by decide, by decide, by decide +kernel⟩, by decide⟩
theorem vX12_qDrops : gVi MX12_qDrops := ⟨mW_10 (List.mem_of_getElem? (i := 62) rfl) rfl, mS_10 (List.mem_of_getElem? (i := 4) rfl) rfl⟩
def MX12_qIsBracket : gM := (yX12_qIsBracket, cX12_qIsBracket, 1, (some .boolean))
theorem kX12_qIsBracket : gCd MX12_qIsBracket 1 := ⟨mW_10 (List.mem_of_getElem? (i := 74) rfl) rfl, mW_1 (List.mem_of_getElem? (i := 17) rfl) rfl, ⟨by decide, by decide, by decide +kernel⟩, by decide⟩
theorem sX12_qIsBracket : gSt MX12_qIsBracket := mW_10 (List.mem_of_getElem? (i := 73) rfl) rfl
def MX12_qBracket : gM := (yX12_qBracket, cX12_qBracket, 2, (some .int))
theorem kX12_qBracket : gCd MX12_qBracket 0 := ⟨mW_10 (List.mem_of_getElem? (i := 71) rfl) rfl, mW_1 (List.mem_of_getElem? (i := 17) rfl) rfl, ⟨by decide, by decide, by decide +kernel⟩, by decide⟩
theorem vX12_qBracket : gVi MX12_qBracket := ⟨mW_10 (List.mem_of_getElem? (i := 70) rfl) rfl, mS_10 (List.mem_of_getElem? (i := 6) rfl) rfl⟩
def MX12_qDropsToBracket : gM := (yX12_qDropsToBracket, cX12_qDropsToBracket, 1, none)
theorem kX12_qDropsToBracket : gCd MX12_qDropsToBracket 0 := ⟨mW_10 (List.mem_of_getElem? (i := 78) rfl) rfl, mW_1 (List.mem_of_getElem? (i := 17) rfl) rfl, ⟨by decide, by decide, by decide +kernel⟩, by decide⟩
theorem vX12_qDropsToBracket : gVi MX12_qDropsToBracket := ⟨mW_10 (List.mem_of_getElem? (i := 77) rfl) rfl, mS_10 (List.mem_of_getElem? (i := 7) rfl) rfl⟩
def MX12_qWordHere : gM := (yX12_qWordHere, cX12_qWordHere, 1, (some .int))
theorem kX12_qWordHere : gCd MX12_qWordHere 0 := ⟨mW_10 (List.mem_of_getElem? (i := 51) rfl) rfl, mW_1 (List.mem_of_getElem? (i := 17) rfl) rfl, ⟨by decide, by decide, by decide +kernel⟩, by decide⟩
theorem vX12_qWordHere : gVi MX12_qWordHere := ⟨mW_10 (List.mem_of_getElem? (i := 50) rfl) rfl, mS_10 (List.mem_of_getElem? (i := 1) rfl) rfl⟩
def MX12_qWordOf : gM := (yX12_qWordOf, cX12_qWordOf, 4, (some .int))
theorem kX12_qWordOf : gCd MX12_qWordOf 2 := ⟨mW_10 (List.mem_of_getElem? (i := 47) rfl) rfl, mW_1 (List.mem_of_getElem? (i := 17) rfl) rfl, ⟨by decide, by decide, by decide +kernel⟩, by decide⟩
theorem vX12_qWordOf : gVi MX12_qWordOf := ⟨mW_10 (List.mem_of_getElem? (i := 46) rfl) rfl, mS_10 (List.mem_of_getElem? (i := 0) rfl) rfl⟩
def MX12_qAsksWord : gM := (yX12_qAsksWord, cX12_qAsksWord, 2, none)
theorem kX12_qAsksWord : gCd MX12_qAsksWord 1 := ⟨mW_10 (List.mem_of_getElem? (i := 55) rfl) rfl, mW_1 (List.mem_of_getElem? (i := 17) rfl) rfl, ⟨by decide, by decide, by decide +kernel⟩, by decide⟩
theorem vX12_qAsksWord : gVi MX12_qAsksWord := ⟨mW_10 (List.mem_of_getElem? (i := 54) rfl) rfl, mS_10 (List.mem_of_getElem? (i := 2) rfl) rfl⟩
def MX12_qEndsPart : gM := (yX12_qEndsPart, cX12_qEndsPart, 1, none)
theorem kX12_qEndsPart : gCd MX12_qEndsPart 0 := ⟨mW_10 (List.mem_of_getElem? (i := 59) rfl) rfl, mW_1 (List.mem_of_getElem? (i := 17) rfl) rfl, ⟨by decide, by decide, by decide +kernel⟩, by decide⟩
theorem vX12_qEndsPart : gVi MX12_qEndsPart := ⟨mW_10 (List.mem_of_getElem? (i := 58) rfl) rfl, mS_10 (List.mem_of_getElem? (i := 3) rfl) rfl⟩
def MX12_qPartTold : gM := (yX12_qPartTold, cX12_qPartTold, 6, none)
theorem kX12_qPartTold : gCd MX12_qPartTold 0 := ⟨mW_10 (List.mem_of_getElem? (i := 43) rfl) rfl, mW_1 (List.mem_of_getElem? (i := 17) rfl) rfl, ⟨by decide, by decide, by decide +kernel⟩, by decide⟩
theorem vX12_qPartTold : gVi MX12_qPartTold := ⟨mW_10 (List.mem_of_getElem? (i := 42) rfl) rfl, mS_9 (List.mem_of_getElem? (i := 15) rfl) rfl⟩
def MX12_qGoesOn : gM := (yX12_qGoesOn, cX12_qGoesOn, 2, (some .boolean))
theorem kX12_qGoesOn : gCd MX12_qGoesOn 0 := ⟨mW_10 (List.mem_of_getElem? (i := 67) rfl) rfl, mW_1 (List.mem_of_getElem? (i := 17) rfl) rfl, ⟨by decide, by decide, by decide +kernel⟩, by decide⟩
theorem vX12_qGoesOn : gVi MX12_qGoesOn := ⟨mW_10 (List.mem_of_getElem? (i := 66) rfl) rfl, mS_10 (List.mem_of_getElem? (i := 5) rfl) rfl⟩
def MX12_qSums : gM := (yX12_qSums, cX12_qSums, 3, none)
theorem kX12_qSums : gCd MX12_qSums 0 := ⟨mW_10 (List.mem_of_getElem? (i := 39) rfl) rfl, mW_1 (List.mem_of_getElem? (i := 17) rfl) rfl, ⟨by decide, by decide, by decide +kernel⟩, by decide⟩
theorem vX12_qSums : gVi MX12_qSums := ⟨mW_10 (List.mem_of_getElem? (i := 38) rfl) rfl, mS_9 (List.mem_of_getElem? (i := 14) rfl) rfl⟩
def MX12_qFact : gM := (yX12_qFact, cX12_qFact, 2, none)
theorem kX12_qFact : gCd MX12_qFact 0 := ⟨mW_10 (List.mem_of_getElem? (i := 31) rfl) rfl, mW_1 (List.mem_of_getElem? (i := 17) rfl) rfl, ⟨by decide, by decide, by decide +kernel⟩, by decide⟩
theorem vX12_qFact : gVi MX12_qFact := ⟨mW_10 (List.mem_of_getElem? (i := 30) rfl) rfl, mS_9 (List.mem_of_getElem? (i := 12) rfl) rfl⟩
def MX12_qHasSquare : gM := (yX12_qHasSquare, cX12_qHasSquare, 2, (some .boolean))
theorem kX12_qHasSquare : gCd MX12_qHasSquare 0 := ⟨mW_10 (List.mem_of_getElem? (i := 94) rfl) rfl, mW_1 (List.mem_of_getElem? (i := 17) rfl) rfl, ⟨by decide, by decide, by decide +kernel⟩, by decide⟩
theorem vX12_qHasSquare : gVi MX12_qHasSquare := ⟨mW_10 (List.mem_of_getElem? (i := 93) rfl) rfl, mS_10 (List.mem_of_getElem? (i := 11) rfl) rfl⟩
def MX12_qDropsNots : gM := (yX12_qDropsNots, cX12_qDropsNots, 1, none)
theorem kX12_qDropsNots : gCd MX12_qDropsNots 0 := ⟨mW_10 (List.mem_of_getElem? (i := 86) rfl) rfl, mW_1 (List.mem_of_getElem? (i := 17) rfl) rfl, ⟨by decide, by decide, by decide +kernel⟩, by decide⟩
theorem vX12_qDropsNots : gVi MX12_qDropsNots := ⟨mW_10 (List.mem_of_getElem? (i := 85) rfl) rfl, mS_10 (List.mem_of_getElem? (i := 9) rfl) rfl⟩
def MX12_qTest : gM := (yX12_qTest, cX12_qTest, 3, none)
theorem kX12_qTest : gCd MX12_qTest 0 := ⟨mW_10 (List.mem_of_getElem? (i := 23) rfl) rfl, mW_1 (List.mem_of_getElem? (i := 17) rfl) rfl, ⟨by decide, by decide, by decide +kernel⟩, by decide⟩
theorem vX12_qTest : gVi MX12_qTest := ⟨mW_10 (List.mem_of_getElem? (i := 22) rfl) rfl, mS_9 (List.mem_of_getElem? (i := 10) rfl) rfl⟩
def MX12_qGoesOnTest : gM := (yX12_qGoesOnTest, cX12_qGoesOnTest, 1, (some .boolean))
theorem kX12_qGoesOnTest : gCd MX12_qGoesOnTest 0 := ⟨mW_10 (List.mem_of_getElem? (i := 90) rfl) rfl, mW_1 (List.mem_of_getElem? (i := 17) rfl) rfl, ⟨by decide, by decide, by decide +kernel⟩, by decide⟩
theorem vX12_qGoesOnTest : gVi MX12_qGoesOnTest := ⟨mW_10 (List.mem_of_getElem? (i := 89) rfl) rfl, mS_10 (List.mem_of_getElem? (i := 10) rfl) rfl⟩
def MX12_qClip : gM := (yX12_qClip, cX12_qClip, 2, (some .long))
theorem kX12_qClip : gCd MX12_qClip 1 := ⟨mW_10 (List.mem_of_getElem? (i := 110) rfl) rfl, mW_1 (List.mem_of_getElem? (i := 17) rfl) rfl, ⟨by decide, by decide, by decide +kernel⟩, by decide⟩
theorem sX12_qClip : gSt MX12_qClip := mW_10 (List.mem_of_getElem? (i := 109) rfl) rfl
def MX12_qFloor : gM := (yX12_qFloor, cX12_qFloor, 6, (some .long))
theorem kX12_qFloor : gCd MX12_qFloor 2 := ⟨mW_10 (List.mem_of_getElem? (i := 121) rfl) rfl, mW_1 (List.mem_of_getElem? (i := 17) rfl) rfl, ⟨by decide, by decide, by decide +kernel⟩, by decide⟩
theorem sX12_qFloor : gSt MX12_qFloor := mW_10 (List.mem_of_getElem? (i := 120) rfl) rfl
def MX12_qPuts : gM := (yX12_qPuts, cX12_qPuts, 3, none)
theorem kX12_qPuts : gCd MX12_qPuts 1 := ⟨mW_10 (List.mem_of_getElem? (i := 103) rfl) rfl, mW_1 (List.mem_of_getElem? (i := 17) rfl) rfl, ⟨by decide, by decide, by decide +kernel⟩, by decide⟩
theorem vX12_qPuts : gVi MX12_qPuts := ⟨mW_10 (List.mem_of_getElem? (i := 102) rfl) rfl, mS_10 (List.mem_of_getElem? (i := 13) rfl) rfl⟩
def MX12_qJoins : gM := (yX12_qJoins, cX12_qJoins, 6, none)
theorem kX12_qJoins : gCd MX12_qJoins 1 := ⟨mW_10 (List.mem_of_getElem? (i := 118) rfl) rfl, mW_1 (List.mem_of_getElem? (i := 17) rfl) rfl, ⟨by decide, by decide, by decide +kernel⟩, by decide⟩
theorem vX12_qJoins : gVi MX12_qJoins := ⟨mW_10 (List.mem_of_getElem? (i := 117) rfl) rfl, mS_11 (List.mem_of_getElem? (i := 0) rfl) rfl⟩
def MX12_qPartOf : gM := (yX12_qPartOf, cX12_qPartOf, 3, (some .long))
theorem kX12_qPartOf : gCd MX12_qPartOf 2 := ⟨mW_10 (List.mem_of_getElem? (i := 114) rfl) rfl, mW_1 (List.mem_of_getElem? (i := 17) rfl) rfl, ⟨by decide, by decide, by decide +kernel⟩, by decide⟩
theorem vX12_qPartOf : gVi MX12_qPartOf := ⟨mW_10 (List.mem_of_getElem? (i := 113) rfl) rfl, mS_10 (List.mem_of_getElem? (i := 15) rfl) rfl⟩
def MX12_qOf : gM := (yX12_qOf, cX12_qOf, 5, (some .long))
theorem kX12_qOf : gCd MX12_qOf 3 := ⟨mW_10 (List.mem_of_getElem? (i := 107) rfl) rfl, mW_1 (List.mem_of_getElem? (i := 17) rfl) rfl, ⟨by decide, by decide, by decide +kernel⟩, by decide⟩
theorem vX12_qOf : gVi MX12_qOf := ⟨mW_10 (List.mem_of_getElem? (i := 106) rfl) rfl, mS_10 (List.mem_of_getElem? (i := 14) rfl) rfl⟩
def MX12_qTold : gM := (yX12_qTold, cX12_qTold, 4, (some .long))
theorem kX12_qTold : gCd MX12_qTold 1 := ⟨mW_10 (List.mem_of_getElem? (i := 99) rfl) rfl, mW_1 (List.mem_of_getElem? (i := 17) rfl) rfl, ⟨by decide, by decide, by decide +kernel⟩, by decide⟩
theorem vX12_qTold : gVi MX12_qTold := ⟨mW_10 (List.mem_of_getElem? (i := 98) rfl) rfl, mS_10 (List.mem_of_getElem? (i := 12) rfl) rfl⟩
def MX12_qKind : gM := (yX12_qKind, cX12_qKind, 2, (some .int))
theorem kX12_qKind : gCd MX12_qKind 0 := ⟨mW_10 (List.mem_of_getElem? (i := 19) rfl) rfl, mW_1 (List.mem_of_getElem? (i := 17) rfl) rfl, ⟨by decide, by decide, by decide +kernel⟩, by decide⟩
theorem vX12_qKind : gVi MX12_qKind := ⟨mW_10 (List.mem_of_getElem? (i := 18) rfl) rfl, mS_9 (List.mem_of_getElem? (i := 9) rfl) rfl⟩
def MX12_qTakes : gM := (yX12_qTakes, cX12_qTakes, 6, none)
theorem kX12_qTakes : gCd MX12_qTakes 3 := ⟨mW_10 (List.mem_of_getElem? (i := 125) rfl) rfl, mW_1 (List.mem_of_getElem? (i := 17) rfl) rfl, ⟨by decide, by decide, by decide +kernel⟩, by decide⟩
theorem vX12_qTakes : gVi MX12_qTakes := ⟨mW_10 (List.mem_of_getElem? (i := 124) rfl) rfl, mS_11 (List.mem_of_getElem? (i := 1) rfl) rfl⟩
def MX12_ask : gM := (yX12_ask, cX12_ask, 4, (some .long))
theorem kX12_ask : gCd MX12_ask 1 := ⟨mW_10 (List.mem_of_getElem? (i := 14) rfl) rfl, mW_1 (List.mem_of_getElem? (i := 17) rfl) rfl, ⟨by decide, by decide, by decide +kernel⟩, by decide⟩
theorem vX12_ask : gVi MX12_ask := ⟨mW_10 (List.mem_of_getElem? (i := 12) rfl) rfl, mW_10 (List.mem_of_getElem? (i := 13) rfl) rfl⟩
def MX12_checked : gM := (yX12_checked, cX12_checked, 4, (some .int))
theorem kX12_checked : gCd MX12_checked 2 := ⟨mW_10 (List.mem_of_getElem? (i := 137) rfl) rfl, mW_1 (List.mem_of_getElem? (i := 17) rfl) rfl, ⟨by decide, by decide, by decide +kernel⟩, by decide⟩
theorem sX12_checked : gSt MX12_checked := mW_10 (List.mem_of_getElem? (i := 136) rfl) rfl
def MX12_writes : gM := (yX12_writes, cX12_writes, 2, none)
theorem kX12_writes : gCd MX12_writes 1 := ⟨mW_10 (List.mem_of_getElem? (i := 133) rfl) rfl, mW_1 (List.mem_of_getElem? (i := 17) rfl) rfl, ⟨by decide, by decide, by decide +kernel⟩, by decide⟩
theorem vX12_writes : gVi MX12_writes := ⟨mW_10 (List.mem_of_getElem? (i := 132) rfl) rfl, mS_11 (List.mem_of_getElem? (i := 2) rfl) rfl⟩
def MX12_image : gM := (yX12_image, cX12_image, 2, (some .int))
theorem kX12_image : gCd MX12_image 0 := ⟨mW_10 (List.mem_of_getElem? (i := 129) rfl) rfl, mW_1 (List.mem_of_getElem? (i := 17) rfl) rfl, ⟨by decide, by decide, by decide +kernel⟩, by decide⟩
theorem vX12_image : gVi MX12_image := ⟨mW_10 (List.mem_of_getElem? (i := 127) rfl) rfl, mW_10 (List.mem_of_getElem? (i := 128) rfl) rfl⟩
def MX12_octet : gM := (yX12_octet, cX12_octet, 2, (some .int))
theorem kX12_octet : gCd MX12_octet 1 := ⟨mW_10 (List.mem_of_getElem? (i := 141) rfl) rfl, mW_1 (List.mem_of_getElem? (i := 17) rfl) rfl, ⟨by decide, by decide, by decide +kernel⟩, by decide⟩
theorem vX12_octet : gVi MX12_octet := ⟨mW_10 (List.mem_of_getElem? (i := 139) rfl) rfl, mW_10 (List.mem_of_getElem? (i := 140) rfl) rfl⟩
def MX12_coinsTold : gM := (yX12_coinsTold, cX12_coinsTold, 1, (some .int))
theorem kX12_coinsTold : gCd MX12_coinsTold 0 := ⟨mW_10 (List.mem_of_getElem? (i := 153) rfl) rfl, mW_1 (List.mem_of_getElem? (i := 17) rfl) rfl, ⟨by decide, by decide, by decide +kernel⟩, by decide⟩
theorem vX12_coinsTold : gVi MX12_coinsTold := ⟨mW_10 (List.mem_of_getElem? (i := 152) rfl) rfl, mS_11 (List.mem_of_getElem? (i := 4) rfl) rfl⟩
def MX12_isBoatTold : gM := (yX12_isBoatTold, cX12_isBoatTold, 4, (some .boolean))
theorem kX12_isBoatTold : gCd MX12_isBoatTold 1 := ⟨mW_10 (List.mem_of_getElem? (i := 157) rfl) rfl, mW_1 (List.mem_of_getElem? (i := 17) rfl) rfl, ⟨by decide, by decide, by decide +kernel⟩, by decide⟩
theorem vX12_isBoatTold : gVi MX12_isBoatTold := ⟨mW_10 (List.mem_of_getElem? (i := 156) rfl) rfl, mS_11 (List.mem_of_getElem? (i := 5) rfl) rfl⟩
def MX12_isTold : gM := (yX12_isTold, cX12_isTold, 3, (some .boolean))
theorem kX12_isTold : gCd MX12_isTold 1 := ⟨mW_10 (List.mem_of_getElem? (i := 149) rfl) rfl, mW_1 (List.mem_of_getElem? (i := 17) rfl) rfl, ⟨by decide, by decide, by decide +kernel⟩, by decide⟩
theorem vX12_isTold : gVi MX12_isTold := ⟨mW_10 (List.mem_of_getElem? (i := 148) rfl) rfl, mS_11 (List.mem_of_getElem? (i := 3) rfl) rfl⟩
def MX12_on : gM := (yX12_on, cX12_on, 4, (some .boolean))
theorem kX12_on : gCd MX12_on 0 := ⟨mW_10 (List.mem_of_getElem? (i := 145) rfl) rfl, mW_1 (List.mem_of_getElem? (i := 17) rfl) rfl, ⟨by decide, by decide, by decide +kernel⟩, by decide⟩
theorem vX12_on : gVi MX12_on := ⟨mW_10 (List.mem_of_getElem? (i := 143) rfl) rfl, mW_10 (List.mem_of_getElem? (i := 144) rfl) rfl⟩
def MX12_status : gM := (yX12_status, cX12_status, 2, (some .int))
theorem kX12_status : gCd MX12_status 1 := ⟨mW_10 (List.mem_of_getElem? (i := 161) rfl) rfl, mW_1 (List.mem_of_getElem? (i := 17) rfl) rfl, ⟨by decide, by decide, by decide +kernel⟩, by decide⟩
theorem vX12_status : gVi MX12_status := ⟨mW_10 (List.mem_of_getElem? (i := 159) rfl) rfl, mW_10 (List.mem_of_getElem? (i := 160) rfl) rfl⟩
def MJ6_bitCount_0f7a4 : gM := (yJ6_bitCount_0f7a4, cJ6_bitCount_0f7a4, 1, (some .int))
theorem kJ6_bitCount_0f7a4 : gCd MJ6_bitCount_0f7a4 1 := ⟨mW_5 (List.mem_of_getElem? (i := 58) rfl) rfl, mW_1 (List.mem_of_getElem? (i := 20) rfl) rfl, ⟨by decide, by decide, by decide +kernel⟩, by decide⟩
theorem sJ6_bitCount_0f7a4 : gSt MJ6_bitCount_0f7a4 := mW_5 (List.mem_of_getElem? (i := 57) rfl) rfl
def MJ9_floorDiv_7cf53 : gM := (yJ9_floorDiv_7cf53, cJ9_floorDiv_7cf53, 3, (some .int))
theorem kJ9_floorDiv_7cf53 : gCd MJ9_floorDiv_7cf53 2 := ⟨mW_4 (List.mem_of_getElem? (i := 187) rfl) rfl, mW_1 (List.mem_of_getElem? (i := 19) rfl) rfl, ⟨by decide, by decide, by decide +kernel⟩, by decide⟩
theorem sJ9_floorDiv_7cf53 : gSt MJ9_floorDiv_7cf53 := mW_4 (List.mem_of_getElem? (i := 186) rfl) rfl
def MJ9_abs_0f7a4 : gM := (yJ9_abs_0f7a4, cJ9_abs_0f7a4, 1, (some .int))
theorem kJ9_abs_0f7a4 : gCd MJ9_abs_0f7a4 1 := ⟨mW_3 (List.mem_of_getElem? (i := 236) rfl) rfl, mW_1 (List.mem_of_getElem? (i := 19) rfl) rfl, ⟨by decide, by decide, by decide +kernel⟩, by decide⟩
theorem sJ9_abs_0f7a4 : gSt MJ9_abs_0f7a4 := mW_3 (List.mem_of_getElem? (i := 235) rfl) rfl
def MJ9_max_7cf53 : gM := (yJ9_max_7cf53, cJ9_max_7cf53, 2, (some .int))
theorem kJ9_max_7cf53 : gCd MJ9_max_7cf53 2 := ⟨mW_4 (List.mem_of_getElem? (i := 191) rfl) rfl, mW_1 (List.mem_of_getElem? (i := 19) rfl) rfl, ⟨by decide, by decide, by decide +kernel⟩, by decide⟩
theorem sJ9_max_7cf53 : gSt MJ9_max_7cf53 := mW_4 (List.mem_of_getElem? (i := 190) rfl) rfl
def MJ9_max_f86c9 : gM := (yJ9_max_f86c9, cJ9_max_f86c9, 4, (some .long))
theorem kJ9_max_f86c9 : gCd MJ9_max_f86c9 2 := ⟨mW_4 (List.mem_of_getElem? (i := 199) rfl) rfl, mW_1 (List.mem_of_getElem? (i := 19) rfl) rfl, ⟨by decide, by decide, by decide +kernel⟩, by decide⟩
theorem sJ9_max_f86c9 : gSt MJ9_max_f86c9 := mW_4 (List.mem_of_getElem? (i := 198) rfl) rfl
def MJ9_min_7cf53 : gM := (yJ9_min_7cf53, cJ9_min_7cf53, 2, (some .int))
theorem kJ9_min_7cf53 : gCd MJ9_min_7cf53 2 := ⟨mW_3 (List.mem_of_getElem? (i := 228) rfl) rfl, mW_1 (List.mem_of_getElem? (i := 19) rfl) rfl, ⟨by decide, by decide, by decide +kernel⟩, by decide⟩
theorem sJ9_min_7cf53 : gSt MJ9_min_7cf53 := mW_3 (List.mem_of_getElem? (i := 227) rfl) rfl
def MJ9_min_f86c9 : gM := (yJ9_min_f86c9, cJ9_min_f86c9, 4, (some .long))
theorem kJ9_min_f86c9 : gCd MJ9_min_f86c9 2 := ⟨mW_4 (List.mem_of_getElem? (i := 196) rfl) rfl, mW_1 (List.mem_of_getElem? (i := 19) rfl) rfl, ⟨by decide, by decide, by decide +kernel⟩, by decide⟩
theorem sJ9_min_f86c9 : gSt MJ9_min_f86c9 := mW_4 (List.mem_of_getElem? (i := 195) rfl) rfl
def MJ0_length_8abf5 : gM := (yJ0_length_8abf5, cJ0_length_8abf5, 1, (some .int))
theorem kJ0_length_8abf5 : gCd MJ0_length_8abf5 0 := ⟨mW_1 (List.mem_of_getElem? (i := 40) rfl) rfl, mW_1 (List.mem_of_getElem? (i := 3) rfl) rfl, ⟨by decide, by decide, by decide +kernel⟩, by decide⟩
theorem vJ0_length_8abf5 : gVi MJ0_length_8abf5 := ⟨mW_1 (List.mem_of_getElem? (i := 38) rfl) rfl, mW_1 (List.mem_of_getElem? (i := 39) rfl) rfl⟩
def MJ0_charAt_5068e : gM := (yJ0_charAt_5068e, cJ0_charAt_5068e, 2, (some .char))
theorem kJ0_charAt_5068e : gCd MJ0_charAt_5068e 1 := ⟨mW_1 (List.mem_of_getElem? (i := 50) rfl) rfl, mW_1 (List.mem_of_getElem? (i := 3) rfl) rfl, ⟨by decide, by decide, by decide +kernel⟩, by decide⟩
theorem vJ0_charAt_5068e : gVi MJ0_charAt_5068e := ⟨mW_1 (List.mem_of_getElem? (i := 48) rfl) rfl, mW_1 (List.mem_of_getElem? (i := 49) rfl) rfl⟩
def MJ0_coder_7d493 : gM := (yJ0_coder_7d493, cJ0_coder_7d493, 1, (some .byte))
theorem kJ0_coder_7d493 : gCd MJ0_coder_7d493 0 := ⟨mW_1 (List.mem_of_getElem? (i := 44) rfl) rfl, mW_1 (List.mem_of_getElem? (i := 3) rfl) rfl, ⟨by decide, by decide, by decide +kernel⟩, by decide⟩
theorem vJ0_coder_7d493 : gVi MJ0_coder_7d493 := ⟨mW_1 (List.mem_of_getElem? (i := 42) rfl) rfl, mW_1 (List.mem_of_getElem? (i := 43) rfl) rfl⟩
def MJ0_isLatin1_aae02 : gM := (yJ0_isLatin1_aae02, cJ0_isLatin1_aae02, 1, (some .boolean))
theorem kJ0_isLatin1_aae02 : gCd MJ0_isLatin1_aae02 0 := ⟨mW_1 (List.mem_of_getElem? (i := 54) rfl) rfl, mW_1 (List.mem_of_getElem? (i := 3) rfl) rfl, ⟨by decide, by decide, by decide +kernel⟩, by decide⟩
theorem vJ0_isLatin1_aae02 : gVi MJ0_isLatin1_aae02 := ⟨mW_1 (List.mem_of_getElem? (i := 52) rfl) rfl, mW_1 (List.mem_of_getElem? (i := 53) rfl) rfl⟩
def MJ0_checkIndex_df160 : gM := (yJ0_checkIndex_df160, cJ0_checkIndex_df160, 2, none)
theorem kJ0_checkIndex_df160 : gCd MJ0_checkIndex_df160 2 := ⟨mW_1 (List.mem_of_getElem? (i := 60) rfl) rfl, mW_1 (List.mem_of_getElem? (i := 3) rfl) rfl, ⟨by decide, by decide, by decide +kernel⟩, by decide⟩
theorem sJ0_checkIndex_df160 : gSt MJ0_checkIndex_df160 := mW_1 (List.mem_of_getElem? (i := 59) rfl) rfl
def MJ1_charAt_3b067 : gM := (yJ1_charAt_3b067, cJ1_charAt_3b067, 2, (some .char))
theorem kJ1_charAt_3b067 : gCd MJ1_charAt_3b067 2 := ⟨mW_1 (List.mem_of_getElem? (i := 57) rfl) rfl, mW_1 (List.mem_of_getElem? (i := 4) rfl) rfl, ⟨by decide, by decide, by decide +kernel⟩, by decide⟩
theorem sJ1_charAt_3b067 : gSt MJ1_charAt_3b067 := mW_1 (List.mem_of_getElem? (i := 56) rfl) rfl
def MJ2_getChar_3b067 : gM := (yJ2_getChar_3b067, cJ2_getChar_3b067, 2, (some .char))
theorem kJ2_getChar_3b067 : gCd MJ2_getChar_3b067 2 := ⟨mW_1 (List.mem_of_getElem? (i := 78) rfl) rfl, mW_1 (List.mem_of_getElem? (i := 6) rfl) rfl, ⟨by decide, by decide, by decide +kernel⟩, by decide⟩
theorem sJ2_getChar_3b067 : gSt MJ2_getChar_3b067 := mW_1 (List.mem_of_getElem? (i := 77) rfl) rfl
def MJ2_length_9d52b : gM := (yJ2_length_9d52b, cJ2_length_9d52b, 1, (some .int))
theorem kJ2_length_9d52b : gCd MJ2_length_9d52b 1 := ⟨mW_1 (List.mem_of_getElem? (i := 74) rfl) rfl, mW_1 (List.mem_of_getElem? (i := 6) rfl) rfl, ⟨by decide, by decide, by decide +kernel⟩, by decide⟩
theorem sJ2_length_9d52b : gSt MJ2_length_9d52b := mW_1 (List.mem_of_getElem? (i := 73) rfl) rfl
def MJ2_charAt_3b067 : gM := (yJ2_charAt_3b067, cJ2_charAt_3b067, 2, (some .char))
theorem kJ2_charAt_3b067 : gCd MJ2_charAt_3b067 2 := ⟨mW_1 (List.mem_of_getElem? (i := 68) rfl) rfl, mW_1 (List.mem_of_getElem? (i := 6) rfl) rfl, ⟨by decide, by decide, by decide +kernel⟩, by decide⟩
theorem sJ2_charAt_3b067 : gSt MJ2_charAt_3b067 := mW_1 (List.mem_of_getElem? (i := 67) rfl) rfl
def MJ2_checkIndex_2214a : gM := (yJ2_checkIndex_2214a, cJ2_checkIndex_2214a, 2, none)
theorem kJ2_checkIndex_2214a : gCd MJ2_checkIndex_2214a 2 := ⟨mW_1 (List.mem_of_getElem? (i := 71) rfl) rfl, mW_1 (List.mem_of_getElem? (i := 6) rfl) rfl, ⟨by decide, by decide, by decide +kernel⟩, by decide⟩
theorem sJ2_checkIndex_2214a : gSt MJ2_checkIndex_2214a := mW_1 (List.mem_of_getElem? (i := 70) rfl) rfl
def MJ7_fill_53178 : gM := (yJ7_fill_53178, cJ7_fill_53178, 4, none)
theorem kJ7_fill_53178 : gCd MJ7_fill_53178 2 := ⟨mW_3 (List.mem_of_getElem? (i := 32) rfl) rfl, mW_1 (List.mem_of_getElem? (i := 18) rfl) rfl, ⟨by decide, by decide, by decide +kernel⟩, by decide⟩
theorem sJ7_fill_53178 : gSt MJ7_fill_53178 := mW_3 (List.mem_of_getElem? (i := 31) rfl) rfl
def MJ3_checkIndex_8e157 : gM := (yJ3_checkIndex_8e157, cJ3_checkIndex_8e157, 3, (some .int))
theorem kJ3_checkIndex_8e157 : gCd MJ3_checkIndex_8e157 3 := ⟨mW_1 (List.mem_of_getElem? (i := 65) rfl) rfl, mW_1 (List.mem_of_getElem? (i := 5) rfl) rfl, ⟨by decide, by decide, by decide +kernel⟩, by decide⟩
theorem sJ3_checkIndex_8e157 : gSt MJ3_checkIndex_8e157 := mW_1 (List.mem_of_getElem? (i := 64) rfl) rfl
