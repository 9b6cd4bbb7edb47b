set_option maxRecDepth 20000 in
theorem k_X0_init : mdI m_X0_init 2 := ⟨mdB_ok (by decide +kernel), wG_in tb_2 37 (by decide +kernel) rfl, wG_in tb_1 8 (by decide +kernel) rfl, wG_in tb_2 38 rfl rfl⟩
set_option maxRecDepth 20000 in
theorem k_X0_lay : mdV m_X0_lay 4 := ⟨mdB_ok (by decide +kernel), wG_in tb_5 21 (by decide +kernel) rfl, wG_in tb_5 22 (by decide +kernel) rfl, wG_in tb_1 8 (by decide +kernel) rfl, wG_in tb_5 23 rfl rfl⟩
set_option maxRecDepth 20000 in
theorem k_X0_nextPage : mdV m_X0_nextPage 2 := ⟨mdB_ok (by decide +kernel), wG_in tb_5 32 (by decide +kernel) rfl, wG_in tp_3 4 (by decide +kernel) rfl, wG_in tb_1 8 (by decide +kernel) rfl, wG_in tb_5 33 rfl rfl⟩
set_option maxRecDepth 20000 in
theorem k_X0_readBy : mdV m_X0_readBy 1 := ⟨mdB_ok (by decide +kernel), wG_in tb_5 44 (by decide +kernel) rfl, wG_in tb_5 45 (by decide +kernel) rfl, wG_in tb_1 8 (by decide +kernel) rfl, wG_in tb_5 46 rfl rfl⟩
set_option maxRecDepth 20000 in
theorem k_X0_stopBy : mdV m_X0_stopBy 1 := ⟨mdB_ok (by decide +kernel), wG_in tb_5 48 (by decide +kernel) rfl, wG_in tb_5 49 (by decide +kernel) rfl, wG_in tb_1 8 (by decide +kernel) rfl, wG_in tb_5 50 rfl rfl⟩
set_option maxRecDepth 20000 in
theorem k_X0_beginOf : mdV m_X0_beginOf 1 := ⟨mdB_ok (by decide +kernel), wG_in tb_5 53 (by decide +kernel) rfl, wG_in tb_5 54 (by decide +kernel) rfl, wG_in tb_1 8 (by decide +kernel) rfl, wG_in tb_5 55 rfl rfl⟩
set_option maxRecDepth 20000 in
theorem k_X1_init : mdI m_X1_init 3 := ⟨mdB_ok (by decide +kernel), wG_in tb_2 67 (by decide +kernel) rfl, wG_in tb_1 9 (by decide +kernel) rfl, wG_in tb_2 68 rfl rfl⟩
set_option maxRecDepth 20000 in
theorem k_X1_foresee : mdV m_X1_foresee 1 := ⟨mdB_ok (by decide +kernel), wG_in tb_5 10 (by decide +kernel) rfl, wG_in tb_5 11 (by decide +kernel) rfl, wG_in tb_1 9 (by decide +kernel) rfl, wG_in tb_5 12 rfl rfl⟩
set_option maxRecDepth 20000 in
theorem k_X1_draftAt : mdV m_X1_draftAt 2 := ⟨mdB_ok (by decide +kernel), wG_in tb_5 15 (by decide +kernel) rfl, wG_in tp_3 3 (by decide +kernel) rfl, wG_in tb_1 9 (by decide +kernel) rfl, wG_in tb_5 16 rfl rfl⟩
set_option maxRecDepth 20000 in
theorem k_X1_follow : mdV m_X1_follow 2 := ⟨mdB_ok (by decide +kernel), wG_in tb_5 41 (by decide +kernel) rfl, wG_in tp_3 5 (by decide +kernel) rfl, wG_in tb_1 9 (by decide +kernel) rfl, wG_in tb_5 42 rfl rfl⟩
set_option maxRecDepth 20000 in
theorem k_X1_happen : mdV m_X1_happen 0 := ⟨mdB_ok (by decide +kernel), wG_in tb_5 136 (by decide +kernel) rfl, wG_in tb_5 137 (by decide +kernel) rfl, wG_in tb_1 9 (by decide +kernel) rfl, wG_in tb_5 138 rfl rfl⟩
set_option maxRecDepth 20000 in
theorem k_X1_allRead : mdV m_X1_allRead 0 := ⟨mdB_ok (by decide +kernel), wG_in tb_5 62 (by decide +kernel) rfl, wG_in tb_5 63 (by decide +kernel) rfl, wG_in tb_1 9 (by decide +kernel) rfl, wG_in tb_5 64 rfl rfl⟩
set_option maxRecDepth 20000 in
theorem k_X1_allLight : mdV m_X1_allLight 0 := ⟨mdB_ok (by decide +kernel), wG_in tb_5 66 (by decide +kernel) rfl, wG_in tb_5 67 (by decide +kernel) rfl, wG_in tb_1 9 (by decide +kernel) rfl, wG_in tb_5 68 rfl rfl⟩
set_option maxRecDepth 20000 in
theorem k_X1_allWax : mdV m_X1_allWax 0 := ⟨mdB_ok (by decide +kernel), wG_in tb_5 70 (by decide +kernel) rfl, wG_in tb_5 71 (by decide +kernel) rfl, wG_in tb_1 9 (by decide +kernel) rfl, wG_in tb_5 72 rfl rfl⟩
set_option maxRecDepth 20000 in
theorem k_X1_idle : mdV m_X1_idle 0 := ⟨mdB_ok (by decide +kernel), wG_in tb_5 74 (by decide +kernel) rfl, wG_in tb_5 75 (by decide +kernel) rfl, wG_in tb_1 9 (by decide +kernel) rfl, wG_in tb_5 76 rfl rfl⟩
set_option maxRecDepth 20000 in
theorem k_X2_init : mdI m_X2_init 1 := ⟨mdB_ok (by decide +kernel), wG_in tb_1 203 (by decide +kernel) rfl, wG_in tb_1 4 (by decide +kernel) rfl, wG_in tb_1 204 rfl rfl⟩
set_option maxRecDepth 20000 in
theorem k_X2_open : mdV m_X2_open 1 := ⟨mdB_ok (by decide +kernel), wG_in tb_1 207 (by decide +kernel) rfl, wG_in tb_1 208 (by decide +kernel) rfl, wG_in tb_1 4 (by decide +kernel) rfl, wG_in tb_1 209 rfl rfl⟩
set_option maxRecDepth 20000 in
theorem k_X2_become : mdV m_X2_become 1 := ⟨mdB_ok (by decide +kernel), wG_in tb_6 165 (by decide +kernel) rfl, wG_in tb_6 166 (by decide +kernel) rfl, wG_in tb_1 4 (by decide +kernel) rfl, wG_in tb_6 167 rfl rfl⟩
set_option maxRecDepth 20000 in
theorem k_X2_forget : mdV m_X2_forget 0 := ⟨mdB_ok (by decide +kernel), wG_in tb_1 217 (by decide +kernel) rfl, wG_in tp_1 0 (by decide +kernel) rfl, wG_in tb_1 4 (by decide +kernel) rfl, wG_in tb_1 218 rfl rfl⟩
set_option maxRecDepth 20000 in
theorem k_X2_remember : mdV m_X2_remember 0 := ⟨mdB_ok (by decide +kernel), wG_in tb_5 82 (by decide +kernel) rfl, wG_in tb_5 83 (by decide +kernel) rfl, wG_in tb_1 4 (by decide +kernel) rfl, wG_in tb_5 84 rfl rfl⟩
set_option maxRecDepth 20000 in
theorem k_X2_recall : mdV m_X2_recall 0 := ⟨mdB_ok (by decide +kernel), wG_in tb_5 162 (by decide +kernel) rfl, wG_in tb_5 163 (by decide +kernel) rfl, wG_in tb_1 4 (by decide +kernel) rfl, wG_in tb_5 164 rfl rfl⟩
set_option maxRecDepth 20000 in
theorem k_X2_of : mdV m_X2_of 2 := ⟨mdB_ok (by decide +kernel), wG_in tb_4 140 (by decide +kernel) rfl, wG_in tb_4 141 (by decide +kernel) rfl, wG_in tb_1 4 (by decide +kernel) rfl, wG_in tb_4 142 rfl rfl⟩
set_option maxRecDepth 20000 in
theorem k_X2_set : mdV m_X2_set 3 := ⟨mdB_ok (by decide +kernel), wG_in tb_1 212 (by decide +kernel) rfl, wG_in tb_1 213 (by decide +kernel) rfl, wG_in tb_1 4 (by decide +kernel) rfl, wG_in tb_1 214 rfl rfl⟩
set_option maxRecDepth 20000 in
theorem k_X2_known : mdV m_X2_known 1 := ⟨mdB_ok (by decide +kernel), wG_in tb_4 136 (by decide +kernel) rfl, wG_in tb_4 137 (by decide +kernel) rfl, wG_in tb_1 4 (by decide +kernel) rfl, wG_in tb_4 138 rfl rfl⟩
set_option maxRecDepth 20000 in
theorem k_X2_listed : mdV m_X2_listed 2 := ⟨mdB_ok (by decide +kernel), wG_in tb_4 172 (by decide +kernel) rfl, wG_in tb_4 173 (by decide +kernel) rfl, wG_in tb_1 4 (by decide +kernel) rfl, wG_in tb_4 174 rfl rfl⟩
set_option maxRecDepth 20000 in
theorem k_X2_sittingAt : mdV m_X2_sittingAt 1 := ⟨mdB_ok (by decide +kernel), wG_in tb_4 180 (by decide +kernel) rfl, wG_in tb_4 181 (by decide +kernel) rfl, wG_in tb_1 4 (by decide +kernel) rfl, wG_in tb_4 182 rfl rfl⟩
set_option maxRecDepth 20000 in
theorem k_X2_knownBy : mdV m_X2_knownBy 1 := ⟨mdB_ok (by decide +kernel), wG_in tb_4 163 (by decide +kernel) rfl, wG_in tb_4 164 (by decide +kernel) rfl, wG_in tb_1 4 (by decide +kernel) rfl, wG_in tb_4 165 rfl rfl⟩
set_option maxRecDepth 20000 in
theorem k_X2_knownByAll : mdV m_X2_knownByAll 0 := ⟨mdB_ok (by decide +kernel), wG_in tb_4 132 (by decide +kernel) rfl, wG_in tb_4 133 (by decide +kernel) rfl, wG_in tb_1 4 (by decide +kernel) rfl, wG_in tb_4 134 rfl rfl⟩
set_option maxRecDepth 20000 in
theorem k_X2_toldAsKept : mdV m_X2_toldAsKept 0 := ⟨mdB_ok (by decide +kernel), wG_in tb_4 125 (by decide +kernel) rfl, wG_in tb_4 126 (by decide +kernel) rfl, wG_in tb_1 4 (by decide +kernel) rfl, wG_in tb_4 127 rfl rfl⟩
set_option maxRecDepth 20000 in
theorem k_X2_mayList : mdV m_X2_mayList 2 := ⟨mdB_ok (by decide +kernel), wG_in tb_5 94 (by decide +kernel) rfl, wG_in tb_5 95 (by decide +kernel) rfl, wG_in tb_1 4 (by decide +kernel) rfl, wG_in tb_5 96 rfl rfl⟩
set_option maxRecDepth 20000 in
theorem k_X2_putBehind : mdV m_X2_putBehind 2 := ⟨mdB_ok (by decide +kernel), wG_in tb_5 102 (by decide +kernel) rfl, wG_in tb_5 103 (by decide +kernel) rfl, wG_in tb_1 4 (by decide +kernel) rfl, wG_in tb_5 104 rfl rfl⟩
set_option maxRecDepth 20000 in
theorem k_X2_strike : mdV m_X2_strike 2 := ⟨mdB_ok (by decide +kernel), wG_in tb_5 124 (by decide +kernel) rfl, wG_in tb_5 125 (by decide +kernel) rfl, wG_in tb_1 4 (by decide +kernel) rfl, wG_in tb_5 126 rfl rfl⟩
set_option maxRecDepth 20000 in
theorem k_X2_placeOf : mdV m_X2_placeOf 2 := ⟨mdB_ok (by decide +kernel), wG_in tb_5 99 (by decide +kernel) rfl, wG_in tp_3 6 (by decide +kernel) rfl, wG_in tb_1 4 (by decide +kernel) rfl, wG_in tb_5 100 rfl rfl⟩
set_option maxRecDepth 20000 in
theorem k_X2_keep : mdV m_X2_keep 2 := ⟨mdB_ok (by decide +kernel), wG_in tb_5 144 (by decide +kernel) rfl, wG_in tb_5 145 (by decide +kernel) rfl, wG_in tb_1 4 (by decide +kernel) rfl, wG_in tb_5 146 rfl rfl⟩
set_option maxRecDepth 20000 in
theorem k_X3_init : mdI m_X3_init 1 := ⟨mdB_ok (by decide +kernel), wG_in tb_1 71 (by decide +kernel) rfl, wG_in tb_1 3 (by decide +kernel) rfl, wG_in tb_1 72 rfl rfl⟩
set_option maxRecDepth 20000 in
theorem k_X3_parse : mdV m_X3_parse 1 := ⟨mdB_ok (by decide +kernel), wG_in tb_3 124 (by decide +kernel) rfl, wG_in tb_3 125 (by decide +kernel) rfl, wG_in tb_1 3 (by decide +kernel) rfl, wG_in tb_3 126 rfl rfl⟩
set_option maxRecDepth 20000 in
theorem k_X3_statement : mdV m_X3_statement 1 := ⟨mdB_ok (by decide +kernel), wG_in tb_3 205 (by decide +kernel) rfl, wG_in tp_1 7 (by decide +kernel) rfl, wG_in tb_1 3 (by decide +kernel) rfl, wG_in tb_3 206 rfl rfl⟩
set_option maxRecDepth 20000 in
theorem k_X3_roomFor : mdV m_X3_roomFor 1 := ⟨mdB_ok (by decide +kernel), wG_in tb_3 209 (by decide +kernel) rfl, wG_in tp_1 8 (by decide +kernel) rfl, wG_in tb_1 3 (by decide +kernel) rfl, wG_in tb_3 210 rfl rfl⟩
set_option maxRecDepth 20000 in
theorem k_X3_tellPage : mdV m_X3_tellPage 0 := ⟨mdB_ok (by decide +kernel), wG_in tb_4 4 (by decide +kernel) rfl, wG_in tp_1 12 (by decide +kernel) rfl, wG_in tb_1 3 (by decide +kernel) rfl, wG_in tb_4 5 rfl rfl⟩
set_option maxRecDepth 20000 in
theorem k_X3_tellNeed : mdV m_X3_tellNeed 0 := ⟨mdB_ok (by decide +kernel), wG_in tb_4 24 (by decide +kernel) rfl, wG_in tp_2 0 (by decide +kernel) rfl, wG_in tb_1 3 (by decide +kernel) rfl, wG_in tb_4 25 rfl rfl⟩
set_option maxRecDepth 20000 in
theorem k_X3_tellReader : mdV m_X3_tellReader 0 := ⟨mdB_ok (by decide +kernel), wG_in tb_4 28 (by decide +kernel) rfl, wG_in tp_2 1 (by decide +kernel) rfl, wG_in tb_1 3 (by decide +kernel) rfl, wG_in tb_4 29 rfl rfl⟩
set_option maxRecDepth 20000 in
theorem k_X3_tellTable : mdV m_X3_tellTable 0 := ⟨mdB_ok (by decide +kernel), wG_in tb_4 32 (by decide +kernel) rfl, wG_in tp_2 2 (by decide +kernel) rfl, wG_in tb_1 3 (by decide +kernel) rfl, wG_in tb_4 33 rfl rfl⟩
set_option maxRecDepth 20000 in
theorem k_X3_tellInch : mdV m_X3_tellInch 0 := ⟨mdB_ok (by decide +kernel), wG_in tb_4 36 (by decide +kernel) rfl, wG_in tp_2 3 (by decide +kernel) rfl, wG_in tb_1 3 (by decide +kernel) rfl, wG_in tb_4 37 rfl rfl⟩
set_option maxRecDepth 20000 in
theorem k_X3_beginRule : mdV m_X3_beginRule 1 := ⟨mdB_ok (by decide +kernel), wG_in tb_4 40 (by decide +kernel) rfl, wG_in tp_2 4 (by decide +kernel) rfl, wG_in tb_1 3 (by decide +kernel) rfl, wG_in tb_4 41 rfl rfl⟩
set_option maxRecDepth 20000 in
theorem k_X3_endRule : mdV m_X3_endRule 1 := ⟨mdB_ok (by decide +kernel), wG_in tb_4 89 (by decide +kernel) rfl, wG_in tp_2 12 (by decide +kernel) rfl, wG_in tb_1 3 (by decide +kernel) rfl, wG_in tb_4 90 rfl rfl⟩
set_option maxRecDepth 20000 in
theorem k_X3_parseTest : mdV m_X3_parseTest 0 := ⟨mdB_ok (by decide +kernel), wG_in tb_4 93 (by decide +kernel) rfl, wG_in tp_2 13 (by decide +kernel) rfl, wG_in tb_1 3 (by decide +kernel) rfl, wG_in tb_4 94 rfl rfl⟩
set_option maxRecDepth 20000 in
theorem k_X3_parseBoth : mdV m_X3_parseBoth 0 := ⟨mdB_ok (by decide +kernel), wG_in tb_4 97 (by decide +kernel) rfl, wG_in tp_2 14 (by decide +kernel) rfl, wG_in tb_1 3 (by decide +kernel) rfl, wG_in tb_4 98 rfl rfl⟩
set_option maxRecDepth 20000 in
theorem k_X3_parseFact : mdV m_X3_parseFact 0 := ⟨mdB_ok (by decide +kernel), wG_in tb_4 101 (by decide +kernel) rfl, wG_in tp_2 15 (by decide +kernel) rfl, wG_in tb_1 3 (by decide +kernel) rfl, wG_in tb_4 102 rfl rfl⟩
set_option maxRecDepth 20000 in
theorem k_X3_parseNegated : mdV m_X3_parseNegated 0 := ⟨mdB_ok (by decide +kernel), wG_in tb_4 105 (by decide +kernel) rfl, wG_in tp_3 0 (by decide +kernel) rfl, wG_in tb_1 3 (by decide +kernel) rfl, wG_in tb_4 106 rfl rfl⟩
set_option maxRecDepth 20000 in
theorem k_X3_parseSum : mdV m_X3_parseSum 0 := ⟨mdB_ok (by decide +kernel), wG_in tb_4 44 (by decide +kernel) rfl, wG_in tp_2 5 (by decide +kernel) rfl, wG_in tb_1 3 (by decide +kernel) rfl, wG_in tb_4 45 rfl rfl⟩
set_option maxRecDepth 20000 in
theorem k_X3_parseProduct : mdV m_X3_parseProduct 0 := ⟨mdB_ok (by decide +kernel), wG_in tb_4 48 (by decide +kernel) rfl, wG_in tp_2 6 (by decide +kernel) rfl, wG_in tb_1 3 (by decide +kernel) rfl, wG_in tb_4 49 rfl rfl⟩
set_option maxRecDepth 20000 in
theorem k_X3_parsePart : mdV m_X3_parsePart 0 := ⟨mdB_ok (by decide +kernel), wG_in tb_4 52 (by decide +kernel) rfl, wG_in tp_2 7 (by decide +kernel) rfl, wG_in tb_1 3 (by decide +kernel) rfl, wG_in tb_4 53 rfl rfl⟩
set_option maxRecDepth 20000 in
theorem k_X3_isValue : mdS m_X3_isValue 1 := ⟨mdB_ok (by decide +kernel), wG_in tb_4 75 (by decide +kernel) rfl, wG_in tb_1 3 (by decide +kernel) rfl, wG_in tb_4 76 rfl rfl⟩
set_option maxRecDepth 20000 in
theorem k_X3_signOperator : mdV m_X3_signOperator 0 := ⟨mdB_ok (by decide +kernel), wG_in tb_4 79 (by decide +kernel) rfl, wG_in tp_2 11 (by decide +kernel) rfl, wG_in tb_1 3 (by decide +kernel) rfl, wG_in tb_4 80 rfl rfl⟩
set_option maxRecDepth 20000 in
theorem k_X3_isSumOperator : mdS m_X3_isSumOperator 1 := ⟨mdB_ok (by decide +kernel), wG_in tb_4 85 (by decide +kernel) rfl, wG_in tb_1 3 (by decide +kernel) rfl, wG_in tb_4 86 rfl rfl⟩
set_option maxRecDepth 20000 in
theorem k_X3_isProductOperator : mdS m_X3_isProductOperator 1 := ⟨mdB_ok (by decide +kernel), wG_in tb_4 82 (by decide +kernel) rfl, wG_in tb_1 3 (by decide +kernel) rfl, wG_in tb_4 83 rfl rfl⟩
set_option maxRecDepth 20000 in
theorem k_X3_isTestOperator : mdS m_X3_isTestOperator 1 := ⟨mdB_ok (by decide +kernel), wG_in tb_4 108 (by decide +kernel) rfl, wG_in tb_1 3 (by decide +kernel) rfl, wG_in tb_4 109 rfl rfl⟩
set_option maxRecDepth 20000 in
theorem k_X3_openOne : mdV m_X3_openOne 0 := ⟨mdB_ok (by decide +kernel), wG_in tb_4 64 (by decide +kernel) rfl, wG_in tp_2 8 (by decide +kernel) rfl, wG_in tb_1 3 (by decide +kernel) rfl, wG_in tb_4 65 rfl rfl⟩
set_option maxRecDepth 20000 in
theorem k_X3_closeOne : mdV m_X3_closeOne 1 := ⟨mdB_ok (by decide +kernel), wG_in tb_4 68 (by decide +kernel) rfl, wG_in tp_2 9 (by decide +kernel) rfl, wG_in tb_1 3 (by decide +kernel) rfl, wG_in tb_4 69 rfl rfl⟩
set_option maxRecDepth 20000 in
theorem k_X3_give : mdV m_X3_give 1 := ⟨mdB_ok (by decide +kernel), wG_in tb_3 226 (by decide +kernel) rfl, wG_in tp_1 11 (by decide +kernel) rfl, wG_in tb_1 3 (by decide +kernel) rfl, wG_in tb_3 227 rfl rfl⟩
set_option maxRecDepth 20000 in
theorem k_X3_askName : mdV m_X3_askName 1 := ⟨mdB_ok (by decide +kernel), wG_in tb_4 16 (by decide +kernel) rfl, wG_in tp_1 14 (by decide +kernel) rfl, wG_in tb_1 3 (by decide +kernel) rfl, wG_in tb_4 17 rfl rfl⟩
set_option maxRecDepth 20000 in
theorem k_X3_askNumber : mdV m_X3_askNumber 2 := ⟨mdB_ok (by decide +kernel), wG_in tb_4 20 (by decide +kernel) rfl, wG_in tp_1 15 (by decide +kernel) rfl, wG_in tb_1 3 (by decide +kernel) rfl, wG_in tb_4 21 rfl rfl⟩
set_option maxRecDepth 20000 in
theorem k_X3_wantOwn : mdV m_X3_wantOwn 1 := ⟨mdB_ok (by decide +kernel), wG_in tb_4 8 (by decide +kernel) rfl, wG_in tp_1 13 (by decide +kernel) rfl, wG_in tb_1 3 (by decide +kernel) rfl, wG_in tb_4 9 rfl rfl⟩
set_option maxRecDepth 20000 in
theorem k_X3_wantSign : mdV m_X3_wantSign 1 := ⟨mdB_ok (by decide +kernel), wG_in tb_4 72 (by decide +kernel) rfl, wG_in tp_2 10 (by decide +kernel) rfl, wG_in tb_1 3 (by decide +kernel) rfl, wG_in tb_4 73 rfl rfl⟩
set_option maxRecDepth 20000 in
theorem k_X3_refuseWord : mdV m_X3_refuseWord 0 := ⟨mdB_ok (by decide +kernel), wG_in tb_3 217 (by decide +kernel) rfl, wG_in tp_1 9 (by decide +kernel) rfl, wG_in tb_1 3 (by decide +kernel) rfl, wG_in tb_3 218 rfl rfl⟩
set_option maxRecDepth 20000 in
theorem k_X3_fail : mdV m_X3_fail 2 := ⟨mdB_ok (by decide +kernel), wG_in tb_3 221 (by decide +kernel) rfl, wG_in tp_1 10 (by decide +kernel) rfl, wG_in tb_1 3 (by decide +kernel) rfl, wG_in tb_3 222 rfl rfl⟩
set_option maxRecDepth 20000 in
theorem k_X4_init : mdI m_X4_init 0 := ⟨mdB_ok (by decide +kernel), wG_in tb_3 43 (by decide +kernel) rfl, wG_in tb_1 13 (by decide +kernel) rfl, wG_in tb_3 44 rfl rfl⟩
set_option maxRecDepth 20000 in
theorem k_X4_write : mdV m_X4_write 1 := ⟨mdB_ok (by decide +kernel), wG_in tb_6 119 (by decide +kernel) rfl, wG_in tb_6 120 (by decide +kernel) rfl, wG_in tb_1 13 (by decide +kernel) rfl, wG_in tb_6 121 rfl rfl⟩
set_option maxRecDepth 20000 in
theorem k_X4_put : mdV m_X4_put 1 := ⟨mdB_ok (by decide +kernel), wG_in tb_6 128 (by decide +kernel) rfl, wG_in tp_4 8 (by decide +kernel) rfl, wG_in tb_1 13 (by decide +kernel) rfl, wG_in tb_6 129 rfl rfl⟩
set_option maxRecDepth 20000 in
theorem k_X4_putTwo : mdV m_X4_putTwo 1 := ⟨mdB_ok (by decide +kernel), wG_in tb_6 124 (by decide +kernel) rfl, wG_in tp_4 7 (by decide +kernel) rfl, wG_in tb_1 13 (by decide +kernel) rfl, wG_in tb_6 125 rfl rfl⟩
set_option maxRecDepth 20000 in
theorem k_X4_read : mdV m_X4_read 2 := ⟨mdB_ok (by decide +kernel), wG_in tb_6 141 (by decide +kernel) rfl, wG_in tb_6 142 (by decide +kernel) rfl, wG_in tb_1 13 (by decide +kernel) rfl, wG_in tb_6 143 rfl rfl⟩
set_option maxRecDepth 20000 in
theorem k_X4_readOne : mdV m_X4_readOne 3 := ⟨mdB_ok (by decide +kernel), wG_in tb_6 159 (by decide +kernel) rfl, wG_in tp_4 11 (by decide +kernel) rfl, wG_in tb_1 13 (by decide +kernel) rfl, wG_in tb_6 160 rfl rfl⟩
set_option maxRecDepth 20000 in
theorem k_X4_within : mdS m_X4_within 2 := ⟨mdB_ok (by decide +kernel), wG_in tb_6 155 (by decide +kernel) rfl, wG_in tb_1 13 (by decide +kernel) rfl, wG_in tb_6 156 rfl rfl⟩
set_option maxRecDepth 20000 in
theorem k_X4_take : mdV m_X4_take 1 := ⟨mdB_ok (by decide +kernel), wG_in tb_6 151 (by decide +kernel) rfl, wG_in tp_4 10 (by decide +kernel) rfl, wG_in tb_1 13 (by decide +kernel) rfl, wG_in tb_6 152 rfl rfl⟩
set_option maxRecDepth 20000 in
theorem k_X4_takeTwo : mdV m_X4_takeTwo 1 := ⟨mdB_ok (by decide +kernel), wG_in tb_6 147 (by decide +kernel) rfl, wG_in tp_4 9 (by decide +kernel) rfl, wG_in tb_1 13 (by decide +kernel) rfl, wG_in tb_6 148 rfl rfl⟩
set_option maxRecDepth 20000 in
theorem k_X4_checkOf : mdS m_X4_checkOf 1 := ⟨mdB_ok (by decide +kernel), wG_in tb_6 162 (by decide +kernel) rfl, wG_in tb_1 13 (by decide +kernel) rfl, wG_in tb_6 163 rfl rfl⟩
set_option maxRecDepth 20000 in
theorem k_X5_init : mdI m_X5_init 3 := ⟨mdB_ok (by decide +kernel), wG_in tb_2 236 (by decide +kernel) rfl, wG_in tb_1 12 (by decide +kernel) rfl, wG_in tb_2 237 rfl rfl⟩
set_option maxRecDepth 20000 in
theorem k_X5_pagesRead : mdV m_X5_pagesRead 0 := ⟨mdB_ok (by decide +kernel), wG_in tb_6 58 (by decide +kernel) rfl, wG_in tb_6 59 (by decide +kernel) rfl, wG_in tb_1 12 (by decide +kernel) rfl, wG_in tb_6 60 rfl rfl⟩
set_option maxRecDepth 20000 in
theorem k_X5_waxSaved : mdV m_X5_waxSaved 0 := ⟨mdB_ok (by decide +kernel), wG_in tb_6 62 (by decide +kernel) rfl, wG_in tb_6 63 (by decide +kernel) rfl, wG_in tb_1 12 (by decide +kernel) rfl, wG_in tb_6 64 rfl rfl⟩
set_option maxRecDepth 20000 in
theorem k_X5_tableOf : mdV m_X5_tableOf 1 := ⟨mdB_ok (by decide +kernel), wG_in tb_6 66 (by decide +kernel) rfl, wG_in tb_6 67 (by decide +kernel) rfl, wG_in tb_1 12 (by decide +kernel) rfl, wG_in tb_6 68 rfl rfl⟩
set_option maxRecDepth 20000 in
theorem k_X5_find : mdV m_X5_find 0 := ⟨mdB_ok (by decide +kernel), wG_in tb_6 17 (by decide +kernel) rfl, wG_in tb_6 18 (by decide +kernel) rfl, wG_in tb_1 12 (by decide +kernel) rfl, wG_in tb_6 19 rfl rfl⟩
set_option maxRecDepth 20000 in
theorem k_X5_tellFound : mdV m_X5_tellFound 1 := ⟨mdB_ok (by decide +kernel), wG_in tb_6 54 (by decide +kernel) rfl, wG_in tp_4 3 (by decide +kernel) rfl, wG_in tb_1 12 (by decide +kernel) rfl, wG_in tb_6 55 rfl rfl⟩
set_option maxRecDepth 20000 in
theorem k_X5_weighTable : mdV m_X5_weighTable 2 := ⟨mdB_ok (by decide +kernel), wG_in tb_6 26 (by decide +kernel) rfl, wG_in tp_3 15 (by decide +kernel) rfl, wG_in tb_1 12 (by decide +kernel) rfl, wG_in tb_6 27 rfl rfl⟩
set_option maxRecDepth 20000 in
theorem k_X5_weigh : mdV m_X5_weigh 3 := ⟨mdB_ok (by decide +kernel), wG_in tb_6 36 (by decide +kernel) rfl, wG_in tp_4 0 (by decide +kernel) rfl, wG_in tb_1 12 (by decide +kernel) rfl, wG_in tb_6 37 rfl rfl⟩
set_option maxRecDepth 20000 in
theorem k_X5_lastEnd : mdV m_X5_lastEnd 1 := ⟨mdB_ok (by decide +kernel), wG_in tb_6 40 (by decide +kernel) rfl, wG_in tp_4 1 (by decide +kernel) rfl, wG_in tb_1 12 (by decide +kernel) rfl, wG_in tb_6 41 rfl rfl⟩
set_option maxRecDepth 20000 in
theorem k_X5_joinTable : mdV m_X5_joinTable 1 := ⟨mdB_ok (by decide +kernel), wG_in tb_6 47 (by decide +kernel) rfl, wG_in tp_4 2 (by decide +kernel) rfl, wG_in tb_1 12 (by decide +kernel) rfl, wG_in tb_6 48 rfl rfl⟩
set_option maxRecDepth 20000 in
theorem k_X6_init : mdI m_X6_init 3 := ⟨mdB_ok (by decide +kernel), wG_in tb_2 176 (by decide +kernel) rfl, wG_in tb_1 11 (by decide +kernel) rfl, wG_in tb_2 177 rfl rfl⟩
set_option maxRecDepth 20000 in
theorem k_X6_readerOf : mdV m_X6_readerOf 1 := ⟨mdB_ok (by decide +kernel), wG_in tb_6 9 (by decide +kernel) rfl, wG_in tb_6 10 (by decide +kernel) rfl, wG_in tb_1 11 (by decide +kernel) rfl, wG_in tb_6 11 rfl rfl⟩
set_option maxRecDepth 20000 in
theorem k_X6_find : mdV m_X6_find 1 := ⟨mdB_ok (by decide +kernel), wG_in tb_5 217 (by decide +kernel) rfl, wG_in tb_5 218 (by decide +kernel) rfl, wG_in tb_1 11 (by decide +kernel) rfl, wG_in tb_5 219 rfl rfl⟩
set_option maxRecDepth 20000 in
theorem k_X6_measure : mdV m_X6_measure 1 := ⟨mdB_ok (by decide +kernel), wG_in tb_5 223 (by decide +kernel) rfl, wG_in tp_3 11 (by decide +kernel) rfl, wG_in tb_1 11 (by decide +kernel) rfl, wG_in tb_5 224 rfl rfl⟩
set_option maxRecDepth 20000 in
theorem k_X6_share : mdS m_X6_share 4 := ⟨mdB_ok (by decide +kernel), wG_in tb_5 231 (by decide +kernel) rfl, wG_in tb_1 11 (by decide +kernel) rfl, wG_in tb_5 232 rfl rfl⟩
set_option maxRecDepth 20000 in
theorem k_X6_isNoBetter : mdV m_X6_isNoBetter 2 := ⟨mdB_ok (by decide +kernel), wG_in tb_5 235 (by decide +kernel) rfl, wG_in tp_3 12 (by decide +kernel) rfl, wG_in tb_1 11 (by decide +kernel) rfl, wG_in tb_5 236 rfl rfl⟩
set_option maxRecDepth 20000 in
theorem k_X6_take : mdV m_X6_take 2 := ⟨mdB_ok (by decide +kernel), wG_in tb_5 239 (by decide +kernel) rfl, wG_in tp_3 13 (by decide +kernel) rfl, wG_in tb_1 11 (by decide +kernel) rfl, wG_in tb_6 0 rfl rfl⟩
set_option maxRecDepth 20000 in
theorem k_X6_minutesOf : mdV m_X6_minutesOf 2 := ⟨mdB_ok (by decide +kernel), wG_in tb_6 4 (by decide +kernel) rfl, wG_in tp_3 14 (by decide +kernel) rfl, wG_in tb_1 11 (by decide +kernel) rfl, wG_in tb_6 5 rfl rfl⟩
set_option maxRecDepth 20000 in
theorem k_X7_init : mdI m_X7_init 0 := ⟨mdB_ok (by decide +kernel), wG_in tb_1 97 (by decide +kernel) rfl, wG_in tb_1 5 (by decide +kernel) rfl, wG_in tb_1 98 rfl rfl⟩
set_option maxRecDepth 20000 in
theorem k_X7_clear : mdV m_X7_clear 0 := ⟨mdB_ok (by decide +kernel), wG_in tb_1 101 (by decide +kernel) rfl, wG_in tb_1 102 (by decide +kernel) rfl, wG_in tb_1 5 (by decide +kernel) rfl, wG_in tb_1 103 rfl rfl⟩
set_option maxRecDepth 20000 in
theorem k_X7_holds : mdV m_X7_holds 2 := ⟨mdB_ok (by decide +kernel), wG_in tb_4 154 (by decide +kernel) rfl, wG_in tb_4 155 (by decide +kernel) rfl, wG_in tb_1 5 (by decide +kernel) rfl, wG_in tb_4 156 rfl rfl⟩
set_option maxRecDepth 20000 in
theorem k_X7_isQuestion : mdV m_X7_isQuestion 1 := ⟨mdB_ok (by decide +kernel), wG_in tb_5 178 (by decide +kernel) rfl, wG_in tb_5 179 (by decide +kernel) rfl, wG_in tb_1 5 (by decide +kernel) rfl, wG_in tb_5 180 rfl rfl⟩
set_option maxRecDepth 20000 in
theorem k_X7_mayRead : mdV m_X7_mayRead 2 := ⟨mdB_ok (by decide +kernel), wG_in tb_5 27 (by decide +kernel) rfl, wG_in tb_5 28 (by decide +kernel) rfl, wG_in tb_1 5 (by decide +kernel) rfl, wG_in tb_5 29 rfl rfl⟩
set_option maxRecDepth 20000 in
theorem k_X7_hasRule : mdV m_X7_hasRule 1 := ⟨mdB_ok (by decide +kernel), wG_in tb_3 212 (by decide +kernel) rfl, wG_in tb_3 213 (by decide +kernel) rfl, wG_in tb_1 5 (by decide +kernel) rfl, wG_in tb_3 214 rfl rfl⟩
set_option maxRecDepth 20000 in
theorem k_X7_emit : mdV m_X7_emit 1 := ⟨mdB_ok (by decide +kernel), wG_in tb_4 55 (by decide +kernel) rfl, wG_in tb_4 56 (by decide +kernel) rfl, wG_in tb_1 5 (by decide +kernel) rfl, wG_in tb_4 57 rfl rfl⟩
set_option maxRecDepth 20000 in
theorem k_X7_giveName : mdV m_X7_giveName 2 := ⟨mdB_ok (by decide +kernel), wG_in tb_3 239 (by decide +kernel) rfl, wG_in tb_4 0 (by decide +kernel) rfl, wG_in tb_1 5 (by decide +kernel) rfl, wG_in tb_4 1 rfl rfl⟩
set_option maxRecDepth 20000 in
theorem k_X7_findName : mdV m_X7_findName 2 := ⟨mdB_ok (by decide +kernel), wG_in tb_3 229 (by decide +kernel) rfl, wG_in tb_3 230 (by decide +kernel) rfl, wG_in tb_1 5 (by decide +kernel) rfl, wG_in tb_3 231 rfl rfl⟩
set_option maxRecDepth 20000 in
theorem k_X7_letterAt : mdS m_X7_letterAt 2 := ⟨mdB_ok (by decide +kernel), wG_in tb_3 235 (by decide +kernel) rfl, wG_in tb_1 5 (by decide +kernel) rfl, wG_in tb_3 236 rfl rfl⟩
set_option maxRecDepth 20000 in
theorem k_X7_gatherNeeds : mdV m_X7_gatherNeeds 0 := ⟨mdB_ok (by decide +kernel), wG_in tb_4 111 (by decide +kernel) rfl, wG_in tb_4 112 (by decide +kernel) rfl, wG_in tb_1 5 (by decide +kernel) rfl, wG_in tb_4 113 rfl rfl⟩
set_option maxRecDepth 20000 in
theorem k_X8_init : mdI m_X8_init 2 := ⟨mdB_ok (by decide +kernel), wG_in tb_2 112 (by decide +kernel) rfl, wG_in tb_1 10 (by decide +kernel) rfl, wG_in tb_2 113 rfl rfl⟩
set_option maxRecDepth 20000 in
theorem k_X8_lightOf : mdV m_X8_lightOf 1 := ⟨mdB_ok (by decide +kernel), wG_in tb_5 199 (by decide +kernel) rfl, wG_in tp_3 10 (by decide +kernel) rfl, wG_in tb_1 10 (by decide +kernel) rfl, wG_in tb_5 200 rfl rfl⟩
set_option maxRecDepth 20000 in
theorem k_X8_pagesOf : mdV m_X8_pagesOf 3 := ⟨mdB_ok (by decide +kernel), wG_in tb_5 186 (by decide +kernel) rfl, wG_in tb_5 187 (by decide +kernel) rfl, wG_in tb_1 10 (by decide +kernel) rfl, wG_in tb_5 188 rfl rfl⟩
set_option maxRecDepth 20000 in
theorem k_X8_workOf : mdV m_X8_workOf 3 := ⟨mdB_ok (by decide +kernel), wG_in tb_5 182 (by decide +kernel) rfl, wG_in tb_5 183 (by decide +kernel) rfl, wG_in tb_1 10 (by decide +kernel) rfl, wG_in tb_5 184 rfl rfl⟩
set_option maxRecDepth 20000 in
theorem k_X8_workOfAll : mdV m_X8_workOfAll 2 := ⟨mdB_ok (by decide +kernel), wG_in tb_6 111 (by decide +kernel) rfl, wG_in tb_6 112 (by decide +kernel) rfl, wG_in tb_1 10 (by decide +kernel) rfl, wG_in tb_6 113 rfl rfl⟩
set_option maxRecDepth 20000 in
theorem k_X8_nightsOf : mdV m_X8_nightsOf 2 := ⟨mdB_ok (by decide +kernel), wG_in tb_5 193 (by decide +kernel) rfl, wG_in tb_5 194 (by decide +kernel) rfl, wG_in tb_1 10 (by decide +kernel) rfl, wG_in tb_5 195 rfl rfl⟩
set_option maxRecDepth 20000 in
theorem k_X8_nightsFor : mdS m_X8_nightsFor 2 := ⟨mdB_ok (by decide +kernel), wG_in tb_5 204 (by decide +kernel) rfl, wG_in tb_1 10 (by decide +kernel) rfl, wG_in tb_5 205 rfl rfl⟩
set_option maxRecDepth 20000 in
theorem k_X8_findMost : mdV m_X8_findMost 2 := ⟨mdB_ok (by decide +kernel), wG_in tb_6 74 (by decide +kernel) rfl, wG_in tb_6 75 (by decide +kernel) rfl, wG_in tb_1 10 (by decide +kernel) rfl, wG_in tb_6 76 rfl rfl⟩
set_option maxRecDepth 20000 in
theorem k_X8_measurePages : mdV m_X8_measurePages 0 := ⟨mdB_ok (by decide +kernel), wG_in tb_6 79 (by decide +kernel) rfl, wG_in tp_4 4 (by decide +kernel) rfl, wG_in tb_1 10 (by decide +kernel) rfl, wG_in tb_6 80 rfl rfl⟩
set_option maxRecDepth 20000 in
theorem k_X8_chooseMost : mdS m_X8_chooseMost 5 := ⟨mdB_ok (by decide +kernel), wG_in tb_6 82 (by decide +kernel) rfl, wG_in tb_1 10 (by decide +kernel) rfl, wG_in tb_6 83 rfl rfl⟩
set_option maxRecDepth 20000 in
theorem k_X8_tryMost : mdV m_X8_tryMost 3 := ⟨mdB_ok (by decide +kernel), wG_in tb_6 86 (by decide +kernel) rfl, wG_in tp_4 5 (by decide +kernel) rfl, wG_in tb_1 10 (by decide +kernel) rfl, wG_in tb_6 87 rfl rfl⟩
set_option maxRecDepth 20000 in
theorem k_X8_findSets : mdV m_X8_findSets 2 := ⟨mdB_ok (by decide +kernel), wG_in tb_6 94 (by decide +kernel) rfl, wG_in tb_6 95 (by decide +kernel) rfl, wG_in tb_1 10 (by decide +kernel) rfl, wG_in tb_6 96 rfl rfl⟩
set_option maxRecDepth 20000 in
theorem k_X8_chooseSets : mdS m_X8_chooseSets 4 := ⟨mdB_ok (by decide +kernel), wG_in tb_6 100 (by decide +kernel) rfl, wG_in tb_1 10 (by decide +kernel) rfl, wG_in tb_6 101 rfl rfl⟩
set_option maxRecDepth 20000 in
theorem k_X8_addSet : mdV m_X8_addSet 1 := ⟨mdB_ok (by decide +kernel), wG_in tb_6 104 (by decide +kernel) rfl, wG_in tp_4 6 (by decide +kernel) rfl, wG_in tb_1 10 (by decide +kernel) rfl, wG_in tb_6 105 rfl rfl⟩
set_option maxRecDepth 20000 in
theorem k_X9_init : mdI m_X9_init 1 := ⟨mdB_ok (by decide +kernel), wG_in tb_2 21 (by decide +kernel) rfl, wG_in tb_1 7 (by decide +kernel) rfl, wG_in tb_2 22 rfl rfl⟩
set_option maxRecDepth 20000 in
theorem k_X9_setNow : mdV m_X9_setNow 1 := ⟨mdB_ok (by decide +kernel), wG_in tb_4 229 (by decide +kernel) rfl, wG_in tb_4 230 (by decide +kernel) rfl, wG_in tb_1 7 (by decide +kernel) rfl, wG_in tb_4 231 rfl rfl⟩
set_option maxRecDepth 20000 in
theorem k_X9_setAt : mdV m_X9_setAt 4 := ⟨mdB_ok (by decide +kernel), wG_in tb_4 192 (by decide +kernel) rfl, wG_in tb_4 193 (by decide +kernel) rfl, wG_in tb_1 7 (by decide +kernel) rfl, wG_in tb_4 194 rfl rfl⟩
set_option maxRecDepth 20000 in
theorem k_X9_inchMinutes : mdV m_X9_inchMinutes 0 := ⟨mdB_ok (by decide +kernel), wG_in tb_4 196 (by decide +kernel) rfl, wG_in tb_4 197 (by decide +kernel) rfl, wG_in tb_1 7 (by decide +kernel) rfl, wG_in tb_4 198 rfl rfl⟩
set_option maxRecDepth 20000 in
theorem k_X9_pageMinutes : mdV m_X9_pageMinutes 1 := ⟨mdB_ok (by decide +kernel), wG_in tb_4 233 (by decide +kernel) rfl, wG_in tb_4 234 (by decide +kernel) rfl, wG_in tb_1 7 (by decide +kernel) rfl, wG_in tb_4 235 rfl rfl⟩
set_option maxRecDepth 20000 in
theorem k_X9_mayHear : mdV m_X9_mayHear 1 := ⟨mdB_ok (by decide +kernel), wG_in tb_5 120 (by decide +kernel) rfl, wG_in tb_5 121 (by decide +kernel) rfl, wG_in tb_1 7 (by decide +kernel) rfl, wG_in tb_5 122 rfl rfl⟩
set_option maxRecDepth 20000 in
theorem k_X9_lightAt : mdV m_X9_lightAt 2 := ⟨mdB_ok (by decide +kernel), wG_in tb_4 184 (by decide +kernel) rfl, wG_in tb_4 185 (by decide +kernel) rfl, wG_in tb_1 7 (by decide +kernel) rfl, wG_in tb_4 186 rfl rfl⟩
set_option maxRecDepth 20000 in
theorem k_X9_setPage : mdV m_X9_setPage 1 := ⟨mdB_ok (by decide +kernel), wG_in tb_4 238 (by decide +kernel) rfl, wG_in tp_3 2 (by decide +kernel) rfl, wG_in tb_1 7 (by decide +kernel) rfl, wG_in tb_4 239 rfl rfl⟩
set_option maxRecDepth 20000 in
theorem k_X9_run : mdV m_X9_run 1 := ⟨mdB_ok (by decide +kernel), wG_in tb_4 202 (by decide +kernel) rfl, wG_in tp_3 1 (by decide +kernel) rfl, wG_in tb_1 7 (by decide +kernel) rfl, wG_in tb_4 203 rfl rfl⟩
set_option maxRecDepth 20000 in
theorem k_X9_join : mdS m_X9_join 3 := ⟨mdB_ok (by decide +kernel), wG_in tb_4 206 (by decide +kernel) rfl, wG_in tb_1 7 (by decide +kernel) rfl, wG_in tb_4 207 rfl rfl⟩
set_option maxRecDepth 20000 in
theorem k_X9_bounded : mdS m_X9_bounded 1 := ⟨mdB_ok (by decide +kernel), wG_in tb_4 209 (by decide +kernel) rfl, wG_in tb_1 7 (by decide +kernel) rfl, wG_in tb_4 210 rfl rfl⟩
set_option maxRecDepth 20000 in
theorem k_X10_init : mdI m_X10_init 0 := ⟨mdB_ok (by decide +kernel), wG_in tb_1 33 (by decide +kernel) rfl, wG_in tb_1 2 (by decide +kernel) rfl, wG_in tb_1 34 rfl rfl⟩
set_option maxRecDepth 20000 in
theorem k_X10_put : mdV m_X10_put 1 := ⟨mdB_ok (by decide +kernel), wG_in tb_3 108 (by decide +kernel) rfl, wG_in tb_3 109 (by decide +kernel) rfl, wG_in tb_1 2 (by decide +kernel) rfl, wG_in tb_3 110 rfl rfl⟩
set_option maxRecDepth 20000 in
theorem k_X10_byteAt : mdV m_X10_byteAt 1 := ⟨mdB_ok (by decide +kernel), wG_in tb_3 137 (by decide +kernel) rfl, wG_in tb_3 138 (by decide +kernel) rfl, wG_in tb_1 2 (by decide +kernel) rfl, wG_in tb_3 139 rfl rfl⟩
set_option maxRecDepth 20000 in
theorem k_X10_rewind : mdV m_X10_rewind 0 := ⟨mdB_ok (by decide +kernel), wG_in tb_3 129 (by decide +kernel) rfl, wG_in tb_3 130 (by decide +kernel) rfl, wG_in tb_1 2 (by decide +kernel) rfl, wG_in tb_3 131 rfl rfl⟩
set_option maxRecDepth 20000 in
theorem k_X10_step : mdV m_X10_step 0 := ⟨mdB_ok (by decide +kernel), wG_in tb_3 133 (by decide +kernel) rfl, wG_in tb_3 134 (by decide +kernel) rfl, wG_in tb_1 2 (by decide +kernel) rfl, wG_in tb_3 135 rfl rfl⟩
set_option maxRecDepth 20000 in
theorem k_X10_endOfWord : mdV m_X10_endOfWord 0 := ⟨mdB_ok (by decide +kernel), wG_in tb_3 145 (by decide +kernel) rfl, wG_in tp_1 3 (by decide +kernel) rfl, wG_in tb_1 2 (by decide +kernel) rfl, wG_in tb_3 146 rfl rfl⟩
set_option maxRecDepth 20000 in
theorem k_X10_endOfNumber : mdV m_X10_endOfNumber 0 := ⟨mdB_ok (by decide +kernel), wG_in tb_3 197 (by decide +kernel) rfl, wG_in tp_1 5 (by decide +kernel) rfl, wG_in tb_1 2 (by decide +kernel) rfl, wG_in tb_3 198 rfl rfl⟩
set_option maxRecDepth 20000 in
theorem k_X10_number : mdV m_X10_number 0 := ⟨mdB_ok (by decide +kernel), wG_in tb_3 201 (by decide +kernel) rfl, wG_in tp_1 6 (by decide +kernel) rfl, wG_in tb_1 2 (by decide +kernel) rfl, wG_in tb_3 202 rfl rfl⟩
set_option maxRecDepth 20000 in
theorem k_X10_ownWord : mdV m_X10_ownWord 0 := ⟨mdB_ok (by decide +kernel), wG_in tb_3 149 (by decide +kernel) rfl, wG_in tp_1 4 (by decide +kernel) rfl, wG_in tb_1 2 (by decide +kernel) rfl, wG_in tb_3 150 rfl rfl⟩
set_option maxRecDepth 20000 in
theorem k_X10_isOwn : mdV m_X10_isOwn 1 := ⟨mdB_ok (by decide +kernel), wG_in tb_4 11 (by decide +kernel) rfl, wG_in tb_4 12 (by decide +kernel) rfl, wG_in tb_1 2 (by decide +kernel) rfl, wG_in tb_4 13 rfl rfl⟩
set_option maxRecDepth 20000 in
theorem k_X10_isSign : mdV m_X10_isSign 1 := ⟨mdB_ok (by decide +kernel), wG_in tb_4 59 (by decide +kernel) rfl, wG_in tb_4 60 (by decide +kernel) rfl, wG_in tb_1 2 (by decide +kernel) rfl, wG_in tb_4 61 rfl rfl⟩
set_option maxRecDepth 20000 in
theorem k_X10_isLetter : mdS m_X10_isLetter 1 := ⟨mdB_ok (by decide +kernel), wG_in tb_3 141 (by decide +kernel) rfl, wG_in tb_1 2 (by decide +kernel) rfl, wG_in tb_3 142 rfl rfl⟩
set_option maxRecDepth 20000 in
theorem k_X10_isDigit : mdS m_X10_isDigit 1 := ⟨mdB_ok (by decide +kernel), wG_in tb_3 193 (by decide +kernel) rfl, wG_in tb_1 2 (by decide +kernel) rfl, wG_in tb_3 194 rfl rfl⟩
set_option maxRecDepth 20000 in
theorem k_X11_init : mdI m_X11_init 0 := ⟨mdB_ok (by decide +kernel), wG_in tb_1 25 (by decide +kernel) rfl, wG_in tb_1 1 (by decide +kernel) rfl, wG_in tb_1 26 rfl rfl⟩
set_option maxRecDepth 20000 in
theorem k_X11_feed : mdV m_X11_feed 5 := ⟨mdB_ok (by decide +kernel), wG_in tb_3 100 (by decide +kernel) rfl, wG_in tb_3 101 (by decide +kernel) rfl, wG_in tb_1 1 (by decide +kernel) rfl, wG_in tb_3 102 rfl rfl⟩
set_option maxRecDepth 20000 in
theorem k_X11_end : mdV m_X11_end 1 := ⟨mdB_ok (by decide +kernel), wG_in tb_3 112 (by decide +kernel) rfl, wG_in tb_3 113 (by decide +kernel) rfl, wG_in tb_1 1 (by decide +kernel) rfl, wG_in tb_3 114 rfl rfl⟩
set_option maxRecDepth 20000 in
theorem k_X11_library : mdV m_X11_library 0 := ⟨mdB_ok (by decide +kernel), wG_in tb_3 120 (by decide +kernel) rfl, wG_in tb_3 121 (by decide +kernel) rfl, wG_in tb_1 1 (by decide +kernel) rfl, wG_in tb_3 122 rfl rfl⟩
set_option maxRecDepth 20000 in
theorem k_X11_fault : mdV m_X11_fault 1 := ⟨mdB_ok (by decide +kernel), wG_in tb_4 117 (by decide +kernel) rfl, wG_in tb_4 118 (by decide +kernel) rfl, wG_in tb_1 1 (by decide +kernel) rfl, wG_in tb_4 119 rfl rfl⟩
set_option maxRecDepth 20000 in
theorem k_X11_has : mdV m_X11_has 1 := ⟨mdB_ok (by decide +kernel), wG_in tb_4 121 (by decide +kernel) rfl, wG_in tb_4 122 (by decide +kernel) rfl, wG_in tb_1 1 (by decide +kernel) rfl, wG_in tb_4 123 rfl rfl⟩
set_option maxRecDepth 20000 in
theorem k_X11_letter : mdV m_X11_letter 3 := ⟨mdB_ok (by decide +kernel), wG_in tb_4 150 (by decide +kernel) rfl, wG_in tb_4 151 (by decide +kernel) rfl, wG_in tb_1 1 (by decide +kernel) rfl, wG_in tb_4 152 rfl rfl⟩
set_option maxRecDepth 20000 in
theorem k_X11_page : mdV m_X11_page 2 := ⟨mdB_ok (by decide +kernel), wG_in tb_4 159 (by decide +kernel) rfl, wG_in tb_4 160 (by decide +kernel) rfl, wG_in tb_1 1 (by decide +kernel) rfl, wG_in tb_4 161 rfl rfl⟩
set_option maxRecDepth 20000 in
theorem k_X11_reader : mdV m_X11_reader 2 := ⟨mdB_ok (by decide +kernel), wG_in tb_4 167 (by decide +kernel) rfl, wG_in tb_4 168 (by decide +kernel) rfl, wG_in tb_1 1 (by decide +kernel) rfl, wG_in tb_4 169 rfl rfl⟩
set_option maxRecDepth 20000 in
theorem k_X11_table : mdV m_X11_table 2 := ⟨mdB_ok (by decide +kernel), wG_in tb_4 176 (by decide +kernel) rfl, wG_in tb_4 177 (by decide +kernel) rfl, wG_in tb_1 1 (by decide +kernel) rfl, wG_in tb_4 178 rfl rfl⟩
set_option maxRecDepth 20000 in
theorem k_X11_takes : mdV m_X11_takes 2 := ⟨mdB_ok (by decide +kernel), wG_in tb_4 225 (by decide +kernel) rfl, wG_in tb_4 226 (by decide +kernel) rfl, wG_in tb_1 1 (by decide +kernel) rfl, wG_in tb_4 227 rfl rfl⟩
set_option maxRecDepth 20000 in
theorem k_X11_burns : mdV m_X11_burns 1 := ⟨mdB_ok (by decide +kernel), wG_in tb_5 1 (by decide +kernel) rfl, wG_in tb_5 2 (by decide +kernel) rfl, wG_in tb_1 1 (by decide +kernel) rfl, wG_in tb_5 3 rfl rfl⟩
set_option maxRecDepth 20000 in
theorem k_X11_tonight : mdV m_X11_tonight 2 := ⟨mdB_ok (by decide +kernel), wG_in tb_5 6 (by decide +kernel) rfl, wG_in tb_5 7 (by decide +kernel) rfl, wG_in tb_1 1 (by decide +kernel) rfl, wG_in tb_5 8 rfl rfl⟩
set_option maxRecDepth 20000 in
theorem k_X11_whole : mdV m_X11_whole 1 := ⟨mdB_ok (by decide +kernel), wG_in tb_5 58 (by decide +kernel) rfl, wG_in tb_5 59 (by decide +kernel) rfl, wG_in tb_1 1 (by decide +kernel) rfl, wG_in tb_5 60 rfl rfl⟩
set_option maxRecDepth 20000 in
theorem k_X11_seat : mdV m_X11_seat 2 := ⟨mdB_ok (by decide +kernel), wG_in tb_5 78 (by decide +kernel) rfl, wG_in tb_5 79 (by decide +kernel) rfl, wG_in tb_1 1 (by decide +kernel) rfl, wG_in tb_5 80 rfl rfl⟩
set_option maxRecDepth 20000 in
theorem k_X11_list : mdV m_X11_list 2 := ⟨mdB_ok (by decide +kernel), wG_in tb_5 90 (by decide +kernel) rfl, wG_in tb_5 91 (by decide +kernel) rfl, wG_in tb_1 1 (by decide +kernel) rfl, wG_in tb_5 92 rfl rfl⟩
set_option maxRecDepth 20000 in
theorem k_X11_drop : mdV m_X11_drop 1 := ⟨mdB_ok (by decide +kernel), wG_in tb_5 106 (by decide +kernel) rfl, wG_in tb_5 107 (by decide +kernel) rfl, wG_in tb_1 1 (by decide +kernel) rfl, wG_in tb_5 108 rfl rfl⟩
set_option maxRecDepth 20000 in
theorem k_X11_tell : mdV m_X11_tell 3 := ⟨mdB_ok (by decide +kernel), wG_in tb_5 110 (by decide +kernel) rfl, wG_in tb_5 111 (by decide +kernel) rfl, wG_in tb_1 1 (by decide +kernel) rfl, wG_in tb_5 112 rfl rfl⟩
set_option maxRecDepth 20000 in
theorem k_X11_night : mdV m_X11_night 0 := ⟨mdB_ok (by decide +kernel), wG_in tb_5 128 (by decide +kernel) rfl, wG_in tb_5 129 (by decide +kernel) rfl, wG_in tb_1 1 (by decide +kernel) rfl, wG_in tb_5 130 rfl rfl⟩
set_option maxRecDepth 20000 in
theorem k_X11_winter : mdV m_X11_winter 1 := ⟨mdB_ok (by decide +kernel), wG_in tb_5 148 (by decide +kernel) rfl, wG_in tb_5 149 (by decide +kernel) rfl, wG_in tb_1 1 (by decide +kernel) rfl, wG_in tb_5 150 rfl rfl⟩
set_option maxRecDepth 20000 in
theorem k_X11_undo : mdV m_X11_undo 0 := ⟨mdB_ok (by decide +kernel), wG_in tb_5 158 (by decide +kernel) rfl, wG_in tb_5 159 (by decide +kernel) rfl, wG_in tb_1 1 (by decide +kernel) rfl, wG_in tb_5 160 rfl rfl⟩
set_option maxRecDepth 20000 in
theorem k_X11_seed : mdV m_X11_seed 1 := ⟨mdB_ok (by decide +kernel), wG_in tb_5 166 (by decide +kernel) rfl, wG_in tb_5 167 (by decide +kernel) rfl, wG_in tb_1 1 (by decide +kernel) rfl, wG_in tb_5 168 rfl rfl⟩
set_option maxRecDepth 20000 in
theorem k_X11_kept : mdV m_X11_kept 2 := ⟨mdB_ok (by decide +kernel), wG_in tb_5 170 (by decide +kernel) rfl, wG_in tb_5 171 (by decide +kernel) rfl, wG_in tb_1 1 (by decide +kernel) rfl, wG_in tb_5 172 rfl rfl⟩
set_option maxRecDepth 20000 in
theorem k_X11_work : mdV m_X11_work 3 := ⟨mdB_ok (by decide +kernel), wG_in tb_5 174 (by decide +kernel) rfl, wG_in tb_5 175 (by decide +kernel) rfl, wG_in tb_1 1 (by decide +kernel) rfl, wG_in tb_5 176 rfl rfl⟩
set_option maxRecDepth 20000 in
theorem k_X11_scholar : mdV m_X11_scholar 1 := ⟨mdB_ok (by decide +kernel), wG_in tb_5 208 (by decide +kernel) rfl, wG_in tb_5 209 (by decide +kernel) rfl, wG_in tb_1 1 (by decide +kernel) rfl, wG_in tb_5 210 rfl rfl⟩
set_option maxRecDepth 20000 in
theorem k_X11_shared : mdV m_X11_shared 2 := ⟨mdB_ok (by decide +kernel), wG_in tb_5 212 (by decide +kernel) rfl, wG_in tb_5 213 (by decide +kernel) rfl, wG_in tb_1 1 (by decide +kernel) rfl, wG_in tb_5 214 rfl rfl⟩
set_option maxRecDepth 20000 in
theorem k_X11_seated : mdV m_X11_seated 1 := ⟨mdB_ok (by decide +kernel), wG_in tb_6 13 (by decide +kernel) rfl, wG_in tb_6 14 (by decide +kernel) rfl, wG_in tb_1 1 (by decide +kernel) rfl, wG_in tb_6 15 rfl rfl⟩
set_option maxRecDepth 20000 in
theorem k_X11_most : mdV m_X11_most 3 := ⟨mdB_ok (by decide +kernel), wG_in tb_6 70 (by decide +kernel) rfl, wG_in tb_6 71 (by decide +kernel) rfl, wG_in tb_1 1 (by decide +kernel) rfl, wG_in tb_6 72 rfl rfl⟩
set_option maxRecDepth 20000 in
theorem k_X11_wax : mdV m_X11_wax 3 := ⟨mdB_ok (by decide +kernel), wG_in tb_6 90 (by decide +kernel) rfl, wG_in tb_6 91 (by decide +kernel) rfl, wG_in tb_1 1 (by decide +kernel) rfl, wG_in tb_6 92 rfl rfl⟩
set_option maxRecDepth 20000 in
theorem k_X11_index : mdV m_X11_index 2 := ⟨mdB_ok (by decide +kernel), wG_in tb_6 107 (by decide +kernel) rfl, wG_in tb_6 108 (by decide +kernel) rfl, wG_in tb_1 1 (by decide +kernel) rfl, wG_in tb_6 109 rfl rfl⟩
set_option maxRecDepth 20000 in
theorem k_X11_image : mdV m_X11_image 0 := ⟨mdB_ok (by decide +kernel), wG_in tb_6 115 (by decide +kernel) rfl, wG_in tb_6 116 (by decide +kernel) rfl, wG_in tb_1 1 (by decide +kernel) rfl, wG_in tb_6 117 rfl rfl⟩
set_option maxRecDepth 20000 in
theorem k_X11_octet : mdV m_X11_octet 1 := ⟨mdB_ok (by decide +kernel), wG_in tb_6 133 (by decide +kernel) rfl, wG_in tb_6 134 (by decide +kernel) rfl, wG_in tb_1 1 (by decide +kernel) rfl, wG_in tb_6 135 rfl rfl⟩
set_option maxRecDepth 20000 in
theorem k_X11_on : mdV m_X11_on 0 := ⟨mdB_ok (by decide +kernel), wG_in tb_6 137 (by decide +kernel) rfl, wG_in tb_6 138 (by decide +kernel) rfl, wG_in tb_1 1 (by decide +kernel) rfl, wG_in tb_6 139 rfl rfl⟩
set_option maxRecDepth 20000 in
theorem k_X11_status : mdV m_X11_status 1 := ⟨mdB_ok (by decide +kernel), wG_in tb_6 169 (by decide +kernel) rfl, wG_in tb_6 170 (by decide +kernel) rfl, wG_in tb_1 1 (by decide +kernel) rfl, wG_in tb_6 171 rfl rfl⟩
set_option maxRecDepth 20000 in
theorem k_X11_refuse : mdV m_X11_refuse 1 := ⟨mdB_ok (by decide +kernel), wG_in tb_3 105 (by decide +kernel) rfl, wG_in tp_1 1 (by decide +kernel) rfl, wG_in tb_1 1 (by decide +kernel) rfl, wG_in tb_3 106 rfl rfl⟩
set_option maxRecDepth 20000 in
theorem k_X11_deny : mdV m_X11_deny 1 := ⟨mdB_ok (by decide +kernel), wG_in tb_3 117 (by decide +kernel) rfl, wG_in tp_1 2 (by decide +kernel) rfl, wG_in tb_1 1 (by decide +kernel) rfl, wG_in tb_3 118 rfl rfl⟩
set_option maxRecDepth 20000 in
theorem k_X11_mayTell : mdV m_X11_mayTell 3 := ⟨mdB_ok (by decide +kernel), wG_in tb_5 115 (by decide +kernel) rfl, wG_in tp_3 7 (by decide +kernel) rfl, wG_in tb_1 1 (by decide +kernel) rfl, wG_in tb_5 116 rfl rfl⟩
set_option maxRecDepth 20000 in
theorem k_X11_passNight : mdV m_X11_passNight 1 := ⟨mdB_ok (by decide +kernel), wG_in tb_5 133 (by decide +kernel) rfl, wG_in tp_3 8 (by decide +kernel) rfl, wG_in tb_1 1 (by decide +kernel) rfl, wG_in tb_5 134 rfl rfl⟩
set_option maxRecDepth 20000 in
theorem k_X11_drawOf : mdV m_X11_drawOf 1 := ⟨mdB_ok (by decide +kernel), wG_in tb_5 153 (by decide +kernel) rfl, wG_in tp_3 9 (by decide +kernel) rfl, wG_in tb_1 1 (by decide +kernel) rfl, wG_in tb_5 154 rfl rfl⟩
set_option maxRecDepth 20000 in
theorem k_X12_init : mdI m_X12_init 0 := ⟨mdB_ok (by decide +kernel), wG_in tb_6 175 (by decide +kernel) rfl, wG_in tb_1 14 (by decide +kernel) rfl, wG_in tb_6 176 rfl rfl⟩
set_option maxRecDepth 20000 in
theorem k_X12_is : mdS m_X12_is 3 := ⟨mdB_ok (by decide +kernel), wG_in tb_8 84 (by decide +kernel) rfl, wG_in tb_1 14 (by decide +kernel) rfl, wG_in tb_8 85 rfl rfl⟩
set_option maxRecDepth 20000 in
theorem k_X12_put : mdV m_X12_put 1 := ⟨mdB_ok (by decide +kernel), wG_in tb_7 214 (by decide +kernel) rfl, wG_in tp_4 13 (by decide +kernel) rfl, wG_in tb_1 14 (by decide +kernel) rfl, wG_in tb_7 215 rfl rfl⟩
set_option maxRecDepth 20000 in
theorem k_X12_feed : mdV m_X12_feed 5 := ⟨mdB_ok (by decide +kernel), wG_in tb_7 205 (by decide +kernel) rfl, wG_in tb_7 206 (by decide +kernel) rfl, wG_in tb_1 14 (by decide +kernel) rfl, wG_in tb_7 207 rfl rfl⟩
set_option maxRecDepth 20000 in
theorem k_X12_end : mdV m_X12_end 1 := ⟨mdB_ok (by decide +kernel), wG_in tb_7 217 (by decide +kernel) rfl, wG_in tb_7 218 (by decide +kernel) rfl, wG_in tb_1 14 (by decide +kernel) rfl, wG_in tb_7 219 rfl rfl⟩
set_option maxRecDepth 20000 in
theorem k_X12_blame : mdV m_X12_blame 2 := ⟨mdB_ok (by decide +kernel), wG_in tb_8 33 (by decide +kernel) rfl, wG_in tp_5 2 (by decide +kernel) rfl, wG_in tb_1 14 (by decide +kernel) rfl, wG_in tb_8 34 rfl rfl⟩
set_option maxRecDepth 20000 in
theorem k_X12_isLetter : mdS m_X12_isLetter 1 := ⟨mdB_ok (by decide +kernel), wG_in tb_7 229 (by decide +kernel) rfl, wG_in tb_1 14 (by decide +kernel) rfl, wG_in tb_7 230 rfl rfl⟩
set_option maxRecDepth 20000 in
theorem k_X12_isDigit : mdS m_X12_isDigit 1 := ⟨mdB_ok (by decide +kernel), wG_in tb_7 232 (by decide +kernel) rfl, wG_in tb_1 14 (by decide +kernel) rfl, wG_in tb_7 233 rfl rfl⟩
set_option maxRecDepth 20000 in
theorem k_X12_lex : mdV m_X12_lex 0 := ⟨mdB_ok (by decide +kernel), wG_in tb_8 29 (by decide +kernel) rfl, wG_in tp_5 1 (by decide +kernel) rfl, wG_in tb_1 14 (by decide +kernel) rfl, wG_in tb_8 30 rfl rfl⟩
set_option maxRecDepth 20000 in
theorem k_X12_ahead : mdV m_X12_ahead 0 := ⟨mdB_ok (by decide +kernel), wG_in tb_7 226 (by decide +kernel) rfl, wG_in tp_4 14 (by decide +kernel) rfl, wG_in tb_1 14 (by decide +kernel) rfl, wG_in tb_7 227 rfl rfl⟩
set_option maxRecDepth 20000 in
theorem k_X12_isSign : mdV m_X12_isSign 1 := ⟨mdB_ok (by decide +kernel), wG_in tb_8 127 (by decide +kernel) rfl, wG_in tp_6 8 (by decide +kernel) rfl, wG_in tb_1 14 (by decide +kernel) rfl, wG_in tb_8 128 rfl rfl⟩
set_option maxRecDepth 20000 in
theorem k_X12_isWord : mdV m_X12_isWord 1 := ⟨mdB_ok (by decide +kernel), wG_in tb_8 37 (by decide +kernel) rfl, wG_in tp_5 3 (by decide +kernel) rfl, wG_in tb_1 14 (by decide +kernel) rfl, wG_in tb_8 38 rfl rfl⟩
set_option maxRecDepth 20000 in
theorem k_X12_must : mdV m_X12_must 1 := ⟨mdB_ok (by decide +kernel), wG_in tb_8 162 (by decide +kernel) rfl, wG_in tp_7 0 (by decide +kernel) rfl, wG_in tb_1 14 (by decide +kernel) rfl, wG_in tb_8 163 rfl rfl⟩
set_option maxRecDepth 20000 in
theorem k_X12_isOwn : mdV m_X12_isOwn 1 := ⟨mdB_ok (by decide +kernel), wG_in tb_7 236 (by decide +kernel) rfl, wG_in tp_4 15 (by decide +kernel) rfl, wG_in tb_1 14 (by decide +kernel) rfl, wG_in tb_7 237 rfl rfl⟩
set_option maxRecDepth 20000 in
theorem k_X12_manyOf : mdV m_X12_manyOf 2 := ⟨mdB_ok (by decide +kernel), wG_in tb_8 57 (by decide +kernel) rfl, wG_in tp_5 8 (by decide +kernel) rfl, wG_in tb_1 14 (by decide +kernel) rfl, wG_in tb_8 58 rfl rfl⟩
set_option maxRecDepth 20000 in
theorem k_X12_nameOf : mdV m_X12_nameOf 3 := ⟨mdB_ok (by decide +kernel), wG_in tb_8 61 (by decide +kernel) rfl, wG_in tp_5 9 (by decide +kernel) rfl, wG_in tb_1 14 (by decide +kernel) rfl, wG_in tb_8 62 rfl rfl⟩
set_option maxRecDepth 20000 in
theorem k_X12_named : mdV m_X12_named 2 := ⟨mdB_ok (by decide +kernel), wG_in tb_8 53 (by decide +kernel) rfl, wG_in tp_5 7 (by decide +kernel) rfl, wG_in tb_1 14 (by decide +kernel) rfl, wG_in tb_8 54 rfl rfl⟩
set_option maxRecDepth 20000 in
theorem k_X12_number : mdV m_X12_number 2 := ⟨mdB_ok (by decide +kernel), wG_in tb_8 81 (by decide +kernel) rfl, wG_in tp_5 14 (by decide +kernel) rfl, wG_in tb_1 14 (by decide +kernel) rfl, wG_in tb_8 82 rfl rfl⟩
set_option maxRecDepth 20000 in
theorem k_X12_add : mdV m_X12_add 2 := ⟨mdB_ok (by decide +kernel), wG_in tb_8 135 (by decide +kernel) rfl, wG_in tp_6 10 (by decide +kernel) rfl, wG_in tb_1 14 (by decide +kernel) rfl, wG_in tb_8 136 rfl rfl⟩
set_option maxRecDepth 20000 in
theorem k_X12_rank : mdS m_X12_rank 1 := ⟨mdB_ok (by decide +kernel), wG_in tb_8 146 (by decide +kernel) rfl, wG_in tb_1 14 (by decide +kernel) rfl, wG_in tb_8 147 rfl rfl⟩
set_option maxRecDepth 20000 in
theorem k_X12_joins : mdV m_X12_joins 1 := ⟨mdB_ok (by decide +kernel), wG_in tb_8 143 (by decide +kernel) rfl, wG_in tp_6 12 (by decide +kernel) rfl, wG_in tb_1 14 (by decide +kernel) rfl, wG_in tb_8 144 rfl rfl⟩
set_option maxRecDepth 20000 in
theorem k_X12_holdsBack : mdV m_X12_holdsBack 1 := ⟨mdB_ok (by decide +kernel), wG_in tb_8 123 (by decide +kernel) rfl, wG_in tp_6 7 (by decide +kernel) rfl, wG_in tb_1 14 (by decide +kernel) rfl, wG_in tb_8 124 rfl rfl⟩
set_option maxRecDepth 20000 in
theorem k_X12_pushes : mdV m_X12_pushes 1 := ⟨mdB_ok (by decide +kernel), wG_in tb_8 112 (by decide +kernel) rfl, wG_in tp_6 5 (by decide +kernel) rfl, wG_in tb_1 14 (by decide +kernel) rfl, wG_in tb_8 113 rfl rfl⟩
set_option maxRecDepth 20000 in
theorem k_X12_opens : mdV m_X12_opens 1 := ⟨mdB_ok (by decide +kernel), wG_in tb_8 131 (by decide +kernel) rfl, wG_in tp_6 9 (by decide +kernel) rfl, wG_in tb_1 14 (by decide +kernel) rfl, wG_in tb_8 132 rfl rfl⟩
set_option maxRecDepth 20000 in
theorem k_X12_isTest : mdS m_X12_isTest 1 := ⟨mdB_ok (by decide +kernel), wG_in tb_8 119 (by decide +kernel) rfl, wG_in tb_1 14 (by decide +kernel) rfl, wG_in tb_8 120 rfl rfl⟩
set_option maxRecDepth 20000 in
theorem k_X12_operand : mdV m_X12_operand 0 := ⟨mdB_ok (by decide +kernel), wG_in tb_8 116 (by decide +kernel) rfl, wG_in tp_6 6 (by decide +kernel) rfl, wG_in tb_1 14 (by decide +kernel) rfl, wG_in tb_8 117 rfl rfl⟩
set_option maxRecDepth 20000 in
theorem k_X12_goesOn : mdV m_X12_goesOn 0 := ⟨mdB_ok (by decide +kernel), wG_in tb_8 139 (by decide +kernel) rfl, wG_in tp_6 11 (by decide +kernel) rfl, wG_in tb_1 14 (by decide +kernel) rfl, wG_in tb_8 140 rfl rfl⟩
set_option maxRecDepth 20000 in
theorem k_X12_reads : mdV m_X12_reads 1 := ⟨mdB_ok (by decide +kernel), wG_in tb_8 108 (by decide +kernel) rfl, wG_in tp_6 4 (by decide +kernel) rfl, wG_in tb_1 14 (by decide +kernel) rfl, wG_in tb_8 109 rfl rfl⟩
set_option maxRecDepth 20000 in
theorem k_X12_counts : mdV m_X12_counts 1 := ⟨mdB_ok (by decide +kernel), wG_in tb_8 45 (by decide +kernel) rfl, wG_in tp_5 5 (by decide +kernel) rfl, wG_in tb_1 14 (by decide +kernel) rfl, wG_in tb_8 46 rfl rfl⟩
set_option maxRecDepth 20000 in
theorem k_X12_must_ : mdV m_X12_must_ 1 := ⟨mdB_ok (by decide +kernel), wG_in tb_8 69 (by decide +kernel) rfl, wG_in tp_5 11 (by decide +kernel) rfl, wG_in tb_1 14 (by decide +kernel) rfl, wG_in tb_8 70 rfl rfl⟩
set_option maxRecDepth 20000 in
theorem k_X12_fresh : mdV m_X12_fresh 0 := ⟨mdB_ok (by decide +kernel), wG_in tb_8 49 (by decide +kernel) rfl, wG_in tp_5 6 (by decide +kernel) rfl, wG_in tb_1 14 (by decide +kernel) rfl, wG_in tb_8 50 rfl rfl⟩
set_option maxRecDepth 20000 in
theorem k_X12_looked : mdV m_X12_looked 1 := ⟨mdB_ok (by decide +kernel), wG_in tb_8 77 (by decide +kernel) rfl, wG_in tp_5 13 (by decide +kernel) rfl, wG_in tb_1 14 (by decide +kernel) rfl, wG_in tb_8 78 rfl rfl⟩
set_option maxRecDepth 20000 in
theorem k_X12_asked : mdV m_X12_asked 1 := ⟨mdB_ok (by decide +kernel), wG_in tb_8 73 (by decide +kernel) rfl, wG_in tp_5 12 (by decide +kernel) rfl, wG_in tb_1 14 (by decide +kernel) rfl, wG_in tb_8 74 rfl rfl⟩
set_option maxRecDepth 20000 in
theorem k_X12_booking : mdV m_X12_booking 0 := ⟨mdB_ok (by decide +kernel), wG_in tb_8 41 (by decide +kernel) rfl, wG_in tp_5 4 (by decide +kernel) rfl, wG_in tb_1 14 (by decide +kernel) rfl, wG_in tb_8 42 rfl rfl⟩
set_option maxRecDepth 20000 in
theorem k_X12_paging : mdV m_X12_paging 0 := ⟨mdB_ok (by decide +kernel), wG_in tb_8 65 (by decide +kernel) rfl, wG_in tp_5 10 (by decide +kernel) rfl, wG_in tb_1 14 (by decide +kernel) rfl, wG_in tb_8 66 rfl rfl⟩
set_option maxRecDepth 20000 in
theorem k_X12_needing : mdV m_X12_needing 0 := ⟨mdB_ok (by decide +kernel), wG_in tb_8 88 (by decide +kernel) rfl, wG_in tp_5 15 (by decide +kernel) rfl, wG_in tb_1 14 (by decide +kernel) rfl, wG_in tb_8 89 rfl rfl⟩
set_option maxRecDepth 20000 in
theorem k_X12_readering : mdV m_X12_readering 0 := ⟨mdB_ok (by decide +kernel), wG_in tb_8 92 (by decide +kernel) rfl, wG_in tp_6 0 (by decide +kernel) rfl, wG_in tb_1 14 (by decide +kernel) rfl, wG_in tb_8 93 rfl rfl⟩
set_option maxRecDepth 20000 in
theorem k_X12_tabling : mdV m_X12_tabling 0 := ⟨mdB_ok (by decide +kernel), wG_in tb_8 96 (by decide +kernel) rfl, wG_in tp_6 1 (by decide +kernel) rfl, wG_in tb_1 14 (by decide +kernel) rfl, wG_in tb_8 97 rfl rfl⟩
set_option maxRecDepth 20000 in
theorem k_X12_inching : mdV m_X12_inching 0 := ⟨mdB_ok (by decide +kernel), wG_in tb_8 100 (by decide +kernel) rfl, wG_in tp_6 2 (by decide +kernel) rfl, wG_in tb_1 14 (by decide +kernel) rfl, wG_in tb_8 101 rfl rfl⟩
set_option maxRecDepth 20000 in
theorem k_X12_burning : mdV m_X12_burning 0 := ⟨mdB_ok (by decide +kernel), wG_in tb_8 104 (by decide +kernel) rfl, wG_in tp_6 3 (by decide +kernel) rfl, wG_in tb_1 14 (by decide +kernel) rfl, wG_in tb_8 105 rfl rfl⟩
set_option maxRecDepth 20000 in
theorem k_X12_taking : mdV m_X12_taking 0 := ⟨mdB_ok (by decide +kernel), wG_in tb_8 150 (by decide +kernel) rfl, wG_in tp_6 13 (by decide +kernel) rfl, wG_in tb_1 14 (by decide +kernel) rfl, wG_in tb_8 151 rfl rfl⟩
set_option maxRecDepth 20000 in
theorem k_X12_telling : mdV m_X12_telling 0 := ⟨mdB_ok (by decide +kernel), wG_in tb_8 154 (by decide +kernel) rfl, wG_in tp_6 14 (by decide +kernel) rfl, wG_in tb_1 14 (by decide +kernel) rfl, wG_in tb_8 155 rfl rfl⟩
set_option maxRecDepth 20000 in
theorem k_X12_statement : mdV m_X12_statement 0 := ⟨mdB_ok (by decide +kernel), wG_in tb_8 25 (by decide +kernel) rfl, wG_in tp_5 0 (by decide +kernel) rfl, wG_in tb_1 14 (by decide +kernel) rfl, wG_in tb_8 26 rfl rfl⟩
set_option maxRecDepth 20000 in
theorem k_X12_finishes : mdV m_X12_finishes 1 := ⟨mdB_ok (by decide +kernel), wG_in tb_8 158 (by decide +kernel) rfl, wG_in tp_6 15 (by decide +kernel) rfl, wG_in tb_1 14 (by decide +kernel) rfl, wG_in tb_8 159 rfl rfl⟩
set_option maxRecDepth 20000 in
theorem k_X12_library : mdV m_X12_library 0 := ⟨mdB_ok (by decide +kernel), wG_in tb_7 221 (by decide +kernel) rfl, wG_in tb_7 222 (by decide +kernel) rfl, wG_in tb_1 14 (by decide +kernel) rfl, wG_in tb_7 223 rfl rfl⟩
set_option maxRecDepth 20000 in
theorem k_X12_fault : mdV m_X12_fault 1 := ⟨mdB_ok (by decide +kernel), wG_in tb_8 169 (by decide +kernel) rfl, wG_in tb_8 170 (by decide +kernel) rfl, wG_in tb_1 14 (by decide +kernel) rfl, wG_in tb_8 171 rfl rfl⟩
set_option maxRecDepth 20000 in
theorem k_X12_refuses : mdV m_X12_refuses 1 := ⟨mdB_ok (by decide +kernel), wG_in tb_7 210 (by decide +kernel) rfl, wG_in tp_4 12 (by decide +kernel) rfl, wG_in tb_1 14 (by decide +kernel) rfl, wG_in tb_7 211 rfl rfl⟩
set_option maxRecDepth 20000 in
theorem k_X12_status : mdV m_X12_status 1 := ⟨mdB_ok (by decide +kernel), wG_in tb_8 173 (by decide +kernel) rfl, wG_in tb_8 174 (by decide +kernel) rfl, wG_in tb_1 14 (by decide +kernel) rfl, wG_in tb_8 175 rfl rfl⟩
set_option maxRecDepth 20000 in
theorem k_X12_isPage : mdV m_X12_isPage 1 := ⟨mdB_ok (by decide +kernel), wG_in tb_8 210 (by decide +kernel) rfl, wG_in tp_7 5 (by decide +kernel) rfl, wG_in tb_1 14 (by decide +kernel) rfl, wG_in tb_8 211 rfl rfl⟩
set_option maxRecDepth 20000 in
theorem k_X12_isReader : mdV m_X12_isReader 1 := ⟨mdB_ok (by decide +kernel), wG_in tb_8 229 (by decide +kernel) rfl, wG_in tp_7 8 (by decide +kernel) rfl, wG_in tb_1 14 (by decide +kernel) rfl, wG_in tb_8 230 rfl rfl⟩
set_option maxRecDepth 20000 in
theorem k_X12_isTable : mdV m_X12_isTable 1 := ⟨mdB_ok (by decide +kernel), wG_in tb_8 237 (by decide +kernel) rfl, wG_in tp_7 9 (by decide +kernel) rfl, wG_in tb_1 14 (by decide +kernel) rfl, wG_in tb_8 238 rfl rfl⟩
set_option maxRecDepth 20000 in
theorem k_X12_bits : mdS m_X12_bits 1 := ⟨mdB_ok (by decide +kernel), wG_in tb_8 197 (by decide +kernel) rfl, wG_in tb_1 14 (by decide +kernel) rfl, wG_in tb_8 198 rfl rfl⟩
set_option maxRecDepth 20000 in
theorem k_X12_has : mdS m_X12_has 2 := ⟨mdB_ok (by decide +kernel), wG_in tb_8 221 (by decide +kernel) rfl, wG_in tb_1 14 (by decide +kernel) rfl, wG_in tb_8 222 rfl rfl⟩
set_option maxRecDepth 20000 in
theorem k_X12_needsOf : mdV m_X12_needsOf 1 := ⟨mdB_ok (by decide +kernel), wG_in tb_8 214 (by decide +kernel) rfl, wG_in tp_7 6 (by decide +kernel) rfl, wG_in tb_1 14 (by decide +kernel) rfl, wG_in tb_8 215 rfl rfl⟩
set_option maxRecDepth 20000 in
theorem k_X12_known : mdV m_X12_known 2 := ⟨mdB_ok (by decide +kernel), wG_in tb_8 194 (by decide +kernel) rfl, wG_in tp_7 4 (by decide +kernel) rfl, wG_in tb_1 14 (by decide +kernel) rfl, wG_in tb_8 195 rfl rfl⟩
set_option maxRecDepth 20000 in
theorem k_X12_mayRead : mdV m_X12_mayRead 3 := ⟨mdB_ok (by decide +kernel), wG_in tb_9 74 (by decide +kernel) rfl, wG_in tp_8 5 (by decide +kernel) rfl, wG_in tb_1 14 (by decide +kernel) rfl, wG_in tb_9 75 rfl rfl⟩
set_option maxRecDepth 20000 in
theorem k_X12_copies : mdV m_X12_copies 2 := ⟨mdB_ok (by decide +kernel), wG_in tb_8 186 (by decide +kernel) rfl, wG_in tp_7 3 (by decide +kernel) rfl, wG_in tb_1 14 (by decide +kernel) rfl, wG_in tb_8 187 rfl rfl⟩
set_option maxRecDepth 20000 in
theorem k_X12_begin : mdV m_X12_begin 0 := ⟨mdB_ok (by decide +kernel), wG_in tb_8 166 (by decide +kernel) rfl, wG_in tp_7 1 (by decide +kernel) rfl, wG_in tb_1 14 (by decide +kernel) rfl, wG_in tb_8 167 rfl rfl⟩
set_option maxRecDepth 20000 in
theorem k_X12_ring : mdV m_X12_ring 1 := ⟨mdB_ok (by decide +kernel), wG_in tb_8 182 (by decide +kernel) rfl, wG_in tp_7 2 (by decide +kernel) rfl, wG_in tb_1 14 (by decide +kernel) rfl, wG_in tb_8 183 rfl rfl⟩
set_option maxRecDepth 20000 in
theorem k_X12_keeps : mdV m_X12_keeps 0 := ⟨mdB_ok (by decide +kernel), wG_in tb_9 94 (by decide +kernel) rfl, wG_in tp_8 8 (by decide +kernel) rfl, wG_in tb_1 14 (by decide +kernel) rfl, wG_in tb_9 95 rfl rfl⟩
set_option maxRecDepth 20000 in
theorem k_X12_undo : mdV m_X12_undo 0 := ⟨mdB_ok (by decide +kernel), wG_in tb_8 177 (by decide +kernel) rfl, wG_in tb_8 178 (by decide +kernel) rfl, wG_in tb_1 14 (by decide +kernel) rfl, wG_in tb_8 179 rfl rfl⟩
set_option maxRecDepth 20000 in
theorem k_X12_sitting : mdV m_X12_sitting 2 := ⟨mdB_ok (by decide +kernel), wG_in tb_9 1 (by decide +kernel) rfl, wG_in tp_7 10 (by decide +kernel) rfl, wG_in tb_1 14 (by decide +kernel) rfl, wG_in tb_9 2 rfl rfl⟩
set_option maxRecDepth 20000 in
theorem k_X12_draftOf : mdV m_X12_draftOf 1 := ⟨mdB_ok (by decide +kernel), wG_in tb_9 24 (by decide +kernel) rfl, wG_in tp_7 15 (by decide +kernel) rfl, wG_in tb_1 14 (by decide +kernel) rfl, wG_in tb_9 25 rfl rfl⟩
set_option maxRecDepth 20000 in
theorem k_X12_part : mdV m_X12_part 2 := ⟨mdB_ok (by decide +kernel), wG_in tb_9 20 (by decide +kernel) rfl, wG_in tp_7 14 (by decide +kernel) rfl, wG_in tb_1 14 (by decide +kernel) rfl, wG_in tb_9 21 rfl rfl⟩
set_option maxRecDepth 20000 in
theorem k_X12_held : mdS m_X12_held 1 := ⟨mdB_ok (by decide +kernel), wG_in tb_9 30 (by decide +kernel) rfl, wG_in tb_1 14 (by decide +kernel) rfl, wG_in tb_9 31 rfl rfl⟩
set_option maxRecDepth 20000 in
theorem k_X12_floor : mdS m_X12_floor 2 := ⟨mdB_ok (by decide +kernel), wG_in tb_9 35 (by decide +kernel) rfl, wG_in tb_1 14 (by decide +kernel) rfl, wG_in tb_9 36 rfl rfl⟩
set_option maxRecDepth 20000 in
theorem k_X12_two : mdS m_X12_two 3 := ⟨mdB_ok (by decide +kernel), wG_in tb_9 27 (by decide +kernel) rfl, wG_in tb_1 14 (by decide +kernel) rfl, wG_in tb_9 28 rfl rfl⟩
set_option maxRecDepth 20000 in
theorem k_X12_isPart : mdS m_X12_isPart 1 := ⟨mdB_ok (by decide +kernel), wG_in tb_9 16 (by decide +kernel) rfl, wG_in tb_1 14 (by decide +kernel) rfl, wG_in tb_9 17 rfl rfl⟩
set_option maxRecDepth 20000 in
theorem k_X12_reckons : mdV m_X12_reckons 2 := ⟨mdB_ok (by decide +kernel), wG_in tb_9 13 (by decide +kernel) rfl, wG_in tp_7 13 (by decide +kernel) rfl, wG_in tb_1 14 (by decide +kernel) rfl, wG_in tb_9 14 rfl rfl⟩
set_option maxRecDepth 20000 in
theorem k_X12_between : mdS m_X12_between 3 := ⟨mdB_ok (by decide +kernel), wG_in tb_9 38 (by decide +kernel) rfl, wG_in tb_1 14 (by decide +kernel) rfl, wG_in tb_9 39 rfl rfl⟩
set_option maxRecDepth 20000 in
theorem k_X12_longOf : mdV m_X12_longOf 3 := ⟨mdB_ok (by decide +kernel), wG_in tb_9 46 (by decide +kernel) rfl, wG_in tp_8 0 (by decide +kernel) rfl, wG_in tb_1 14 (by decide +kernel) rfl, wG_in tb_9 47 rfl rfl⟩
set_option maxRecDepth 20000 in
theorem k_X12_burnsOf : mdV m_X12_burnsOf 2 := ⟨mdB_ok (by decide +kernel), wG_in tb_9 9 (by decide +kernel) rfl, wG_in tp_7 12 (by decide +kernel) rfl, wG_in tb_1 14 (by decide +kernel) rfl, wG_in tb_9 10 rfl rfl⟩
set_option maxRecDepth 20000 in
theorem k_X12_lightOf : mdV m_X12_lightOf 2 := ⟨mdB_ok (by decide +kernel), wG_in tb_9 5 (by decide +kernel) rfl, wG_in tp_7 11 (by decide +kernel) rfl, wG_in tb_1 14 (by decide +kernel) rfl, wG_in tb_9 6 rfl rfl⟩
set_option maxRecDepth 20000 in
theorem k_X12_unlists : mdV m_X12_unlists 2 := ⟨mdB_ok (by decide +kernel), wG_in tb_9 78 (by decide +kernel) rfl, wG_in tp_8 6 (by decide +kernel) rfl, wG_in tb_1 14 (by decide +kernel) rfl, wG_in tb_9 79 rfl rfl⟩
set_option maxRecDepth 20000 in
theorem k_X12_writesDown : mdV m_X12_writesDown 3 := ⟨mdB_ok (by decide +kernel), wG_in tb_9 82 (by decide +kernel) rfl, wG_in tp_8 7 (by decide +kernel) rfl, wG_in tb_1 14 (by decide +kernel) rfl, wG_in tb_9 83 rfl rfl⟩
set_option maxRecDepth 20000 in
theorem k_X12_nextPage : mdV m_X12_nextPage 2 := ⟨mdB_ok (by decide +kernel), wG_in tb_9 70 (by decide +kernel) rfl, wG_in tp_8 4 (by decide +kernel) rfl, wG_in tb_1 14 (by decide +kernel) rfl, wG_in tb_9 71 rfl rfl⟩
set_option maxRecDepth 20000 in
theorem k_X12_readsOn : mdV m_X12_readsOn 3 := ⟨mdB_ok (by decide +kernel), wG_in tb_9 66 (by decide +kernel) rfl, wG_in tp_8 3 (by decide +kernel) rfl, wG_in tb_1 14 (by decide +kernel) rfl, wG_in tb_9 67 rfl rfl⟩
set_option maxRecDepth 20000 in
theorem k_X12_goesNight : mdV m_X12_goesNight 1 := ⟨mdB_ok (by decide +kernel), wG_in tb_9 62 (by decide +kernel) rfl, wG_in tp_8 2 (by decide +kernel) rfl, wG_in tb_1 14 (by decide +kernel) rfl, wG_in tb_9 63 rfl rfl⟩
set_option maxRecDepth 20000 in
theorem k_X12_triesNight : mdV m_X12_triesNight 0 := ⟨mdB_ok (by decide +kernel), wG_in tb_9 58 (by decide +kernel) rfl, wG_in tp_8 1 (by decide +kernel) rfl, wG_in tb_1 14 (by decide +kernel) rfl, wG_in tb_9 59 rfl rfl⟩
set_option maxRecDepth 20000 in
theorem k_X12_has_ : mdV m_X12_has_ 1 := ⟨mdB_ok (by decide +kernel), wG_in tb_8 189 (by decide +kernel) rfl, wG_in tb_8 190 (by decide +kernel) rfl, wG_in tb_1 14 (by decide +kernel) rfl, wG_in tb_8 191 rfl rfl⟩
set_option maxRecDepth 20000 in
theorem k_X12_letter : mdV m_X12_letter 3 := ⟨mdB_ok (by decide +kernel), wG_in tb_8 200 (by decide +kernel) rfl, wG_in tb_8 201 (by decide +kernel) rfl, wG_in tb_1 14 (by decide +kernel) rfl, wG_in tb_8 202 rfl rfl⟩
set_option maxRecDepth 20000 in
theorem k_X12_closed : mdV m_X12_closed 3 := ⟨mdB_ok (by decide +kernel), wG_in tb_8 218 (by decide +kernel) rfl, wG_in tp_7 7 (by decide +kernel) rfl, wG_in tb_1 14 (by decide +kernel) rfl, wG_in tb_8 219 rfl rfl⟩
set_option maxRecDepth 20000 in
theorem k_X12_page : mdV m_X12_page 2 := ⟨mdB_ok (by decide +kernel), wG_in tb_8 205 (by decide +kernel) rfl, wG_in tb_8 206 (by decide +kernel) rfl, wG_in tb_1 14 (by decide +kernel) rfl, wG_in tb_8 207 rfl rfl⟩
set_option maxRecDepth 20000 in
theorem k_X12_reader : mdV m_X12_reader 2 := ⟨mdB_ok (by decide +kernel), wG_in tb_8 224 (by decide +kernel) rfl, wG_in tb_8 225 (by decide +kernel) rfl, wG_in tb_1 14 (by decide +kernel) rfl, wG_in tb_8 226 rfl rfl⟩
set_option maxRecDepth 20000 in
theorem k_X12_table : mdV m_X12_table 2 := ⟨mdB_ok (by decide +kernel), wG_in tb_8 232 (by decide +kernel) rfl, wG_in tb_8 233 (by decide +kernel) rfl, wG_in tb_1 14 (by decide +kernel) rfl, wG_in tb_8 234 rfl rfl⟩
set_option maxRecDepth 20000 in
theorem k_X12_takes : mdV m_X12_takes 2 := ⟨mdB_ok (by decide +kernel), wG_in tb_9 41 (by decide +kernel) rfl, wG_in tb_9 42 (by decide +kernel) rfl, wG_in tb_1 14 (by decide +kernel) rfl, wG_in tb_9 43 rfl rfl⟩
set_option maxRecDepth 20000 in
theorem k_X12_burns : mdV m_X12_burns 1 := ⟨mdB_ok (by decide +kernel), wG_in tb_9 49 (by decide +kernel) rfl, wG_in tb_9 50 (by decide +kernel) rfl, wG_in tb_1 14 (by decide +kernel) rfl, wG_in tb_9 51 rfl rfl⟩
set_option maxRecDepth 20000 in
theorem k_X12_tonight : mdV m_X12_tonight 2 := ⟨mdB_ok (by decide +kernel), wG_in tb_9 53 (by decide +kernel) rfl, wG_in tb_9 54 (by decide +kernel) rfl, wG_in tb_1 14 (by decide +kernel) rfl, wG_in tb_9 55 rfl rfl⟩
set_option maxRecDepth 20000 in
theorem k_X12_whole : mdV m_X12_whole 1 := ⟨mdB_ok (by decide +kernel), wG_in tb_9 85 (by decide +kernel) rfl, wG_in tb_9 86 (by decide +kernel) rfl, wG_in tb_1 14 (by decide +kernel) rfl, wG_in tb_9 87 rfl rfl⟩
set_option maxRecDepth 20000 in
theorem k_X12_seat : mdV m_X12_seat 2 := ⟨mdB_ok (by decide +kernel), wG_in tb_9 89 (by decide +kernel) rfl, wG_in tb_9 90 (by decide +kernel) rfl, wG_in tb_1 14 (by decide +kernel) rfl, wG_in tb_9 91 rfl rfl⟩
set_option maxRecDepth 20000 in
theorem k_X12_isListed : mdV m_X12_isListed 3 := ⟨mdB_ok (by decide +kernel), wG_in tb_9 102 (by decide +kernel) rfl, wG_in tp_8 9 (by decide +kernel) rfl, wG_in tb_1 14 (by decide +kernel) rfl, wG_in tb_9 103 rfl rfl⟩
set_option maxRecDepth 20000 in
theorem k_X12_list : mdV m_X12_list 2 := ⟨mdB_ok (by decide +kernel), wG_in tb_9 97 (by decide +kernel) rfl, wG_in tb_9 98 (by decide +kernel) rfl, wG_in tb_1 14 (by decide +kernel) rfl, wG_in tb_9 99 rfl rfl⟩
set_option maxRecDepth 20000 in
theorem k_X12_drop : mdV m_X12_drop 1 := ⟨mdB_ok (by decide +kernel), wG_in tb_9 105 (by decide +kernel) rfl, wG_in tb_9 106 (by decide +kernel) rfl, wG_in tb_1 14 (by decide +kernel) rfl, wG_in tb_9 107 rfl rfl⟩
set_option maxRecDepth 20000 in
theorem k_X12_mayHear : mdV m_X12_mayHear 2 := ⟨mdB_ok (by decide +kernel), wG_in tb_9 114 (by decide +kernel) rfl, wG_in tp_8 10 (by decide +kernel) rfl, wG_in tb_1 14 (by decide +kernel) rfl, wG_in tb_9 115 rfl rfl⟩
set_option maxRecDepth 20000 in
theorem k_X12_tell : mdV m_X12_tell 3 := ⟨mdB_ok (by decide +kernel), wG_in tb_9 109 (by decide +kernel) rfl, wG_in tb_9 110 (by decide +kernel) rfl, wG_in tb_1 14 (by decide +kernel) rfl, wG_in tb_9 111 rfl rfl⟩
set_option maxRecDepth 20000 in
theorem k_X12_nightGoes : mdV m_X12_nightGoes 0 := ⟨mdB_ok (by decide +kernel), wG_in tb_9 122 (by decide +kernel) rfl, wG_in tp_8 11 (by decide +kernel) rfl, wG_in tb_1 14 (by decide +kernel) rfl, wG_in tb_9 123 rfl rfl⟩
set_option maxRecDepth 20000 in
theorem k_X12_night : mdV m_X12_night 0 := ⟨mdB_ok (by decide +kernel), wG_in tb_9 117 (by decide +kernel) rfl, wG_in tb_9 118 (by decide +kernel) rfl, wG_in tb_1 14 (by decide +kernel) rfl, wG_in tb_9 119 rfl rfl⟩
set_option maxRecDepth 20000 in
theorem k_X12_draw : mdV m_X12_draw 1 := ⟨mdB_ok (by decide +kernel), wG_in tb_9 130 (by decide +kernel) rfl, wG_in tp_8 12 (by decide +kernel) rfl, wG_in tb_1 14 (by decide +kernel) rfl, wG_in tb_9 131 rfl rfl⟩
set_option maxRecDepth 20000 in
theorem k_X12_winter : mdV m_X12_winter 1 := ⟨mdB_ok (by decide +kernel), wG_in tb_9 125 (by decide +kernel) rfl, wG_in tb_9 126 (by decide +kernel) rfl, wG_in tb_1 14 (by decide +kernel) rfl, wG_in tb_9 127 rfl rfl⟩
set_option maxRecDepth 20000 in
theorem k_X12_seed : mdV m_X12_seed 1 := ⟨mdB_ok (by decide +kernel), wG_in tb_9 137 (by decide +kernel) rfl, wG_in tb_9 138 (by decide +kernel) rfl, wG_in tb_1 14 (by decide +kernel) rfl, wG_in tb_9 139 rfl rfl⟩
set_option maxRecDepth 20000 in
theorem k_X12_kept : mdV m_X12_kept 2 := ⟨mdB_ok (by decide +kernel), wG_in tb_9 141 (by decide +kernel) rfl, wG_in tb_9 142 (by decide +kernel) rfl, wG_in tb_1 14 (by decide +kernel) rfl, wG_in tb_9 143 rfl rfl⟩
set_option maxRecDepth 20000 in
theorem k_X12_isQuestion : mdV m_X12_isQuestion 1 := ⟨mdB_ok (by decide +kernel), wG_in tb_9 150 (by decide +kernel) rfl, wG_in tp_8 13 (by decide +kernel) rfl, wG_in tb_1 14 (by decide +kernel) rfl, wG_in tb_9 151 rfl rfl⟩
set_option maxRecDepth 20000 in
theorem k_X12_minutesOf : mdV m_X12_minutesOf 2 := ⟨mdB_ok (by decide +kernel), wG_in tb_9 158 (by decide +kernel) rfl, wG_in tp_8 15 (by decide +kernel) rfl, wG_in tb_1 14 (by decide +kernel) rfl, wG_in tb_9 159 rfl rfl⟩
set_option maxRecDepth 20000 in
theorem k_X12_workOf : mdV m_X12_workOf 3 := ⟨mdB_ok (by decide +kernel), wG_in tb_9 154 (by decide +kernel) rfl, wG_in tp_8 14 (by decide +kernel) rfl, wG_in tb_1 14 (by decide +kernel) rfl, wG_in tb_9 155 rfl rfl⟩
set_option maxRecDepth 20000 in
theorem k_X12_nightsFor : mdV m_X12_nightsFor 2 := ⟨mdB_ok (by decide +kernel), wG_in tb_9 162 (by decide +kernel) rfl, wG_in tp_9 0 (by decide +kernel) rfl, wG_in tb_1 14 (by decide +kernel) rfl, wG_in tb_9 163 rfl rfl⟩
set_option maxRecDepth 20000 in
theorem k_X12_work : mdV m_X12_work 3 := ⟨mdB_ok (by decide +kernel), wG_in tb_9 145 (by decide +kernel) rfl, wG_in tb_9 146 (by decide +kernel) rfl, wG_in tb_1 14 (by decide +kernel) rfl, wG_in tb_9 147 rfl rfl⟩
set_option maxRecDepth 20000 in
theorem k_X12_scholar : mdV m_X12_scholar 1 := ⟨mdB_ok (by decide +kernel), wG_in tb_9 165 (by decide +kernel) rfl, wG_in tb_9 166 (by decide +kernel) rfl, wG_in tb_1 14 (by decide +kernel) rfl, wG_in tb_9 167 rfl rfl⟩
set_option maxRecDepth 20000 in
theorem k_X12_sharesOut : mdV m_X12_sharesOut 2 := ⟨mdB_ok (by decide +kernel), wG_in tb_9 179 (by decide +kernel) rfl, wG_in tp_9 2 (by decide +kernel) rfl, wG_in tb_1 14 (by decide +kernel) rfl, wG_in tb_9 180 rfl rfl⟩
set_option maxRecDepth 20000 in
theorem k_X12_shares : mdV m_X12_shares 2 := ⟨mdB_ok (by decide +kernel), wG_in tb_9 175 (by decide +kernel) rfl, wG_in tp_9 1 (by decide +kernel) rfl, wG_in tb_1 14 (by decide +kernel) rfl, wG_in tb_9 176 rfl rfl⟩
set_option maxRecDepth 20000 in
theorem k_X12_shared : mdV m_X12_shared 2 := ⟨mdB_ok (by decide +kernel), wG_in tb_9 170 (by decide +kernel) rfl, wG_in tb_9 171 (by decide +kernel) rfl, wG_in tb_1 14 (by decide +kernel) rfl, wG_in tb_9 172 rfl rfl⟩
set_option maxRecDepth 20000 in
theorem k_X12_seated : mdV m_X12_seated 1 := ⟨mdB_ok (by decide +kernel), wG_in tb_9 182 (by decide +kernel) rfl, wG_in tb_9 183 (by decide +kernel) rfl, wG_in tb_1 14 (by decide +kernel) rfl, wG_in tb_9 184 rfl rfl⟩
set_option maxRecDepth 20000 in
theorem k_X12_most : mdV m_X12_most 3 := ⟨mdB_ok (by decide +kernel), wG_in tb_9 186 (by decide +kernel) rfl, wG_in tb_9 187 (by decide +kernel) rfl, wG_in tb_1 14 (by decide +kernel) rfl, wG_in tb_9 188 rfl rfl⟩
set_option maxRecDepth 20000 in
theorem k_X12_wax : mdV m_X12_wax 3 := ⟨mdB_ok (by decide +kernel), wG_in tb_9 190 (by decide +kernel) rfl, wG_in tb_9 191 (by decide +kernel) rfl, wG_in tb_1 14 (by decide +kernel) rfl, wG_in tb_9 192 rfl rfl⟩
set_option maxRecDepth 20000 in
theorem k_X12_allWork : mdV m_X12_allWork 2 := ⟨mdB_ok (by decide +kernel), wG_in tb_9 199 (by decide +kernel) rfl, wG_in tp_9 3 (by decide +kernel) rfl, wG_in tb_1 14 (by decide +kernel) rfl, wG_in tb_9 200 rfl rfl⟩
set_option maxRecDepth 20000 in
theorem k_X12_index : mdV m_X12_index 2 := ⟨mdB_ok (by decide +kernel), wG_in tb_9 194 (by decide +kernel) rfl, wG_in tb_9 195 (by decide +kernel) rfl, wG_in tb_1 14 (by decide +kernel) rfl, wG_in tb_9 196 rfl rfl⟩
set_option maxRecDepth 20000 in
theorem k_X12_writes : mdV m_X12_writes 1 := ⟨mdB_ok (by decide +kernel), wG_in tb_9 211 (by decide +kernel) rfl, wG_in tp_9 5 (by decide +kernel) rfl, wG_in tb_1 14 (by decide +kernel) rfl, wG_in tb_9 212 rfl rfl⟩
set_option maxRecDepth 20000 in
theorem k_X12_writesTwo : mdV m_X12_writesTwo 1 := ⟨mdB_ok (by decide +kernel), wG_in tb_9 207 (by decide +kernel) rfl, wG_in tp_9 4 (by decide +kernel) rfl, wG_in tb_1 14 (by decide +kernel) rfl, wG_in tb_9 208 rfl rfl⟩
set_option maxRecDepth 20000 in
theorem k_X12_image : mdV m_X12_image 0 := ⟨mdB_ok (by decide +kernel), wG_in tb_9 202 (by decide +kernel) rfl, wG_in tb_9 203 (by decide +kernel) rfl, wG_in tb_1 14 (by decide +kernel) rfl, wG_in tb_9 204 rfl rfl⟩
set_option maxRecDepth 20000 in
theorem k_X12_octet : mdV m_X12_octet 1 := ⟨mdB_ok (by decide +kernel), wG_in tb_9 214 (by decide +kernel) rfl, wG_in tb_9 215 (by decide +kernel) rfl, wG_in tb_1 14 (by decide +kernel) rfl, wG_in tb_9 216 rfl rfl⟩
set_option maxRecDepth 20000 in
theorem k_X12_twoBytes : mdV m_X12_twoBytes 1 := ⟨mdB_ok (by decide +kernel), wG_in tb_9 227 (by decide +kernel) rfl, wG_in tp_9 7 (by decide +kernel) rfl, wG_in tb_1 14 (by decide +kernel) rfl, wG_in tb_9 228 rfl rfl⟩
set_option maxRecDepth 20000 in
theorem k_X12_readerOn : mdV m_X12_readerOn 3 := ⟨mdB_ok (by decide +kernel), wG_in tb_9 231 (by decide +kernel) rfl, wG_in tp_9 8 (by decide +kernel) rfl, wG_in tb_1 14 (by decide +kernel) rfl, wG_in tb_9 232 rfl rfl⟩
set_option maxRecDepth 20000 in
theorem k_X12_comesOn : mdV m_X12_comesOn 1 := ⟨mdB_ok (by decide +kernel), wG_in tb_9 223 (by decide +kernel) rfl, wG_in tp_9 6 (by decide +kernel) rfl, wG_in tb_1 14 (by decide +kernel) rfl, wG_in tb_9 224 rfl rfl⟩
set_option maxRecDepth 20000 in
theorem k_X12_on : mdV m_X12_on 0 := ⟨mdB_ok (by decide +kernel), wG_in tb_9 218 (by decide +kernel) rfl, wG_in tb_9 219 (by decide +kernel) rfl, wG_in tb_1 14 (by decide +kernel) rfl, wG_in tb_9 220 rfl rfl⟩
set_option maxRecDepth 20000 in
theorem k_J6_bitCount_0f7a4 : mdS m_J6_bitCount_0f7a4 1 := ⟨mdB_ok (by decide +kernel), wG_in tb_4 144 (by decide +kernel) rfl, wG_in tb_1 20 (by decide +kernel) rfl, wG_in tb_4 145 rfl rfl⟩
set_option maxRecDepth 20000 in
theorem k_J9_floorDiv_f86c9 : mdS m_J9_floorDiv_f86c9 2 := ⟨mdB_ok (by decide +kernel), wG_in tb_4 216 (by decide +kernel) rfl, wG_in tb_1 19 (by decide +kernel) rfl, wG_in tb_4 217 rfl rfl⟩
set_option maxRecDepth 20000 in
theorem k_J9_floorMod_f86c9 : mdS m_J9_floorMod_f86c9 2 := ⟨mdB_ok (by decide +kernel), wG_in tb_4 219 (by decide +kernel) rfl, wG_in tb_1 19 (by decide +kernel) rfl, wG_in tb_4 220 rfl rfl⟩
set_option maxRecDepth 20000 in
theorem k_J9_max_7cf53 : mdS m_J9_max_7cf53 2 := ⟨mdB_ok (by decide +kernel), wG_in tb_4 222 (by decide +kernel) rfl, wG_in tb_1 19 (by decide +kernel) rfl, wG_in tb_4 223 rfl rfl⟩
set_option maxRecDepth 20000 in
theorem k_J9_max_f86c9 : mdS m_J9_max_f86c9 2 := ⟨mdB_ok (by decide +kernel), wG_in tb_6 50 (by decide +kernel) rfl, wG_in tb_1 19 (by decide +kernel) rfl, wG_in tb_6 51 rfl rfl⟩
set_option maxRecDepth 20000 in
theorem k_J9_min_7cf53 : mdS m_J9_min_7cf53 2 := ⟨mdB_ok (by decide +kernel), wG_in tb_4 129 (by decide +kernel) rfl, wG_in tb_1 19 (by decide +kernel) rfl, wG_in tb_4 130 rfl rfl⟩
set_option maxRecDepth 20000 in
theorem k_J0_charAt_5068e : mdV m_J0_charAt_5068e 1 := ⟨mdB_ok (by decide +kernel), wG_in tb_3 153 (by decide +kernel) rfl, wG_in tb_3 154 (by decide +kernel) rfl, wG_in tb_1 15 (by decide +kernel) rfl, wG_in tb_3 155 rfl rfl⟩
set_option maxRecDepth 20000 in
theorem k_J0_isLatin1_aae02 : mdV m_J0_isLatin1_aae02 0 := ⟨mdB_ok (by decide +kernel), wG_in tb_3 157 (by decide +kernel) rfl, wG_in tb_3 158 (by decide +kernel) rfl, wG_in tb_1 15 (by decide +kernel) rfl, wG_in tb_3 159 rfl rfl⟩
set_option maxRecDepth 20000 in
theorem k_J0_checkIndex_df160 : mdS m_J0_checkIndex_df160 2 := ⟨mdB_ok (by decide +kernel), wG_in tb_3 166 (by decide +kernel) rfl, wG_in tb_1 15 (by decide +kernel) rfl, wG_in tb_3 167 rfl rfl⟩
set_option maxRecDepth 20000 in
theorem k_J1_charAt_3b067 : mdS m_J1_charAt_3b067 2 := ⟨mdB_ok (by decide +kernel), wG_in tb_3 163 (by decide +kernel) rfl, wG_in tb_1 16 (by decide +kernel) rfl, wG_in tb_3 164 rfl rfl⟩
set_option maxRecDepth 20000 in
theorem k_J2_getChar_3b067 : mdS m_J2_getChar_3b067 2 := ⟨mdB_ok (by decide +kernel), wG_in tb_3 184 (by decide +kernel) rfl, wG_in tb_1 18 (by decide +kernel) rfl, wG_in tb_3 185 rfl rfl⟩
set_option maxRecDepth 20000 in
theorem k_J2_length_9d52b : mdS m_J2_length_9d52b 1 := ⟨mdB_ok (by decide +kernel), wG_in tb_3 180 (by decide +kernel) rfl, wG_in tb_1 18 (by decide +kernel) rfl, wG_in tb_3 181 rfl rfl⟩
set_option maxRecDepth 20000 in
theorem k_J2_charAt_3b067 : mdS m_J2_charAt_3b067 2 := ⟨mdB_ok (by decide +kernel), wG_in tb_3 174 (by decide +kernel) rfl, wG_in tb_1 18 (by decide +kernel) rfl, wG_in tb_3 175 rfl rfl⟩
set_option maxRecDepth 20000 in
theorem k_J2_checkIndex_2214a : mdS m_J2_checkIndex_2214a 2 := ⟨mdB_ok (by decide +kernel), wG_in tb_3 177 (by decide +kernel) rfl, wG_in tb_1 18 (by decide +kernel) rfl, wG_in tb_3 178 rfl rfl⟩
set_option maxRecDepth 20000 in
theorem k_J7_fill_d0a16 : mdS m_J7_fill_d0a16 2 := ⟨mdB_ok (by decide +kernel), wG_in tb_6 22 (by decide +kernel) rfl, wG_in tb_1 6 (by decide +kernel) rfl, wG_in tb_6 23 rfl rfl⟩
set_option maxRecDepth 20000 in
theorem k_J7_fill_53178 : mdS m_J7_fill_53178 2 := ⟨mdB_ok (by decide +kernel), wG_in tb_1 105 (by decide +kernel) rfl, wG_in tb_1 6 (by decide +kernel) rfl, wG_in tb_1 106 rfl rfl⟩
set_option maxRecDepth 20000 in
theorem k_J3_checkIndex_8e157 : mdS m_J3_checkIndex_8e157 3 := ⟨mdB_ok (by decide +kernel), wG_in tb_3 171 (by decide +kernel) rfl, wG_in tb_1 17 (by decide +kernel) rfl, wG_in tb_3 172 rfl rfl⟩
set_option maxRecDepth 20000 in
theorem l_X11_1 : Cond.methodLink RX11 1 objectInit ∈ wG := wG_in tb_1 27 (by decide +kernel) rfl
set_option maxRecDepth 20000 in
theorem n_X11_7 : Cond.classLink RX11 7 RX10 ∈ wG := wG_in tb_1 30 (by decide +kernel) rfl
set_option maxRecDepth 20000 in
theorem l_X10_3 : Cond.methodLink RX10 3 objectInit ∈ wG := wG_in tb_1 35 (by decide +kernel) rfl
set_option maxRecDepth 20000 in
theorem f_X10_9 : Cond.fieldLink RX10 9 (TX10 0).1 (TX10 0).2.1 (TX10 0).2.2.1 ∈ wG := wG_in tb_1 36 (by decide +kernel) rfl
set_option maxRecDepth 20000 in
theorem f_X11_102 : Cond.fieldLink RX11 102 (TX10 1).1 (TX10 1).2.1 (TX10 1).2.2.1 ∈ wG := wG_in tb_1 37 (by decide +kernel) rfl
set_option maxRecDepth 20000 in
theorem f_X10_15 : Cond.fieldLink RX10 15 (TX10 1).1 (TX10 1).2.1 (TX10 1).2.2.1 ∈ wG := wG_in tb_1 38 (by decide +kernel) rfl
set_option maxRecDepth 20000 in
theorem f_X3_50 : Cond.fieldLink RX3 50 (TX10 1).1 (TX10 1).2.1 (TX10 1).2.2.1 ∈ wG := wG_in tb_1 39 (by decide +kernel) rfl
set_option maxRecDepth 20000 in
theorem f_X4_69 : Cond.fieldLink RX4 69 (TX10 1).1 (TX10 1).2.1 (TX10 1).2.2.1 ∈ wG := wG_in tb_1 40 (by decide +kernel) rfl
set_option maxRecDepth 20000 in
theorem f_X3_39 : Cond.fieldLink RX3 39 (TX10 2).1 (TX10 2).2.1 (TX10 2).2.2.1 ∈ wG := wG_in tb_1 41 (by decide +kernel) rfl
set_option maxRecDepth 20000 in
theorem f_X10_22 : Cond.fieldLink RX10 22 (TX10 2).1 (TX10 2).2.1 (TX10 2).2.2.1 ∈ wG := wG_in tb_1 42 (by decide +kernel) rfl
set_option maxRecDepth 20000 in
theorem f_X3_71 : Cond.fieldLink RX3 71 (TX10 3).1 (TX10 3).2.1 (TX10 3).2.2.1 ∈ wG := wG_in tb_1 43 (by decide +kernel) rfl
set_option maxRecDepth 20000 in
theorem f_X10_28 : Cond.fieldLink RX10 28 (TX10 3).1 (TX10 3).2.1 (TX10 3).2.2.1 ∈ wG := wG_in tb_1 44 (by decide +kernel) rfl
set_option maxRecDepth 20000 in
theorem f_X7_77 : Cond.fieldLink RX7 77 (TX10 3).1 (TX10 3).2.1 (TX10 3).2.2.1 ∈ wG := wG_in tb_1 45 (by decide +kernel) rfl
set_option maxRecDepth 20000 in
theorem f_X10_19 : Cond.fieldLink RX10 19 (TX10 4).1 (TX10 4).2.1 (TX10 4).2.2.1 ∈ wG := wG_in tb_1 46 (by decide +kernel) rfl
set_option maxRecDepth 20000 in
theorem f_X7_82 : Cond.fieldLink RX7 82 (TX10 4).1 (TX10 4).2.1 (TX10 4).2.2.1 ∈ wG := wG_in tb_1 47 (by decide +kernel) rfl
set_option maxRecDepth 20000 in
theorem f_X3_60 : Cond.fieldLink RX3 60 (TX10 5).1 (TX10 5).2.1 (TX10 5).2.2.1 ∈ wG := wG_in tb_1 48 (by decide +kernel) rfl
set_option maxRecDepth 20000 in
theorem f_X10_35 : Cond.fieldLink RX10 35 (TX10 5).1 (TX10 5).2.1 (TX10 5).2.2.1 ∈ wG := wG_in tb_1 49 (by decide +kernel) rfl
set_option maxRecDepth 20000 in
theorem f_X10_58 : Cond.fieldLink RX10 58 (TX10 6).1 (TX10 6).2.1 (TX10 6).2.2.1 ∈ wG := wG_in tb_1 50 (by decide +kernel) rfl
set_option maxRecDepth 20000 in
theorem f_X3_214 : Cond.fieldLink RX3 214 (TX10 6).1 (TX10 6).2.1 (TX10 6).2.2.1 ∈ wG := wG_in tb_1 51 (by decide +kernel) rfl
set_option maxRecDepth 20000 in
theorem n_X11_16 : Cond.classLink RX11 16 RX3 ∈ wG := wG_in tb_1 68 (by decide +kernel) rfl
set_option maxRecDepth 20000 in
theorem l_X11_18 : Cond.methodLink RX11 18 yX3_init ∈ wG := wG_in tb_1 70 (by decide +kernel) rfl
set_option maxRecDepth 20000 in
theorem l_X3_3 : Cond.methodLink RX3 3 objectInit ∈ wG := wG_in tb_1 73 (by decide +kernel) rfl
set_option maxRecDepth 20000 in
theorem f_X3_15 : Cond.fieldLink RX3 15 (TX3 0).1 (TX3 0).2.1 (TX3 0).2.2.1 ∈ wG := wG_in tb_1 74 (by decide +kernel) rfl
set_option maxRecDepth 20000 in
theorem f_X3_19 : Cond.fieldLink RX3 19 (TX3 1).1 (TX3 1).2.1 (TX3 1).2.2.1 ∈ wG := wG_in tb_1 75 (by decide +kernel) rfl
set_option maxRecDepth 20000 in
theorem f_X3_28 : Cond.fieldLink RX3 28 (TX3 2).1 (TX3 2).2.1 (TX3 2).2.2.1 ∈ wG := wG_in tb_1 76 (by decide +kernel) rfl
set_option maxRecDepth 20000 in
theorem f_X11_127 : Cond.fieldLink RX11 127 (TX3 2).1 (TX3 2).2.1 (TX3 2).2.2.1 ∈ wG := wG_in tb_1 77 (by decide +kernel) rfl
set_option maxRecDepth 20000 in
theorem f_X3_9 : Cond.fieldLink RX3 9 (TX3 3).1 (TX3 3).2.1 (TX3 3).2.2.1 ∈ wG := wG_in tb_1 78 (by decide +kernel) rfl
set_option maxRecDepth 20000 in
theorem f_X11_130 : Cond.fieldLink RX11 130 (TX3 3).1 (TX3 3).2.1 (TX3 3).2.2.1 ∈ wG := wG_in tb_1 79 (by decide +kernel) rfl
set_option maxRecDepth 20000 in
theorem f_X3_31 : Cond.fieldLink RX3 31 (TX3 4).1 (TX3 4).2.1 (TX3 4).2.2.1 ∈ wG := wG_in tb_1 80 (by decide +kernel) rfl
set_option maxRecDepth 20000 in
theorem n_X11_25 : Cond.classLink RX11 25 RX2 ∈ wG := wG_in tb_1 92 (by decide +kernel) rfl
set_option maxRecDepth 20000 in
theorem n_X11_27 : Cond.classLink RX11 27 RX7 ∈ wG := wG_in tb_1 94 (by decide +kernel) rfl
set_option maxRecDepth 20000 in
theorem l_X11_29 : Cond.methodLink RX11 29 yX7_init ∈ wG := wG_in tb_1 96 (by decide +kernel) rfl
set_option maxRecDepth 20000 in
theorem l_X7_3 : Cond.methodLink RX7 3 objectInit ∈ wG := wG_in tb_1 99 (by decide +kernel) rfl
set_option maxRecDepth 20000 in
theorem l_X7_51 : Cond.methodLink RX7 51 yX7_clear ∈ wG := wG_in tb_1 100 (by decide +kernel) rfl
set_option maxRecDepth 20000 in
theorem l_X7_54 : Cond.methodLink RX7 54 yJ7_fill_53178 ∈ wG := wG_in tb_1 104 (by decide +kernel) rfl
set_option maxRecDepth 20000 in
theorem f_X7_9 : Cond.fieldLink RX7 9 (TX7 0).1 (TX7 0).2.1 (TX7 0).2.2.1 ∈ wG := wG_in tb_1 107 (by decide +kernel) rfl
set_option maxRecDepth 20000 in
theorem f_X1_54 : Cond.fieldLink RX1 54 (TX7 0).1 (TX7 0).2.1 (TX7 0).2.2.1 ∈ wG := wG_in tb_1 108 (by decide +kernel) rfl
set_option maxRecDepth 20000 in
theorem f_X4_33 : Cond.fieldLink RX4 33 (TX7 0).1 (TX7 0).2.1 (TX7 0).2.2.1 ∈ wG := wG_in tb_1 109 (by decide +kernel) rfl
set_option maxRecDepth 20000 in
theorem f_X3_46 : Cond.fieldLink RX3 46 (TX7 0).1 (TX7 0).2.1 (TX7 0).2.2.1 ∈ wG := wG_in tb_1 110 (by decide +kernel) rfl
set_option maxRecDepth 20000 in
theorem f_X8_57 : Cond.fieldLink RX8 57 (TX7 0).1 (TX7 0).2.1 (TX7 0).2.2.1 ∈ wG := wG_in tb_1 111 (by decide +kernel) rfl
set_option maxRecDepth 20000 in
theorem f_X6_65 : Cond.fieldLink RX6 65 (TX7 0).1 (TX7 0).2.1 (TX7 0).2.2.1 ∈ wG := wG_in tb_1 112 (by decide +kernel) rfl
set_option maxRecDepth 20000 in
theorem f_X5_59 : Cond.fieldLink RX5 59 (TX7 0).1 (TX7 0).2.1 (TX7 0).2.2.1 ∈ wG := wG_in tb_1 113 (by decide +kernel) rfl
set_option maxRecDepth 20000 in
theorem f_X11_133 : Cond.fieldLink RX11 133 (TX7 0).1 (TX7 0).2.1 (TX7 0).2.2.1 ∈ wG := wG_in tb_1 114 (by decide +kernel) rfl
set_option maxRecDepth 20000 in
theorem f_X9_88 : Cond.fieldLink RX9 88 (TX7 0).1 (TX7 0).2.1 (TX7 0).2.2.1 ∈ wG := wG_in tb_1 115 (by decide +kernel) rfl
set_option maxRecDepth 20000 in
theorem f_X2_67 : Cond.fieldLink RX2 67 (TX7 0).1 (TX7 0).2.1 (TX7 0).2.2.1 ∈ wG := wG_in tb_1 116 (by decide +kernel) rfl
set_option maxRecDepth 20000 in
theorem f_X7_15 : Cond.fieldLink RX7 15 (TX7 1).1 (TX7 1).2.1 (TX7 1).2.2.1 ∈ wG := wG_in tb_1 117 (by decide +kernel) rfl
set_option maxRecDepth 20000 in
theorem f_X11_159 : Cond.fieldLink RX11 159 (TX7 1).1 (TX7 1).2.1 (TX7 1).2.2.1 ∈ wG := wG_in tb_1 118 (by decide +kernel) rfl
set_option maxRecDepth 20000 in
theorem f_X7_18 : Cond.fieldLink RX7 18 (TX7 2).1 (TX7 2).2.1 (TX7 2).2.2.1 ∈ wG := wG_in tb_1 119 (by decide +kernel) rfl
set_option maxRecDepth 20000 in
theorem f_X3_122 : Cond.fieldLink RX3 122 (TX7 2).1 (TX7 2).2.1 (TX7 2).2.2.1 ∈ wG := wG_in tb_1 120 (by decide +kernel) rfl
set_option maxRecDepth 20000 in
theorem f_X11_165 : Cond.fieldLink RX11 165 (TX7 2).1 (TX7 2).2.1 (TX7 2).2.2.1 ∈ wG := wG_in tb_1 121 (by decide +kernel) rfl
set_option maxRecDepth 20000 in
theorem f_X7_21 : Cond.fieldLink RX7 21 (TX7 3).1 (TX7 3).2.1 (TX7 3).2.2.1 ∈ wG := wG_in tb_1 122 (by decide +kernel) rfl
set_option maxRecDepth 20000 in
theorem f_X9_81 : Cond.fieldLink RX9 81 (TX7 3).1 (TX7 3).2.1 (TX7 3).2.2.1 ∈ wG := wG_in tb_1 123 (by decide +kernel) rfl
set_option maxRecDepth 20000 in
theorem f_X3_129 : Cond.fieldLink RX3 129 (TX7 3).1 (TX7 3).2.1 (TX7 3).2.2.1 ∈ wG := wG_in tb_1 124 (by decide +kernel) rfl
set_option maxRecDepth 20000 in
theorem f_X11_168 : Cond.fieldLink RX11 168 (TX7 3).1 (TX7 3).2.1 (TX7 3).2.2.1 ∈ wG := wG_in tb_1 125 (by decide +kernel) rfl
set_option maxRecDepth 20000 in
theorem f_X7_24 : Cond.fieldLink RX7 24 (TX7 4).1 (TX7 4).2.1 (TX7 4).2.2.1 ∈ wG := wG_in tb_1 126 (by decide +kernel) rfl
set_option maxRecDepth 20000 in
theorem f_X3_135 : Cond.fieldLink RX3 135 (TX7 4).1 (TX7 4).2.1 (TX7 4).2.2.1 ∈ wG := wG_in tb_1 127 (by decide +kernel) rfl
set_option maxRecDepth 20000 in
theorem f_X9_95 : Cond.fieldLink RX9 95 (TX7 4).1 (TX7 4).2.1 (TX7 4).2.2.1 ∈ wG := wG_in tb_1 128 (by decide +kernel) rfl
set_option maxRecDepth 20000 in
theorem f_X11_171 : Cond.fieldLink RX11 171 (TX7 4).1 (TX7 4).2.1 (TX7 4).2.2.1 ∈ wG := wG_in tb_1 129 (by decide +kernel) rfl
set_option maxRecDepth 20000 in
theorem f_X7_27 : Cond.fieldLink RX7 27 (TX7 5).1 (TX7 5).2.1 (TX7 5).2.2.1 ∈ wG := wG_in tb_1 130 (by decide +kernel) rfl
set_option maxRecDepth 20000 in
theorem f_X8_60 : Cond.fieldLink RX8 60 (TX7 5).1 (TX7 5).2.1 (TX7 5).2.2.1 ∈ wG := wG_in tb_1 131 (by decide +kernel) rfl
set_option maxRecDepth 20000 in
theorem f_X3_138 : Cond.fieldLink RX3 138 (TX7 5).1 (TX7 5).2.1 (TX7 5).2.2.1 ∈ wG := wG_in tb_1 132 (by decide +kernel) rfl
set_option maxRecDepth 20000 in
theorem f_X11_174 : Cond.fieldLink RX11 174 (TX7 5).1 (TX7 5).2.1 (TX7 5).2.2.1 ∈ wG := wG_in tb_1 133 (by decide +kernel) rfl
set_option maxRecDepth 20000 in
theorem f_X7_30 : Cond.fieldLink RX7 30 (TX7 6).1 (TX7 6).2.1 (TX7 6).2.2.1 ∈ wG := wG_in tb_1 134 (by decide +kernel) rfl
set_option maxRecDepth 20000 in
theorem f_X11_177 : Cond.fieldLink RX11 177 (TX7 6).1 (TX7 6).2.1 (TX7 6).2.2.1 ∈ wG := wG_in tb_1 135 (by decide +kernel) rfl
set_option maxRecDepth 20000 in
theorem f_X7_33 : Cond.fieldLink RX7 33 (TX7 7).1 (TX7 7).2.1 (TX7 7).2.2.1 ∈ wG := wG_in tb_1 136 (by decide +kernel) rfl
set_option maxRecDepth 20000 in
theorem f_X9_53 : Cond.fieldLink RX9 53 (TX7 7).1 (TX7 7).2.1 (TX7 7).2.2.1 ∈ wG := wG_in tb_1 137 (by decide +kernel) rfl
set_option maxRecDepth 20000 in
theorem f_X3_141 : Cond.fieldLink RX3 141 (TX7 7).1 (TX7 7).2.1 (TX7 7).2.2.1 ∈ wG := wG_in tb_1 138 (by decide +kernel) rfl
set_option maxRecDepth 20000 in
theorem f_X11_187 : Cond.fieldLink RX11 187 (TX7 7).1 (TX7 7).2.1 (TX7 7).2.2.1 ∈ wG := wG_in tb_1 139 (by decide +kernel) rfl
set_option maxRecDepth 20000 in
theorem f_X7_36 : Cond.fieldLink RX7 36 (TX7 8).1 (TX7 8).2.1 (TX7 8).2.2.1 ∈ wG := wG_in tb_1 140 (by decide +kernel) rfl
set_option maxRecDepth 20000 in
theorem f_X9_56 : Cond.fieldLink RX9 56 (TX7 8).1 (TX7 8).2.1 (TX7 8).2.2.1 ∈ wG := wG_in tb_1 141 (by decide +kernel) rfl
set_option maxRecDepth 20000 in
theorem f_X3_144 : Cond.fieldLink RX3 144 (TX7 8).1 (TX7 8).2.1 (TX7 8).2.2.1 ∈ wG := wG_in tb_1 142 (by decide +kernel) rfl
set_option maxRecDepth 20000 in
theorem f_X11_190 : Cond.fieldLink RX11 190 (TX7 8).1 (TX7 8).2.1 (TX7 8).2.2.1 ∈ wG := wG_in tb_1 143 (by decide +kernel) rfl
set_option maxRecDepth 20000 in
theorem f_X7_39 : Cond.fieldLink RX7 39 (TX7 9).1 (TX7 9).2.1 (TX7 9).2.2.1 ∈ wG := wG_in tb_1 144 (by decide +kernel) rfl
set_option maxRecDepth 20000 in
theorem f_X9_32 : Cond.fieldLink RX9 32 (TX7 9).1 (TX7 9).2.1 (TX7 9).2.2.1 ∈ wG := wG_in tb_1 145 (by decide +kernel) rfl
set_option maxRecDepth 20000 in
theorem f_X8_43 : Cond.fieldLink RX8 43 (TX7 9).1 (TX7 9).2.1 (TX7 9).2.2.1 ∈ wG := wG_in tb_1 146 (by decide +kernel) rfl
set_option maxRecDepth 20000 in
theorem f_X1_88 : Cond.fieldLink RX1 88 (TX7 9).1 (TX7 9).2.1 (TX7 9).2.2.1 ∈ wG := wG_in tb_1 147 (by decide +kernel) rfl
set_option maxRecDepth 20000 in
theorem f_X6_96 : Cond.fieldLink RX6 96 (TX7 9).1 (TX7 9).2.1 (TX7 9).2.2.1 ∈ wG := wG_in tb_1 148 (by decide +kernel) rfl
set_option maxRecDepth 20000 in
theorem f_X5_98 : Cond.fieldLink RX5 98 (TX7 9).1 (TX7 9).2.1 (TX7 9).2.2.1 ∈ wG := wG_in tb_1 149 (by decide +kernel) rfl
set_option maxRecDepth 20000 in
theorem f_X3_147 : Cond.fieldLink RX3 147 (TX7 9).1 (TX7 9).2.1 (TX7 9).2.2.1 ∈ wG := wG_in tb_1 150 (by decide +kernel) rfl
set_option maxRecDepth 20000 in
theorem f_X11_196 : Cond.fieldLink RX11 196 (TX7 9).1 (TX7 9).2.1 (TX7 9).2.2.1 ∈ wG := wG_in tb_1 151 (by decide +kernel) rfl
set_option maxRecDepth 20000 in
theorem f_X7_42 : Cond.fieldLink RX7 42 (TX7 10).1 (TX7 10).2.1 (TX7 10).2.2.1 ∈ wG := wG_in tb_1 152 (by decide +kernel) rfl
set_option maxRecDepth 20000 in
theorem f_X9_98 : Cond.fieldLink RX9 98 (TX7 10).1 (TX7 10).2.1 (TX7 10).2.2.1 ∈ wG := wG_in tb_1 153 (by decide +kernel) rfl
set_option maxRecDepth 20000 in
theorem f_X7_45 : Cond.fieldLink RX7 45 (TX7 11).1 (TX7 11).2.1 (TX7 11).2.2.1 ∈ wG := wG_in tb_1 154 (by decide +kernel) rfl
set_option maxRecDepth 20000 in
theorem f_X9_104 : Cond.fieldLink RX9 104 (TX7 11).1 (TX7 11).2.1 (TX7 11).2.2.1 ∈ wG := wG_in tb_1 155 (by decide +kernel) rfl
set_option maxRecDepth 20000 in
theorem f_X3_153 : Cond.fieldLink RX3 153 (TX7 11).1 (TX7 11).2.1 (TX7 11).2.2.1 ∈ wG := wG_in tb_1 156 (by decide +kernel) rfl
set_option maxRecDepth 20000 in
theorem f_X7_48 : Cond.fieldLink RX7 48 (TX7 12).1 (TX7 12).2.1 (TX7 12).2.2.1 ∈ wG := wG_in tb_1 157 (by decide +kernel) rfl
set_option maxRecDepth 20000 in
theorem f_X9_101 : Cond.fieldLink RX9 101 (TX7 12).1 (TX7 12).2.1 (TX7 12).2.2.1 ∈ wG := wG_in tb_1 158 (by decide +kernel) rfl
set_option maxRecDepth 20000 in
theorem f_X3_159 : Cond.fieldLink RX3 159 (TX7 12).1 (TX7 12).2.1 (TX7 12).2.2.1 ∈ wG := wG_in tb_1 159 (by decide +kernel) rfl
set_option maxRecDepth 20000 in
theorem f_X7_60 : Cond.fieldLink RX7 60 (TX7 13).1 (TX7 13).2.1 (TX7 13).2.2.1 ∈ wG := wG_in tb_1 160 (by decide +kernel) rfl
set_option maxRecDepth 20000 in
theorem f_X3_156 : Cond.fieldLink RX3 156 (TX7 13).1 (TX7 13).2.1 (TX7 13).2.2.1 ∈ wG := wG_in tb_1 161 (by decide +kernel) rfl
set_option maxRecDepth 20000 in
theorem f_X7_64 : Cond.fieldLink RX7 64 (TX7 14).1 (TX7 14).2.1 (TX7 14).2.2.1 ∈ wG := wG_in tb_1 162 (by decide +kernel) rfl
set_option maxRecDepth 20000 in
theorem f_X3_110 : Cond.fieldLink RX3 110 (TX7 14).1 (TX7 14).2.1 (TX7 14).2.2.1 ∈ wG := wG_in tb_1 163 (by decide +kernel) rfl
set_option maxRecDepth 20000 in
theorem f_X11_136 : Cond.fieldLink RX11 136 (TX7 14).1 (TX7 14).2.1 (TX7 14).2.2.1 ∈ wG := wG_in tb_1 164 (by decide +kernel) rfl
set_option maxRecDepth 20000 in
theorem f_X7_67 : Cond.fieldLink RX7 67 (TX7 15).1 (TX7 15).2.1 (TX7 15).2.2.1 ∈ wG := wG_in tb_1 165 (by decide +kernel) rfl
set_option maxRecDepth 20000 in
theorem f_X9_59 : Cond.fieldLink RX9 59 (TX7 15).1 (TX7 15).2.1 (TX7 15).2.2.1 ∈ wG := wG_in tb_1 166 (by decide +kernel) rfl
set_option maxRecDepth 20000 in
theorem f_X11_139 : Cond.fieldLink RX11 139 (TX7 15).1 (TX7 15).2.1 (TX7 15).2.2.1 ∈ wG := wG_in tb_1 167 (by decide +kernel) rfl
set_option maxRecDepth 20000 in
theorem f_X3_150 : Cond.fieldLink RX3 150 (TX7 15).1 (TX7 15).2.1 (TX7 15).2.2.1 ∈ wG := wG_in tb_1 168 (by decide +kernel) rfl
set_option maxRecDepth 20000 in
theorem l_X11_30 : Cond.methodLink RX11 30 yX2_init ∈ wG := wG_in tb_1 202 (by decide +kernel) rfl
set_option maxRecDepth 20000 in
theorem l_X2_3 : Cond.methodLink RX2 3 objectInit ∈ wG := wG_in tb_1 205 (by decide +kernel) rfl
set_option maxRecDepth 20000 in
theorem l_X2_21 : Cond.methodLink RX2 21 yX2_open ∈ wG := wG_in tb_1 206 (by decide +kernel) rfl
set_option maxRecDepth 20000 in
theorem l_X2_29 : Cond.methodLink RX2 29 yJ7_fill_53178 ∈ wG := wG_in tb_1 210 (by decide +kernel) rfl
set_option maxRecDepth 20000 in
theorem l_X2_35 : Cond.methodLink RX2 35 yX2_set ∈ wG := wG_in tb_1 211 (by decide +kernel) rfl
set_option maxRecDepth 20000 in
theorem l_X2_39 : Cond.methodLink RX2 39 yX2_forget ∈ wG := wG_in tb_1 215 (by decide +kernel) rfl
set_option maxRecDepth 20000 in
theorem f_X2_25 : Cond.fieldLink RX2 25 (TX2 0).1 (TX2 0).2.1 (TX2 0).2.2.1 ∈ wG := wG_in tb_1 219 (by decide +kernel) rfl
set_option maxRecDepth 20000 in
theorem f_X1_48 : Cond.fieldLink RX1 48 (TX2 0).1 (TX2 0).2.1 (TX2 0).2.2.1 ∈ wG := wG_in tb_1 220 (by decide +kernel) rfl
set_option maxRecDepth 20000 in
theorem f_X9_28 : Cond.fieldLink RX9 28 (TX2 0).1 (TX2 0).2.1 (TX2 0).2.2.1 ∈ wG := wG_in tb_1 221 (by decide +kernel) rfl
set_option maxRecDepth 20000 in
theorem f_X8_39 : Cond.fieldLink RX8 39 (TX2 0).1 (TX2 0).2.1 (TX2 0).2.2.1 ∈ wG := wG_in tb_1 222 (by decide +kernel) rfl
set_option maxRecDepth 20000 in
theorem f_X4_29 : Cond.fieldLink RX4 29 (TX2 0).1 (TX2 0).2.1 (TX2 0).2.2.1 ∈ wG := wG_in tb_1 223 (by decide +kernel) rfl
set_option maxRecDepth 20000 in
theorem f_X0_36 : Cond.fieldLink RX0 36 (TX2 0).1 (TX2 0).2.1 (TX2 0).2.2.1 ∈ wG := wG_in tb_1 224 (by decide +kernel) rfl
set_option maxRecDepth 20000 in
theorem f_X6_61 : Cond.fieldLink RX6 61 (TX2 0).1 (TX2 0).2.1 (TX2 0).2.2.1 ∈ wG := wG_in tb_1 225 (by decide +kernel) rfl
set_option maxRecDepth 20000 in
theorem f_X5_53 : Cond.fieldLink RX5 53 (TX2 0).1 (TX2 0).2.1 (TX2 0).2.2.1 ∈ wG := wG_in tb_1 226 (by decide +kernel) rfl
set_option maxRecDepth 20000 in
theorem f_X11_121 : Cond.fieldLink RX11 121 (TX2 0).1 (TX2 0).2.1 (TX2 0).2.2.1 ∈ wG := wG_in tb_1 227 (by decide +kernel) rfl
set_option maxRecDepth 20000 in
theorem f_X2_9 : Cond.fieldLink RX2 9 (TX2 1).1 (TX2 1).2.1 (TX2 1).2.2.1 ∈ wG := wG_in tb_1 228 (by decide +kernel) rfl
set_option maxRecDepth 20000 in
theorem f_X4_22 : Cond.fieldLink RX4 22 (TX2 1).1 (TX2 1).2.1 (TX2 1).2.2.1 ∈ wG := wG_in tb_1 229 (by decide +kernel) rfl
set_option maxRecDepth 20000 in
theorem f_X9_63 : Cond.fieldLink RX9 63 (TX2 1).1 (TX2 1).2.1 (TX2 1).2.2.1 ∈ wG := wG_in tb_1 230 (by decide +kernel) rfl
set_option maxRecDepth 20000 in
theorem f_X1_110 : Cond.fieldLink RX1 110 (TX2 1).1 (TX2 1).2.1 (TX2 1).2.2.1 ∈ wG := wG_in tb_1 231 (by decide +kernel) rfl
set_option maxRecDepth 20000 in
theorem f_X11_142 : Cond.fieldLink RX11 142 (TX2 1).1 (TX2 1).2.1 (TX2 1).2.2.1 ∈ wG := wG_in tb_1 232 (by decide +kernel) rfl
set_option maxRecDepth 20000 in
theorem f_X2_15 : Cond.fieldLink RX2 15 (TX2 2).1 (TX2 2).2.1 (TX2 2).2.2.1 ∈ wG := wG_in tb_1 233 (by decide +kernel) rfl
set_option maxRecDepth 20000 in
theorem f_X11_273 : Cond.fieldLink RX11 273 (TX2 2).1 (TX2 2).2.1 (TX2 2).2.2.1 ∈ wG := wG_in tb_1 234 (by decide +kernel) rfl
set_option maxRecDepth 20000 in
theorem f_X2_18 : Cond.fieldLink RX2 18 (TX2 3).1 (TX2 3).2.1 (TX2 3).2.2.1 ∈ wG := wG_in tb_1 235 (by decide +kernel) rfl
set_option maxRecDepth 20000 in
theorem f_X2_48 : Cond.fieldLink RX2 48 (TX2 4).1 (TX2 4).2.1 (TX2 4).2.2.1 ∈ wG := wG_in tb_1 236 (by decide +kernel) rfl
set_option maxRecDepth 20000 in
theorem f_X2_52 : Cond.fieldLink RX2 52 (TX2 5).1 (TX2 5).2.1 (TX2 5).2.2.1 ∈ wG := wG_in tb_1 237 (by decide +kernel) rfl
set_option maxRecDepth 20000 in
theorem f_X11_152 : Cond.fieldLink RX11 152 (TX2 5).1 (TX2 5).2.1 (TX2 5).2.2.1 ∈ wG := wG_in tb_1 238 (by decide +kernel) rfl
set_option maxRecDepth 20000 in
theorem f_X6_55 : Cond.fieldLink RX6 55 (TX2 6).1 (TX2 6).2.1 (TX2 6).2.2.1 ∈ wG := wG_in tb_1 239 (by decide +kernel) rfl
set_option maxRecDepth 20000 in
theorem f_X2_55 : Cond.fieldLink RX2 55 (TX2 6).1 (TX2 6).2.1 (TX2 6).2.2.1 ∈ wG := wG_in tb_2 0 (by decide +kernel) rfl
set_option maxRecDepth 20000 in
theorem f_X5_67 : Cond.fieldLink RX5 67 (TX2 6).1 (TX2 6).2.1 (TX2 6).2.2.1 ∈ wG := wG_in tb_2 1 (by decide +kernel) rfl
set_option maxRecDepth 20000 in
theorem f_X8_83 : Cond.fieldLink RX8 83 (TX2 6).1 (TX2 6).2.1 (TX2 6).2.2.1 ∈ wG := wG_in tb_2 2 (by decide +kernel) rfl
set_option maxRecDepth 20000 in
theorem n_X11_41 : Cond.classLink RX11 41 RX9 ∈ wG := wG_in tb_2 18 (by decide +kernel) rfl
set_option maxRecDepth 20000 in
theorem l_X11_43 : Cond.methodLink RX11 43 yX9_init ∈ wG := wG_in tb_2 20 (by decide +kernel) rfl
set_option maxRecDepth 20000 in
theorem l_X9_3 : Cond.methodLink RX9 3 objectInit ∈ wG := wG_in tb_2 23 (by decide +kernel) rfl
set_option maxRecDepth 20000 in
theorem f_X9_9 : Cond.fieldLink RX9 9 (TX9 0).1 (TX9 0).2.1 (TX9 0).2.2.1 ∈ wG := wG_in tb_2 24 (by decide +kernel) rfl
set_option maxRecDepth 20000 in
theorem f_X9_15 : Cond.fieldLink RX9 15 (TX9 1).1 (TX9 1).2.1 (TX9 1).2.2.1 ∈ wG := wG_in tb_2 25 (by decide +kernel) rfl
set_option maxRecDepth 20000 in
theorem f_X9_18 : Cond.fieldLink RX9 18 (TX9 2).1 (TX9 2).2.1 (TX9 2).2.2.1 ∈ wG := wG_in tb_2 26 (by decide +kernel) rfl
set_option maxRecDepth 20000 in
theorem n_X11_50 : Cond.classLink RX11 50 RX0 ∈ wG := wG_in tb_2 34 (by decide +kernel) rfl
set_option maxRecDepth 20000 in
theorem l_X11_52 : Cond.methodLink RX11 52 yX0_init ∈ wG := wG_in tb_2 36 (by decide +kernel) rfl
set_option maxRecDepth 20000 in
theorem l_X0_3 : Cond.methodLink RX0 3 objectInit ∈ wG := wG_in tb_2 39 (by decide +kernel) rfl
set_option maxRecDepth 20000 in
theorem f_X0_18 : Cond.fieldLink RX0 18 (TX0 0).1 (TX0 0).2.1 (TX0 0).2.2.1 ∈ wG := wG_in tb_2 40 (by decide +kernel) rfl
set_option maxRecDepth 20000 in
theorem f_X0_22 : Cond.fieldLink RX0 22 (TX0 1).1 (TX0 1).2.1 (TX0 1).2.2.1 ∈ wG := wG_in tb_2 41 (by decide +kernel) rfl
set_option maxRecDepth 20000 in
theorem f_X0_9 : Cond.fieldLink RX0 9 (TX0 2).1 (TX0 2).2.1 (TX0 2).2.2.1 ∈ wG := wG_in tb_2 42 (by decide +kernel) rfl
set_option maxRecDepth 20000 in
theorem f_X1_94 : Cond.fieldLink RX1 94 (TX0 2).1 (TX0 2).2.1 (TX0 2).2.2.1 ∈ wG := wG_in tb_2 43 (by decide +kernel) rfl
set_option maxRecDepth 20000 in
theorem f_X0_15 : Cond.fieldLink RX0 15 (TX0 3).1 (TX0 3).2.1 (TX0 3).2.2.1 ∈ wG := wG_in tb_2 44 (by decide +kernel) rfl
set_option maxRecDepth 20000 in
theorem f_X5_129 : Cond.fieldLink RX5 129 (TX0 3).1 (TX0 3).2.1 (TX0 3).2.2.1 ∈ wG := wG_in tb_2 45 (by decide +kernel) rfl
set_option maxRecDepth 20000 in
theorem f_X0_53 : Cond.fieldLink RX0 53 (TX0 4).1 (TX0 4).2.1 (TX0 4).2.2.1 ∈ wG := wG_in tb_2 46 (by decide +kernel) rfl
set_option maxRecDepth 20000 in
theorem f_X1_100 : Cond.fieldLink RX1 100 (TX0 4).1 (TX0 4).2.1 (TX0 4).2.2.1 ∈ wG := wG_in tb_2 47 (by decide +kernel) rfl
set_option maxRecDepth 20000 in
theorem f_X5_126 : Cond.fieldLink RX5 126 (TX0 4).1 (TX0 4).2.1 (TX0 4).2.2.1 ∈ wG := wG_in tb_2 48 (by decide +kernel) rfl
set_option maxRecDepth 20000 in
theorem f_X0_49 : Cond.fieldLink RX0 49 (TX0 5).1 (TX0 5).2.1 (TX0 5).2.2.1 ∈ wG := wG_in tb_2 49 (by decide +kernel) rfl
set_option maxRecDepth 20000 in
theorem f_X1_107 : Cond.fieldLink RX1 107 (TX0 5).1 (TX0 5).2.1 (TX0 5).2.2.1 ∈ wG := wG_in tb_2 50 (by decide +kernel) rfl
set_option maxRecDepth 20000 in
theorem n_X11_55 : Cond.classLink RX11 55 RX1 ∈ wG := wG_in tb_2 64 (by decide +kernel) rfl
set_option maxRecDepth 20000 in
theorem l_X11_57 : Cond.methodLink RX11 57 yX1_init ∈ wG := wG_in tb_2 66 (by decide +kernel) rfl
set_option maxRecDepth 20000 in
theorem l_X1_3 : Cond.methodLink RX1 3 objectInit ∈ wG := wG_in tb_2 69 (by decide +kernel) rfl
set_option maxRecDepth 20000 in
theorem f_X1_36 : Cond.fieldLink RX1 36 (TX1 0).1 (TX1 0).2.1 (TX1 0).2.2.1 ∈ wG := wG_in tb_2 70 (by decide +kernel) rfl
set_option maxRecDepth 20000 in
theorem f_X1_40 : Cond.fieldLink RX1 40 (TX1 1).1 (TX1 1).2.1 (TX1 1).2.2.1 ∈ wG := wG_in tb_2 71 (by decide +kernel) rfl
set_option maxRecDepth 20000 in
theorem f_X1_44 : Cond.fieldLink RX1 44 (TX1 2).1 (TX1 2).2.1 (TX1 2).2.2.1 ∈ wG := wG_in tb_2 72 (by decide +kernel) rfl
set_option maxRecDepth 20000 in
theorem f_X1_9 : Cond.fieldLink RX1 9 (TX1 3).1 (TX1 3).2.1 (TX1 3).2.2.1 ∈ wG := wG_in tb_2 73 (by decide +kernel) rfl
set_option maxRecDepth 20000 in
theorem f_X1_15 : Cond.fieldLink RX1 15 (TX1 4).1 (TX1 4).2.1 (TX1 4).2.2.1 ∈ wG := wG_in tb_2 74 (by decide +kernel) rfl
set_option maxRecDepth 20000 in
theorem f_X1_18 : Cond.fieldLink RX1 18 (TX1 5).1 (TX1 5).2.1 (TX1 5).2.2.1 ∈ wG := wG_in tb_2 75 (by decide +kernel) rfl
set_option maxRecDepth 20000 in
theorem f_X11_217 : Cond.fieldLink RX11 217 (TX1 5).1 (TX1 5).2.1 (TX1 5).2.2.1 ∈ wG := wG_in tb_2 76 (by decide +kernel) rfl
set_option maxRecDepth 20000 in
theorem f_X1_21 : Cond.fieldLink RX1 21 (TX1 6).1 (TX1 6).2.1 (TX1 6).2.2.1 ∈ wG := wG_in tb_2 77 (by decide +kernel) rfl
set_option maxRecDepth 20000 in
theorem f_X11_218 : Cond.fieldLink RX11 218 (TX1 6).1 (TX1 6).2.1 (TX1 6).2.2.1 ∈ wG := wG_in tb_2 78 (by decide +kernel) rfl
set_option maxRecDepth 20000 in
theorem f_X1_24 : Cond.fieldLink RX1 24 (TX1 7).1 (TX1 7).2.1 (TX1 7).2.2.1 ∈ wG := wG_in tb_2 79 (by decide +kernel) rfl
set_option maxRecDepth 20000 in
theorem f_X11_221 : Cond.fieldLink RX11 221 (TX1 7).1 (TX1 7).2.1 (TX1 7).2.2.1 ∈ wG := wG_in tb_2 80 (by decide +kernel) rfl
set_option maxRecDepth 20000 in
theorem f_X1_27 : Cond.fieldLink RX1 27 (TX1 8).1 (TX1 8).2.1 (TX1 8).2.2.1 ∈ wG := wG_in tb_2 81 (by decide +kernel) rfl
set_option maxRecDepth 20000 in
theorem f_X11_224 : Cond.fieldLink RX11 224 (TX1 8).1 (TX1 8).2.1 (TX1 8).2.2.1 ∈ wG := wG_in tb_2 82 (by decide +kernel) rfl
set_option maxRecDepth 20000 in
theorem f_X1_30 : Cond.fieldLink RX1 30 (TX1 9).1 (TX1 9).2.1 (TX1 9).2.2.1 ∈ wG := wG_in tb_2 83 (by decide +kernel) rfl
set_option maxRecDepth 20000 in
theorem f_X11_227 : Cond.fieldLink RX11 227 (TX1 9).1 (TX1 9).2.1 (TX1 9).2.2.1 ∈ wG := wG_in tb_2 84 (by decide +kernel) rfl
set_option maxRecDepth 20000 in
theorem f_X1_33 : Cond.fieldLink RX1 33 (TX1 10).1 (TX1 10).2.1 (TX1 10).2.2.1 ∈ wG := wG_in tb_2 85 (by decide +kernel) rfl
set_option maxRecDepth 20000 in
theorem n_X11_64 : Cond.classLink RX11 64 RX8 ∈ wG := wG_in tb_2 109 (by decide +kernel) rfl
set_option maxRecDepth 20000 in
theorem l_X11_66 : Cond.methodLink RX11 66 yX8_init ∈ wG := wG_in tb_2 111 (by decide +kernel) rfl
set_option maxRecDepth 20000 in
theorem l_X8_3 : Cond.methodLink RX8 3 objectInit ∈ wG := wG_in tb_2 114 (by decide +kernel) rfl
set_option maxRecDepth 20000 in
theorem f_X8_25 : Cond.fieldLink RX8 25 (TX8 0).1 (TX8 0).2.1 (TX8 0).2.2.1 ∈ wG := wG_in tb_2 115 (by decide +kernel) rfl
set_option maxRecDepth 20000 in
theorem f_X8_29 : Cond.fieldLink RX8 29 (TX8 1).1 (TX8 1).2.1 (TX8 1).2.2.1 ∈ wG := wG_in tb_2 116 (by decide +kernel) rfl
set_option maxRecDepth 20000 in
theorem f_X8_9 : Cond.fieldLink RX8 9 (TX8 2).1 (TX8 2).2.1 (TX8 2).2.2.1 ∈ wG := wG_in tb_2 117 (by decide +kernel) rfl
set_option maxRecDepth 20000 in
theorem f_X8_15 : Cond.fieldLink RX8 15 (TX8 3).1 (TX8 3).2.1 (TX8 3).2.2.1 ∈ wG := wG_in tb_2 118 (by decide +kernel) rfl
set_option maxRecDepth 20000 in
theorem f_X8_98 : Cond.fieldLink RX8 98 (TX8 4).1 (TX8 4).2.1 (TX8 4).2.2.1 ∈ wG := wG_in tb_2 119 (by decide +kernel) rfl
set_option maxRecDepth 20000 in
theorem f_X11_320 : Cond.fieldLink RX11 320 (TX8 4).1 (TX8 4).2.1 (TX8 4).2.2.1 ∈ wG := wG_in tb_2 120 (by decide +kernel) rfl
set_option maxRecDepth 20000 in
theorem f_X8_101 : Cond.fieldLink RX8 101 (TX8 5).1 (TX8 5).2.1 (TX8 5).2.2.1 ∈ wG := wG_in tb_2 121 (by decide +kernel) rfl
set_option maxRecDepth 20000 in
theorem f_X11_323 : Cond.fieldLink RX11 323 (TX8 5).1 (TX8 5).2.1 (TX8 5).2.2.1 ∈ wG := wG_in tb_2 122 (by decide +kernel) rfl
set_option maxRecDepth 20000 in
theorem f_X8_104 : Cond.fieldLink RX8 104 (TX8 6).1 (TX8 6).2.1 (TX8 6).2.2.1 ∈ wG := wG_in tb_2 123 (by decide +kernel) rfl
set_option maxRecDepth 20000 in
theorem f_X11_326 : Cond.fieldLink RX11 326 (TX8 6).1 (TX8 6).2.1 (TX8 6).2.2.1 ∈ wG := wG_in tb_2 124 (by decide +kernel) rfl
set_option maxRecDepth 20000 in
theorem f_X8_132 : Cond.fieldLink RX8 132 (TX8 7).1 (TX8 7).2.1 (TX8 7).2.2.1 ∈ wG := wG_in tb_2 125 (by decide +kernel) rfl
set_option maxRecDepth 20000 in
theorem f_X11_332 : Cond.fieldLink RX11 332 (TX8 7).1 (TX8 7).2.1 (TX8 7).2.2.1 ∈ wG := wG_in tb_2 126 (by decide +kernel) rfl
set_option maxRecDepth 20000 in
theorem f_X8_135 : Cond.fieldLink RX8 135 (TX8 8).1 (TX8 8).2.1 (TX8 8).2.2.1 ∈ wG := wG_in tb_2 127 (by decide +kernel) rfl
set_option maxRecDepth 20000 in
theorem f_X11_335 : Cond.fieldLink RX11 335 (TX8 8).1 (TX8 8).2.1 (TX8 8).2.2.1 ∈ wG := wG_in tb_2 128 (by decide +kernel) rfl
set_option maxRecDepth 20000 in
theorem f_X8_138 : Cond.fieldLink RX8 138 (TX8 9).1 (TX8 9).2.1 (TX8 9).2.2.1 ∈ wG := wG_in tb_2 129 (by decide +kernel) rfl
set_option maxRecDepth 20000 in
theorem f_X11_338 : Cond.fieldLink RX11 338 (TX8 9).1 (TX8 9).2.1 (TX8 9).2.2.1 ∈ wG := wG_in tb_2 130 (by decide +kernel) rfl
set_option maxRecDepth 20000 in
theorem f_X8_92 : Cond.fieldLink RX8 92 (TX8 10).1 (TX8 10).2.1 (TX8 10).2.2.1 ∈ wG := wG_in tb_2 131 (by decide +kernel) rfl
set_option maxRecDepth 20000 in
theorem f_X8_18 : Cond.fieldLink RX8 18 (TX8 11).1 (TX8 11).2.1 (TX8 11).2.2.1 ∈ wG := wG_in tb_2 132 (by decide +kernel) rfl
set_option maxRecDepth 20000 in
theorem f_X8_86 : Cond.fieldLink RX8 86 (TX8 12).1 (TX8 12).2.1 (TX8 12).2.2.1 ∈ wG := wG_in tb_2 133 (by decide +kernel) rfl
set_option maxRecDepth 20000 in
theorem f_X8_89 : Cond.fieldLink RX8 89 (TX8 13).1 (TX8 13).2.1 (TX8 13).2.2.1 ∈ wG := wG_in tb_2 134 (by decide +kernel) rfl
set_option maxRecDepth 20000 in
theorem f_X8_22 : Cond.fieldLink RX8 22 (TX8 14).1 (TX8 14).2.1 (TX8 14).2.2.1 ∈ wG := wG_in tb_2 135 (by decide +kernel) rfl
set_option maxRecDepth 20000 in
theorem f_X8_119 : Cond.fieldLink RX8 119 (TX8 15).1 (TX8 15).2.1 (TX8 15).2.2.1 ∈ wG := wG_in tb_2 136 (by decide +kernel) rfl
set_option maxRecDepth 20000 in
theorem f_X8_122 : Cond.fieldLink RX8 122 (TX8 16).1 (TX8 16).2.1 (TX8 16).2.2.1 ∈ wG := wG_in tb_2 137 (by decide +kernel) rfl
set_option maxRecDepth 20000 in
theorem n_X11_71 : Cond.classLink RX11 71 RX6 ∈ wG := wG_in tb_2 173 (by decide +kernel) rfl
set_option maxRecDepth 20000 in
theorem l_X11_73 : Cond.methodLink RX11 73 yX6_init ∈ wG := wG_in tb_2 175 (by decide +kernel) rfl
set_option maxRecDepth 20000 in
theorem l_X6_3 : Cond.methodLink RX6 3 objectInit ∈ wG := wG_in tb_2 178 (by decide +kernel) rfl
set_option maxRecDepth 20000 in
theorem f_X6_40 : Cond.fieldLink RX6 40 (TX6 0).1 (TX6 0).2.1 (TX6 0).2.2.1 ∈ wG := wG_in tb_2 179 (by decide +kernel) rfl
set_option maxRecDepth 20000 in
theorem f_X6_44 : Cond.fieldLink RX6 44 (TX6 1).1 (TX6 1).2.1 (TX6 1).2.2.1 ∈ wG := wG_in tb_2 180 (by decide +kernel) rfl
set_option maxRecDepth 20000 in
theorem f_X6_48 : Cond.fieldLink RX6 48 (TX6 2).1 (TX6 2).2.1 (TX6 2).2.2.1 ∈ wG := wG_in tb_2 181 (by decide +kernel) rfl
set_option maxRecDepth 20000 in
theorem f_X6_83 : Cond.fieldLink RX6 83 (TX6 3).1 (TX6 3).2.1 (TX6 3).2.2.1 ∈ wG := wG_in tb_2 182 (by decide +kernel) rfl
set_option maxRecDepth 20000 in
theorem f_X11_297 : Cond.fieldLink RX11 297 (TX6 3).1 (TX6 3).2.1 (TX6 3).2.2.1 ∈ wG := wG_in tb_2 183 (by decide +kernel) rfl
set_option maxRecDepth 20000 in
theorem f_X6_86 : Cond.fieldLink RX6 86 (TX6 4).1 (TX6 4).2.1 (TX6 4).2.2.1 ∈ wG := wG_in tb_2 184 (by decide +kernel) rfl
set_option maxRecDepth 20000 in
theorem f_X11_300 : Cond.fieldLink RX11 300 (TX6 4).1 (TX6 4).2.1 (TX6 4).2.2.1 ∈ wG := wG_in tb_2 185 (by decide +kernel) rfl
set_option maxRecDepth 20000 in
theorem f_X6_9 : Cond.fieldLink RX6 9 (TX6 5).1 (TX6 5).2.1 (TX6 5).2.2.1 ∈ wG := wG_in tb_2 186 (by decide +kernel) rfl
set_option maxRecDepth 20000 in
theorem f_X6_58 : Cond.fieldLink RX6 58 (TX6 6).1 (TX6 6).2.1 (TX6 6).2.2.1 ∈ wG := wG_in tb_2 187 (by decide +kernel) rfl
set_option maxRecDepth 20000 in
theorem f_X6_52 : Cond.fieldLink RX6 52 (TX6 7).1 (TX6 7).2.1 (TX6 7).2.2.1 ∈ wG := wG_in tb_2 188 (by decide +kernel) rfl
set_option maxRecDepth 20000 in
theorem f_X6_76 : Cond.fieldLink RX6 76 (TX6 8).1 (TX6 8).2.1 (TX6 8).2.2.1 ∈ wG := wG_in tb_2 189 (by decide +kernel) rfl
set_option maxRecDepth 20000 in
theorem f_X6_15 : Cond.fieldLink RX6 15 (TX6 9).1 (TX6 9).2.1 (TX6 9).2.2.1 ∈ wG := wG_in tb_2 190 (by decide +kernel) rfl
set_option maxRecDepth 20000 in
theorem f_X6_19 : Cond.fieldLink RX6 19 (TX6 10).1 (TX6 10).2.1 (TX6 10).2.2.1 ∈ wG := wG_in tb_2 191 (by decide +kernel) rfl
set_option maxRecDepth 20000 in
theorem f_X6_22 : Cond.fieldLink RX6 22 (TX6 11).1 (TX6 11).2.1 (TX6 11).2.2.1 ∈ wG := wG_in tb_2 192 (by decide +kernel) rfl
set_option maxRecDepth 20000 in
theorem f_X6_25 : Cond.fieldLink RX6 25 (TX6 12).1 (TX6 12).2.1 (TX6 12).2.2.1 ∈ wG := wG_in tb_2 193 (by decide +kernel) rfl
set_option maxRecDepth 20000 in
theorem f_X6_28 : Cond.fieldLink RX6 28 (TX6 13).1 (TX6 13).2.1 (TX6 13).2.2.1 ∈ wG := wG_in tb_2 194 (by decide +kernel) rfl
set_option maxRecDepth 20000 in
theorem f_X6_31 : Cond.fieldLink RX6 31 (TX6 14).1 (TX6 14).2.1 (TX6 14).2.2.1 ∈ wG := wG_in tb_2 195 (by decide +kernel) rfl
set_option maxRecDepth 20000 in
theorem f_X6_34 : Cond.fieldLink RX6 34 (TX6 15).1 (TX6 15).2.1 (TX6 15).2.2.1 ∈ wG := wG_in tb_2 196 (by decide +kernel) rfl
set_option maxRecDepth 20000 in
theorem f_X6_37 : Cond.fieldLink RX6 37 (TX6 16).1 (TX6 16).2.1 (TX6 16).2.2.1 ∈ wG := wG_in tb_2 197 (by decide +kernel) rfl
set_option maxRecDepth 20000 in
theorem n_X11_80 : Cond.classLink RX11 80 RX5 ∈ wG := wG_in tb_2 233 (by decide +kernel) rfl
set_option maxRecDepth 20000 in
theorem l_X11_82 : Cond.methodLink RX11 82 yX5_init ∈ wG := wG_in tb_2 235 (by decide +kernel) rfl
set_option maxRecDepth 20000 in
theorem l_X5_3 : Cond.methodLink RX5 3 objectInit ∈ wG := wG_in tb_2 238 (by decide +kernel) rfl
set_option maxRecDepth 20000 in
theorem f_X5_35 : Cond.fieldLink RX5 35 (TX5 0).1 (TX5 0).2.1 (TX5 0).2.2.1 ∈ wG := wG_in tb_2 239 (by decide +kernel) rfl
set_option maxRecDepth 20000 in
theorem f_X5_39 : Cond.fieldLink RX5 39 (TX5 1).1 (TX5 1).2.1 (TX5 1).2.2.1 ∈ wG := wG_in tb_3 0 (by decide +kernel) rfl
set_option maxRecDepth 20000 in
theorem f_X5_43 : Cond.fieldLink RX5 43 (TX5 2).1 (TX5 2).2.1 (TX5 2).2.2.1 ∈ wG := wG_in tb_3 1 (by decide +kernel) rfl
set_option maxRecDepth 20000 in
theorem f_X5_9 : Cond.fieldLink RX5 9 (TX5 3).1 (TX5 3).2.1 (TX5 3).2.2.1 ∈ wG := wG_in tb_3 2 (by decide +kernel) rfl
set_option maxRecDepth 20000 in
theorem f_X5_15 : Cond.fieldLink RX5 15 (TX5 4).1 (TX5 4).2.1 (TX5 4).2.2.1 ∈ wG := wG_in tb_3 3 (by decide +kernel) rfl
set_option maxRecDepth 20000 in
theorem f_X5_18 : Cond.fieldLink RX5 18 (TX5 5).1 (TX5 5).2.1 (TX5 5).2.2.1 ∈ wG := wG_in tb_3 4 (by decide +kernel) rfl
set_option maxRecDepth 20000 in
theorem f_X5_21 : Cond.fieldLink RX5 21 (TX5 6).1 (TX5 6).2.1 (TX5 6).2.2.1 ∈ wG := wG_in tb_3 5 (by decide +kernel) rfl
set_option maxRecDepth 20000 in
theorem f_X5_24 : Cond.fieldLink RX5 24 (TX5 7).1 (TX5 7).2.1 (TX5 7).2.2.1 ∈ wG := wG_in tb_3 6 (by decide +kernel) rfl
set_option maxRecDepth 20000 in
theorem f_X5_28 : Cond.fieldLink RX5 28 (TX5 8).1 (TX5 8).2.1 (TX5 8).2.2.1 ∈ wG := wG_in tb_3 7 (by decide +kernel) rfl
set_option maxRecDepth 20000 in
theorem f_X5_31 : Cond.fieldLink RX5 31 (TX5 9).1 (TX5 9).2.1 (TX5 9).2.2.1 ∈ wG := wG_in tb_3 8 (by decide +kernel) rfl
set_option maxRecDepth 20000 in
theorem f_X5_47 : Cond.fieldLink RX5 47 (TX5 10).1 (TX5 10).2.1 (TX5 10).2.2.1 ∈ wG := wG_in tb_3 9 (by decide +kernel) rfl
set_option maxRecDepth 20000 in
theorem f_X5_50 : Cond.fieldLink RX5 50 (TX5 11).1 (TX5 11).2.1 (TX5 11).2.2.1 ∈ wG := wG_in tb_3 10 (by decide +kernel) rfl
set_option maxRecDepth 20000 in
theorem f_X5_64 : Cond.fieldLink RX5 64 (TX5 12).1 (TX5 12).2.1 (TX5 12).2.2.1 ∈ wG := wG_in tb_3 11 (by decide +kernel) rfl
set_option maxRecDepth 20000 in
theorem n_X11_87 : Cond.classLink RX11 87 RX4 ∈ wG := wG_in tb_3 40 (by decide +kernel) rfl
set_option maxRecDepth 20000 in
theorem l_X4_3 : Cond.methodLink RX4 3 objectInit ∈ wG := wG_in tb_3 45 (by decide +kernel) rfl
set_option maxRecDepth 20000 in
theorem f_X4_9 : Cond.fieldLink RX4 9 (TX4 0).1 (TX4 0).2.1 (TX4 0).2.2.1 ∈ wG := wG_in tb_3 46 (by decide +kernel) rfl
set_option maxRecDepth 20000 in
theorem f_X11_348 : Cond.fieldLink RX11 348 (TX4 0).1 (TX4 0).2.1 (TX4 0).2.2.1 ∈ wG := wG_in tb_3 47 (by decide +kernel) rfl
set_option maxRecDepth 20000 in
theorem f_X4_15 : Cond.fieldLink RX4 15 (TX4 1).1 (TX4 1).2.1 (TX4 1).2.2.1 ∈ wG := wG_in tb_3 48 (by decide +kernel) rfl
set_option maxRecDepth 20000 in
theorem f_X11_355 : Cond.fieldLink RX11 355 (TX4 1).1 (TX4 1).2.1 (TX4 1).2.2.1 ∈ wG := wG_in tb_3 49 (by decide +kernel) rfl
set_option maxRecDepth 20000 in
theorem f_X4_18 : Cond.fieldLink RX4 18 (TX4 2).1 (TX4 2).2.1 (TX4 2).2.2.1 ∈ wG := wG_in tb_3 50 (by decide +kernel) rfl
set_option maxRecDepth 20000 in
theorem f_X11_347 : Cond.fieldLink RX11 347 (TX4 2).1 (TX4 2).2.1 (TX4 2).2.2.1 ∈ wG := wG_in tb_3 51 (by decide +kernel) rfl
set_option maxRecDepth 20000 in
theorem f_X4_54 : Cond.fieldLink RX4 54 (TX4 3).1 (TX4 3).2.1 (TX4 3).2.2.1 ∈ wG := wG_in tb_3 52 (by decide +kernel) rfl
set_option maxRecDepth 20000 in
theorem f_X11_10 : Cond.fieldLink RX11 10 (TX11 0).1 (TX11 0).2.1 (TX11 0).2.2.1 ∈ wG := wG_in tb_3 62 (by decide +kernel) rfl
set_option maxRecDepth 20000 in
theorem f_X11_21 : Cond.fieldLink RX11 21 (TX11 1).1 (TX11 1).2.1 (TX11 1).2.2.1 ∈ wG := wG_in tb_3 63 (by decide +kernel) rfl
set_option maxRecDepth 20000 in
theorem f_X11_33 : Cond.fieldLink RX11 33 (TX11 2).1 (TX11 2).2.1 (TX11 2).2.2.1 ∈ wG := wG_in tb_3 64 (by decide +kernel) rfl
set_option maxRecDepth 20000 in
theorem f_X11_46 : Cond.fieldLink RX11 46 (TX11 3).1 (TX11 3).2.1 (TX11 3).2.2.1 ∈ wG := wG_in tb_3 65 (by decide +kernel) rfl
set_option maxRecDepth 20000 in
theorem f_X11_60 : Cond.fieldLink RX11 60 (TX11 4).1 (TX11 4).2.1 (TX11 4).2.2.1 ∈ wG := wG_in tb_3 66 (by decide +kernel) rfl
set_option maxRecDepth 20000 in
theorem f_X11_67 : Cond.fieldLink RX11 67 (TX11 5).1 (TX11 5).2.1 (TX11 5).2.2.1 ∈ wG := wG_in tb_3 67 (by decide +kernel) rfl
set_option maxRecDepth 20000 in
theorem f_X11_76 : Cond.fieldLink RX11 76 (TX11 6).1 (TX11 6).2.1 (TX11 6).2.2.1 ∈ wG := wG_in tb_3 68 (by decide +kernel) rfl
set_option maxRecDepth 20000 in
theorem f_X11_83 : Cond.fieldLink RX11 83 (TX11 7).1 (TX11 7).2.1 (TX11 7).2.2.1 ∈ wG := wG_in tb_3 69 (by decide +kernel) rfl
set_option maxRecDepth 20000 in
theorem f_X11_90 : Cond.fieldLink RX11 90 (TX11 8).1 (TX11 8).2.1 (TX11 8).2.2.1 ∈ wG := wG_in tb_3 70 (by decide +kernel) rfl
set_option maxRecDepth 20000 in
theorem f_X11_94 : Cond.fieldLink RX11 94 (TX11 9).1 (TX11 9).2.1 (TX11 9).2.2.1 ∈ wG := wG_in tb_3 71 (by decide +kernel) rfl
set_option maxRecDepth 20000 in
theorem f_X11_37 : Cond.fieldLink RX11 37 (TX11 10).1 (TX11 10).2.1 (TX11 10).2.2.1 ∈ wG := wG_in tb_3 72 (by decide +kernel) rfl
set_option maxRecDepth 20000 in
theorem f_X11_98 : Cond.fieldLink RX11 98 (TX11 11).1 (TX11 11).2.1 (TX11 11).2.2.1 ∈ wG := wG_in tb_3 73 (by decide +kernel) rfl
set_option maxRecDepth 20000 in
theorem l_X11_105 : Cond.methodLink RX11 105 yX11_refuse ∈ wG := wG_in tb_3 103 (by decide +kernel) rfl
set_option maxRecDepth 20000 in
theorem l_X11_109 : Cond.methodLink RX11 109 yX10_put ∈ wG := wG_in tb_3 107 (by decide +kernel) rfl
set_option maxRecDepth 20000 in
theorem l_X11_113 : Cond.methodLink RX11 113 yX11_deny ∈ wG := wG_in tb_3 115 (by decide +kernel) rfl
set_option maxRecDepth 20000 in
theorem l_X11_117 : Cond.methodLink RX11 117 yX3_parse ∈ wG := wG_in tb_3 123 (by decide +kernel) rfl
set_option maxRecDepth 20000 in
theorem l_X3_23 : Cond.methodLink RX3 23 yX7_clear ∈ wG := wG_in tb_3 127 (by decide +kernel) rfl
set_option maxRecDepth 20000 in
theorem l_X3_34 : Cond.methodLink RX3 34 yX10_rewind ∈ wG := wG_in tb_3 128 (by decide +kernel) rfl
set_option maxRecDepth 20000 in
theorem l_X10_25 : Cond.methodLink RX10 25 yX10_step ∈ wG := wG_in tb_3 132 (by decide +kernel) rfl
set_option maxRecDepth 20000 in
theorem l_X10_31 : Cond.methodLink RX10 31 yX10_byteAt ∈ wG := wG_in tb_3 136 (by decide +kernel) rfl
set_option maxRecDepth 20000 in
theorem l_X10_38 : Cond.methodLink RX10 38 yX10_isLetter ∈ wG := wG_in tb_3 140 (by decide +kernel) rfl
set_option maxRecDepth 20000 in
theorem l_X10_42 : Cond.methodLink RX10 42 yX10_endOfWord ∈ wG := wG_in tb_3 143 (by decide +kernel) rfl
set_option maxRecDepth 20000 in
theorem l_X10_46 : Cond.methodLink RX10 46 yX10_ownWord ∈ wG := wG_in tb_3 147 (by decide +kernel) rfl
set_option maxRecDepth 20000 in
theorem l_X10_63 : Cond.methodLink RX10 63 yJ0_charAt_5068e ∈ wG := wG_in tb_3 152 (by decide +kernel) rfl
set_option maxRecDepth 20000 in
theorem l_J0_492 : Cond.methodLink RJ0 492 yJ0_isLatin1_aae02 ∈ wG := wG_in tb_3 156 (by decide +kernel) rfl
set_option maxRecDepth 20000 in
theorem l_J0_495 : Cond.methodLink RJ0 495 yJ1_charAt_3b067 ∈ wG := wG_in tb_3 162 (by decide +kernel) rfl
set_option maxRecDepth 20000 in
theorem l_J1_9 : Cond.methodLink RJ1 9 yJ0_checkIndex_df160 ∈ wG := wG_in tb_3 165 (by decide +kernel) rfl
set_option maxRecDepth 20000 in
theorem l_J0_1059 : Cond.methodLink RJ0 1059 yJ3_checkIndex_8e157 ∈ wG := wG_in tb_3 170 (by decide +kernel) rfl
set_option maxRecDepth 20000 in
theorem l_J0_498 : Cond.methodLink RJ0 498 yJ2_charAt_3b067 ∈ wG := wG_in tb_3 173 (by decide +kernel) rfl
set_option maxRecDepth 20000 in
theorem l_J2_67 : Cond.methodLink RJ2 67 yJ2_checkIndex_2214a ∈ wG := wG_in tb_3 176 (by decide +kernel) rfl
set_option maxRecDepth 20000 in
theorem l_J2_48 : Cond.methodLink RJ2 48 yJ2_length_9d52b ∈ wG := wG_in tb_3 179 (by decide +kernel) rfl
set_option maxRecDepth 20000 in
theorem l_J2_414 : Cond.methodLink RJ2 414 yJ0_checkIndex_df160 ∈ wG := wG_in tb_3 182 (by decide +kernel) rfl
set_option maxRecDepth 20000 in
theorem l_J2_71 : Cond.methodLink RJ2 71 yJ2_getChar_3b067 ∈ wG := wG_in tb_3 183 (by decide +kernel) rfl
set_option maxRecDepth 20000 in
theorem l_X10_49 : Cond.methodLink RX10 49 yX10_isDigit ∈ wG := wG_in tb_3 192 (by decide +kernel) rfl
set_option maxRecDepth 20000 in
theorem l_X10_52 : Cond.methodLink RX10 52 yX10_endOfNumber ∈ wG := wG_in tb_3 195 (by decide +kernel) rfl
set_option maxRecDepth 20000 in
theorem l_X10_55 : Cond.methodLink RX10 55 yX10_number ∈ wG := wG_in tb_3 199 (by decide +kernel) rfl
set_option maxRecDepth 20000 in
theorem l_X3_42 : Cond.methodLink RX3 42 yX3_statement ∈ wG := wG_in tb_3 203 (by decide +kernel) rfl
set_option maxRecDepth 20000 in
theorem l_X3_63 : Cond.methodLink RX3 63 yX3_roomFor ∈ wG := wG_in tb_3 207 (by decide +kernel) rfl
set_option maxRecDepth 20000 in
theorem l_X3_113 : Cond.methodLink RX3 113 yX7_hasRule ∈ wG := wG_in tb_3 211 (by decide +kernel) rfl
set_option maxRecDepth 20000 in
theorem l_X3_67 : Cond.methodLink RX3 67 yX3_refuseWord ∈ wG := wG_in tb_3 215 (by decide +kernel) rfl
set_option maxRecDepth 20000 in
theorem l_X3_53 : Cond.methodLink RX3 53 yX3_fail ∈ wG := wG_in tb_3 219 (by decide +kernel) rfl
set_option maxRecDepth 20000 in
theorem l_X3_74 : Cond.methodLink RX3 74 yX10_step ∈ wG := wG_in tb_3 223 (by decide +kernel) rfl
set_option maxRecDepth 20000 in
theorem l_X3_77 : Cond.methodLink RX3 77 yX3_give ∈ wG := wG_in tb_3 224 (by decide +kernel) rfl
set_option maxRecDepth 20000 in
theorem l_X3_206 : Cond.methodLink RX3 206 yX7_findName ∈ wG := wG_in tb_3 228 (by decide +kernel) rfl
set_option maxRecDepth 20000 in
theorem l_X7_73 : Cond.methodLink RX7 73 yX7_letterAt ∈ wG := wG_in tb_3 234 (by decide +kernel) rfl
set_option maxRecDepth 20000 in
theorem l_X7_85 : Cond.methodLink RX7 85 yX10_byteAt ∈ wG := wG_in tb_3 237 (by decide +kernel) rfl
set_option maxRecDepth 20000 in
theorem l_X3_210 : Cond.methodLink RX3 210 yX7_giveName ∈ wG := wG_in tb_3 238 (by decide +kernel) rfl
set_option maxRecDepth 20000 in
theorem l_X3_80 : Cond.methodLink RX3 80 yX3_tellPage ∈ wG := wG_in tb_4 2 (by decide +kernel) rfl
set_option maxRecDepth 20000 in
theorem l_X3_116 : Cond.methodLink RX3 116 yX3_wantOwn ∈ wG := wG_in tb_4 6 (by decide +kernel) rfl
set_option maxRecDepth 20000 in
theorem l_X3_132 : Cond.methodLink RX3 132 yX10_isOwn ∈ wG := wG_in tb_4 10 (by decide +kernel) rfl
set_option maxRecDepth 20000 in
theorem l_X3_119 : Cond.methodLink RX3 119 yX3_askName ∈ wG := wG_in tb_4 14 (by decide +kernel) rfl
set_option maxRecDepth 20000 in
theorem l_X3_125 : Cond.methodLink RX3 125 yX3_askNumber ∈ wG := wG_in tb_4 18 (by decide +kernel) rfl
set_option maxRecDepth 20000 in
theorem l_X3_83 : Cond.methodLink RX3 83 yX3_tellNeed ∈ wG := wG_in tb_4 22 (by decide +kernel) rfl
set_option maxRecDepth 20000 in
theorem l_X3_86 : Cond.methodLink RX3 86 yX3_tellReader ∈ wG := wG_in tb_4 26 (by decide +kernel) rfl
set_option maxRecDepth 20000 in
theorem l_X3_89 : Cond.methodLink RX3 89 yX3_tellTable ∈ wG := wG_in tb_4 30 (by decide +kernel) rfl
set_option maxRecDepth 20000 in
theorem l_X3_92 : Cond.methodLink RX3 92 yX3_tellInch ∈ wG := wG_in tb_4 34 (by decide +kernel) rfl
set_option maxRecDepth 20000 in
theorem l_X3_95 : Cond.methodLink RX3 95 yX3_beginRule ∈ wG := wG_in tb_4 38 (by decide +kernel) rfl
set_option maxRecDepth 20000 in
theorem l_X3_98 : Cond.methodLink RX3 98 yX3_parseSum ∈ wG := wG_in tb_4 42 (by decide +kernel) rfl
set_option maxRecDepth 20000 in
theorem l_X3_191 : Cond.methodLink RX3 191 yX3_parseProduct ∈ wG := wG_in tb_4 46 (by decide +kernel) rfl
set_option maxRecDepth 20000 in
theorem l_X3_197 : Cond.methodLink RX3 197 yX3_parsePart ∈ wG := wG_in tb_4 50 (by decide +kernel) rfl
set_option maxRecDepth 20000 in
theorem l_X3_165 : Cond.methodLink RX3 165 yX7_emit ∈ wG := wG_in tb_4 54 (by decide +kernel) rfl
set_option maxRecDepth 20000 in
theorem l_X3_178 : Cond.methodLink RX3 178 yX10_isSign ∈ wG := wG_in tb_4 58 (by decide +kernel) rfl
set_option maxRecDepth 20000 in
theorem l_X3_172 : Cond.methodLink RX3 172 yX3_openOne ∈ wG := wG_in tb_4 62 (by decide +kernel) rfl
set_option maxRecDepth 20000 in
theorem l_X3_181 : Cond.methodLink RX3 181 yX3_closeOne ∈ wG := wG_in tb_4 66 (by decide +kernel) rfl
set_option maxRecDepth 20000 in
theorem l_X3_107 : Cond.methodLink RX3 107 yX3_wantSign ∈ wG := wG_in tb_4 70 (by decide +kernel) rfl
set_option maxRecDepth 20000 in
theorem l_X3_203 : Cond.methodLink RX3 203 yX3_isValue ∈ wG := wG_in tb_4 74 (by decide +kernel) rfl
set_option maxRecDepth 20000 in
theorem l_X3_184 : Cond.methodLink RX3 184 yX3_signOperator ∈ wG := wG_in tb_4 77 (by decide +kernel) rfl
set_option maxRecDepth 20000 in
theorem l_X3_200 : Cond.methodLink RX3 200 yX3_isProductOperator ∈ wG := wG_in tb_4 81 (by decide +kernel) rfl
set_option maxRecDepth 20000 in
theorem l_X3_194 : Cond.methodLink RX3 194 yX3_isSumOperator ∈ wG := wG_in tb_4 84 (by decide +kernel) rfl
set_option maxRecDepth 20000 in
theorem l_X3_101 : Cond.methodLink RX3 101 yX3_endRule ∈ wG := wG_in tb_4 87 (by decide +kernel) rfl
set_option maxRecDepth 20000 in
theorem l_X3_104 : Cond.methodLink RX3 104 yX3_parseTest ∈ wG := wG_in tb_4 91 (by decide +kernel) rfl
set_option maxRecDepth 20000 in
theorem l_X3_162 : Cond.methodLink RX3 162 yX3_parseBoth ∈ wG := wG_in tb_4 95 (by decide +kernel) rfl
set_option maxRecDepth 20000 in
theorem l_X3_169 : Cond.methodLink RX3 169 yX3_parseFact ∈ wG := wG_in tb_4 99 (by decide +kernel) rfl
set_option maxRecDepth 20000 in
theorem l_X3_175 : Cond.methodLink RX3 175 yX3_parseNegated ∈ wG := wG_in tb_4 103 (by decide +kernel) rfl
set_option maxRecDepth 20000 in
theorem l_X3_188 : Cond.methodLink RX3 188 yX3_isTestOperator ∈ wG := wG_in tb_4 107 (by decide +kernel) rfl
set_option maxRecDepth 20000 in
theorem l_X3_57 : Cond.methodLink RX3 57 yX7_gatherNeeds ∈ wG := wG_in tb_4 110 (by decide +kernel) rfl
set_option maxRecDepth 20000 in
theorem l_X11_124 : Cond.methodLink RX11 124 yX2_open ∈ wG := wG_in tb_4 114 (by decide +kernel) rfl
set_option maxRecDepth 20000 in
theorem l_X11_145 : Cond.methodLink RX11 145 yX2_toldAsKept ∈ wG := wG_in tb_4 124 (by decide +kernel) rfl
set_option maxRecDepth 20000 in
theorem l_X2_58 : Cond.methodLink RX2 58 yJ9_min_7cf53 ∈ wG := wG_in tb_4 128 (by decide +kernel) rfl
set_option maxRecDepth 20000 in
theorem l_X11_149 : Cond.methodLink RX11 149 yX2_knownByAll ∈ wG := wG_in tb_4 131 (by decide +kernel) rfl
set_option maxRecDepth 20000 in
theorem l_X2_72 : Cond.methodLink RX2 72 yX2_known ∈ wG := wG_in tb_4 135 (by decide +kernel) rfl
set_option maxRecDepth 20000 in
theorem l_X2_64 : Cond.methodLink RX2 64 yX2_of ∈ wG := wG_in tb_4 139 (by decide +kernel) rfl
set_option maxRecDepth 20000 in
theorem l_X2_76 : Cond.methodLink RX2 76 yJ6_bitCount_0f7a4 ∈ wG := wG_in tb_4 143 (by decide +kernel) rfl
set_option maxRecDepth 20000 in
theorem q_J6_265 : Cond.constant RJ6 265 (1431655765 : Int32) ∈ wG := wG_in tb_4 146 (by decide +kernel) rfl
set_option maxRecDepth 20000 in
theorem q_J6_266 : Cond.constant RJ6 266 (858993459 : Int32) ∈ wG := wG_in tb_4 147 (by decide +kernel) rfl
set_option maxRecDepth 20000 in
theorem q_J6_267 : Cond.constant RJ6 267 (252645135 : Int32) ∈ wG := wG_in tb_4 148 (by decide +kernel) rfl
set_option maxRecDepth 20000 in
theorem l_X11_155 : Cond.methodLink RX11 155 yX7_holds ∈ wG := wG_in tb_4 153 (by decide +kernel) rfl
set_option maxRecDepth 20000 in
theorem f_X11_162 : Cond.fieldLink RX11 162 "CandleInch" "FIRST_NAME" "[I" ∈ wG := wG_in tb_4 157 (by decide +kernel) rfl
set_option maxRecDepth 20000 in
theorem l_X11_180 : Cond.methodLink RX11 180 yX2_knownBy ∈ wG := wG_in tb_4 162 (by decide +kernel) rfl
set_option maxRecDepth 20000 in
theorem l_X11_183 : Cond.methodLink RX11 183 yX2_of ∈ wG := wG_in tb_4 170 (by decide +kernel) rfl
set_option maxRecDepth 20000 in
theorem l_X11_193 : Cond.methodLink RX11 193 yX2_listed ∈ wG := wG_in tb_4 171 (by decide +kernel) rfl
set_option maxRecDepth 20000 in
theorem l_X11_199 : Cond.methodLink RX11 199 yX2_sittingAt ∈ wG := wG_in tb_4 179 (by decide +kernel) rfl
set_option maxRecDepth 20000 in
theorem l_X11_202 : Cond.methodLink RX11 202 yX9_lightAt ∈ wG := wG_in tb_4 183 (by decide +kernel) rfl
set_option maxRecDepth 20000 in
theorem l_X9_37 : Cond.methodLink RX9 37 yX2_sittingAt ∈ wG := wG_in tb_4 187 (by decide +kernel) rfl
set_option maxRecDepth 20000 in
theorem l_X9_22 : Cond.methodLink RX9 22 yX2_of ∈ wG := wG_in tb_4 188 (by decide +kernel) rfl
set_option maxRecDepth 20000 in
theorem l_X9_41 : Cond.methodLink RX9 41 yX2_known ∈ wG := wG_in tb_4 189 (by decide +kernel) rfl
set_option maxRecDepth 20000 in
theorem l_X9_44 : Cond.methodLink RX9 44 yJ6_bitCount_0f7a4 ∈ wG := wG_in tb_4 190 (by decide +kernel) rfl
set_option maxRecDepth 20000 in
theorem l_X9_49 : Cond.methodLink RX9 49 yX9_setAt ∈ wG := wG_in tb_4 191 (by decide +kernel) rfl
set_option maxRecDepth 20000 in
theorem l_X9_91 : Cond.methodLink RX9 91 yX9_inchMinutes ∈ wG := wG_in tb_4 195 (by decide +kernel) rfl
set_option maxRecDepth 20000 in
theorem l_X9_66 : Cond.methodLink RX9 66 yX7_hasRule ∈ wG := wG_in tb_4 199 (by decide +kernel) rfl
set_option maxRecDepth 20000 in
theorem l_X9_70 : Cond.methodLink RX9 70 yX9_run ∈ wG := wG_in tb_4 200 (by decide +kernel) rfl
set_option maxRecDepth 20000 in
theorem l_X9_73 : Cond.methodLink RX9 73 yJ9_min_7cf53 ∈ wG := wG_in tb_4 204 (by decide +kernel) rfl
set_option maxRecDepth 20000 in
theorem l_X9_107 : Cond.methodLink RX9 107 yX9_join ∈ wG := wG_in tb_4 205 (by decide +kernel) rfl
set_option maxRecDepth 20000 in
theorem l_X9_111 : Cond.methodLink RX9 111 yX9_bounded ∈ wG := wG_in tb_4 208 (by decide +kernel) rfl
set_option maxRecDepth 20000 in
theorem q_X9_122 : Cond.constantLong RX9 122 (1000000 : Int64) ∈ wG := wG_in tb_4 211 (by decide +kernel) rfl
set_option maxRecDepth 20000 in
theorem q_X9_124 : Cond.constant RX9 124 (1000000 : Int32) ∈ wG := wG_in tb_4 212 (by decide +kernel) rfl
set_option maxRecDepth 20000 in
theorem q_X9_125 : Cond.constantLong RX9 125 (-1000000 : Int64) ∈ wG := wG_in tb_4 213 (by decide +kernel) rfl
set_option maxRecDepth 20000 in
theorem q_X9_127 : Cond.constant RX9 127 (-1000000 : Int32) ∈ wG := wG_in tb_4 214 (by decide +kernel) rfl
set_option maxRecDepth 20000 in
theorem l_X9_115 : Cond.methodLink RX9 115 yJ9_floorDiv_f86c9 ∈ wG := wG_in tb_4 215 (by decide +kernel) rfl
set_option maxRecDepth 20000 in
theorem l_X9_119 : Cond.methodLink RX9 119 yJ9_floorMod_f86c9 ∈ wG := wG_in tb_4 218 (by decide +kernel) rfl
set_option maxRecDepth 20000 in
theorem l_X9_78 : Cond.methodLink RX9 78 yJ9_max_7cf53 ∈ wG := wG_in tb_4 221 (by decide +kernel) rfl
set_option maxRecDepth 20000 in
theorem l_X11_205 : Cond.methodLink RX11 205 yX9_setNow ∈ wG := wG_in tb_4 228 (by decide +kernel) rfl
set_option maxRecDepth 20000 in
theorem l_X11_208 : Cond.methodLink RX11 208 yX9_pageMinutes ∈ wG := wG_in tb_4 232 (by decide +kernel) rfl
set_option maxRecDepth 20000 in
theorem l_X9_84 : Cond.methodLink RX9 84 yX9_setPage ∈ wG := wG_in tb_4 236 (by decide +kernel) rfl
set_option maxRecDepth 20000 in
theorem l_X11_211 : Cond.methodLink RX11 211 yX9_inchMinutes ∈ wG := wG_in tb_5 4 (by decide +kernel) rfl
set_option maxRecDepth 20000 in
theorem l_X11_214 : Cond.methodLink RX11 214 yX1_foresee ∈ wG := wG_in tb_5 9 (by decide +kernel) rfl
set_option maxRecDepth 20000 in
theorem l_X1_57 : Cond.methodLink RX1 57 yX1_draftAt ∈ wG := wG_in tb_5 13 (by decide +kernel) rfl
set_option maxRecDepth 20000 in
theorem l_X1_61 : Cond.methodLink RX1 61 yX9_lightAt ∈ wG := wG_in tb_5 17 (by decide +kernel) rfl
set_option maxRecDepth 20000 in
theorem l_X1_66 : Cond.methodLink RX1 66 yX2_of ∈ wG := wG_in tb_5 18 (by decide +kernel) rfl
set_option maxRecDepth 20000 in
theorem l_X1_69 : Cond.methodLink RX1 69 yX2_sittingAt ∈ wG := wG_in tb_5 19 (by decide +kernel) rfl
set_option maxRecDepth 20000 in
theorem l_X1_73 : Cond.methodLink RX1 73 yX0_lay ∈ wG := wG_in tb_5 20 (by decide +kernel) rfl
set_option maxRecDepth 20000 in
theorem l_X0_26 : Cond.methodLink RX0 26 yX2_known ∈ wG := wG_in tb_5 24 (by decide +kernel) rfl
set_option maxRecDepth 20000 in
theorem l_X0_32 : Cond.methodLink RX0 32 yX2_of ∈ wG := wG_in tb_5 25 (by decide +kernel) rfl
set_option maxRecDepth 20000 in
theorem l_X0_40 : Cond.methodLink RX0 40 yX7_mayRead ∈ wG := wG_in tb_5 26 (by decide +kernel) rfl
set_option maxRecDepth 20000 in
theorem l_X0_46 : Cond.methodLink RX0 46 yX0_nextPage ∈ wG := wG_in tb_5 30 (by decide +kernel) rfl
set_option maxRecDepth 20000 in
theorem l_X0_75 : Cond.methodLink RX0 75 yX2_listed ∈ wG := wG_in tb_5 34 (by decide +kernel) rfl
set_option maxRecDepth 20000 in
theorem l_X0_56 : Cond.methodLink RX0 56 yJ6_bitCount_0f7a4 ∈ wG := wG_in tb_5 35 (by decide +kernel) rfl
set_option maxRecDepth 20000 in
theorem l_X0_61 : Cond.methodLink RX0 61 yX9_setAt ∈ wG := wG_in tb_5 36 (by decide +kernel) rfl
set_option maxRecDepth 20000 in
theorem l_X0_67 : Cond.methodLink RX0 67 yX9_pageMinutes ∈ wG := wG_in tb_5 37 (by decide +kernel) rfl
set_option maxRecDepth 20000 in
theorem l_X0_70 : Cond.methodLink RX0 70 yJ9_max_7cf53 ∈ wG := wG_in tb_5 38 (by decide +kernel) rfl
set_option maxRecDepth 20000 in
theorem l_X1_79 : Cond.methodLink RX1 79 yX1_follow ∈ wG := wG_in tb_5 39 (by decide +kernel) rfl
set_option maxRecDepth 20000 in
theorem l_X1_91 : Cond.methodLink RX1 91 yX0_readBy ∈ wG := wG_in tb_5 43 (by decide +kernel) rfl
set_option maxRecDepth 20000 in
theorem l_X1_97 : Cond.methodLink RX1 97 yX0_stopBy ∈ wG := wG_in tb_5 47 (by decide +kernel) rfl
set_option maxRecDepth 20000 in
theorem l_X0_78 : Cond.methodLink RX0 78 yJ9_min_7cf53 ∈ wG := wG_in tb_5 51 (by decide +kernel) rfl
set_option maxRecDepth 20000 in
theorem l_X1_104 : Cond.methodLink RX1 104 yX0_beginOf ∈ wG := wG_in tb_5 52 (by decide +kernel) rfl
set_option maxRecDepth 20000 in
theorem l_X1_83 : Cond.methodLink RX1 83 yJ9_max_7cf53 ∈ wG := wG_in tb_5 56 (by decide +kernel) rfl
set_option maxRecDepth 20000 in
theorem l_X11_230 : Cond.methodLink RX11 230 yX1_allRead ∈ wG := wG_in tb_5 61 (by decide +kernel) rfl
set_option maxRecDepth 20000 in
theorem l_X11_233 : Cond.methodLink RX11 233 yX1_allLight ∈ wG := wG_in tb_5 65 (by decide +kernel) rfl
set_option maxRecDepth 20000 in
theorem l_X11_236 : Cond.methodLink RX11 236 yX1_allWax ∈ wG := wG_in tb_5 69 (by decide +kernel) rfl
set_option maxRecDepth 20000 in
theorem l_X11_239 : Cond.methodLink RX11 239 yX1_idle ∈ wG := wG_in tb_5 73 (by decide +kernel) rfl
set_option maxRecDepth 20000 in
theorem l_X11_242 : Cond.methodLink RX11 242 yX2_remember ∈ wG := wG_in tb_5 81 (by decide +kernel) rfl
set_option maxRecDepth 20000 in
theorem l_X2_42 : Cond.methodLink RX2 42 arraycopyName ∈ wG := wG_in tb_5 85 (by decide +kernel) rfl
set_option maxRecDepth 20000 in
theorem l_X11_245 : Cond.methodLink RX11 245 yX2_set ∈ wG := wG_in tb_5 88 (by decide +kernel) rfl
set_option maxRecDepth 20000 in
theorem l_X11_249 : Cond.methodLink RX11 249 yX2_mayList ∈ wG := wG_in tb_5 93 (by decide +kernel) rfl
set_option maxRecDepth 20000 in
theorem l_X2_81 : Cond.methodLink RX2 81 yX2_placeOf ∈ wG := wG_in tb_5 97 (by decide +kernel) rfl
set_option maxRecDepth 20000 in
theorem l_X11_252 : Cond.methodLink RX11 252 yX2_putBehind ∈ wG := wG_in tb_5 101 (by decide +kernel) rfl
set_option maxRecDepth 20000 in
theorem l_X11_256 : Cond.methodLink RX11 256 yX11_mayTell ∈ wG := wG_in tb_5 113 (by decide +kernel) rfl
set_option maxRecDepth 20000 in
theorem l_X11_360 : Cond.methodLink RX11 360 yX2_known ∈ wG := wG_in tb_5 117 (by decide +kernel) rfl
set_option maxRecDepth 20000 in
theorem l_X11_363 : Cond.methodLink RX11 363 yX7_mayRead ∈ wG := wG_in tb_5 118 (by decide +kernel) rfl
set_option maxRecDepth 20000 in
theorem l_X11_366 : Cond.methodLink RX11 366 yX9_mayHear ∈ wG := wG_in tb_5 119 (by decide +kernel) rfl
set_option maxRecDepth 20000 in
theorem l_X11_260 : Cond.methodLink RX11 260 yX2_strike ∈ wG := wG_in tb_5 123 (by decide +kernel) rfl
set_option maxRecDepth 20000 in
theorem l_X11_263 : Cond.methodLink RX11 263 yX11_passNight ∈ wG := wG_in tb_5 131 (by decide +kernel) rfl
set_option maxRecDepth 20000 in
theorem l_X11_369 : Cond.methodLink RX11 369 yX1_happen ∈ wG := wG_in tb_5 135 (by decide +kernel) rfl
set_option maxRecDepth 20000 in
theorem l_X1_113 : Cond.methodLink RX1 113 yX1_allWax ∈ wG := wG_in tb_5 139 (by decide +kernel) rfl
set_option maxRecDepth 20000 in
theorem l_X1_117 : Cond.methodLink RX1 117 yJ9_min_7cf53 ∈ wG := wG_in tb_5 140 (by decide +kernel) rfl
set_option maxRecDepth 20000 in
theorem l_X1_120 : Cond.methodLink RX1 120 yX2_set ∈ wG := wG_in tb_5 141 (by decide +kernel) rfl
set_option maxRecDepth 20000 in
theorem l_X1_124 : Cond.methodLink RX1 124 yX2_strike ∈ wG := wG_in tb_5 142 (by decide +kernel) rfl
set_option maxRecDepth 20000 in
theorem l_X1_127 : Cond.methodLink RX1 127 yX2_keep ∈ wG := wG_in tb_5 143 (by decide +kernel) rfl
set_option maxRecDepth 20000 in
theorem l_X11_266 : Cond.methodLink RX11 266 yX11_drawOf ∈ wG := wG_in tb_5 151 (by decide +kernel) rfl
set_option maxRecDepth 20000 in
theorem q_X11_372 : Cond.constant RX11 372 (1103515245 : Int32) ∈ wG := wG_in tb_5 155 (by decide +kernel) rfl
set_option maxRecDepth 20000 in
theorem q_X11_373 : Cond.constant RX11 373 (2147483647 : Int32) ∈ wG := wG_in tb_5 156 (by decide +kernel) rfl
set_option maxRecDepth 20000 in
theorem l_X11_269 : Cond.methodLink RX11 269 yX2_recall ∈ wG := wG_in tb_5 161 (by decide +kernel) rfl
set_option maxRecDepth 20000 in
theorem l_X11_276 : Cond.methodLink RX11 276 yX7_isQuestion ∈ wG := wG_in tb_5 177 (by decide +kernel) rfl
set_option maxRecDepth 20000 in
theorem l_X11_279 : Cond.methodLink RX11 279 yX8_workOf ∈ wG := wG_in tb_5 181 (by decide +kernel) rfl
set_option maxRecDepth 20000 in
theorem l_X8_63 : Cond.methodLink RX8 63 yX8_pagesOf ∈ wG := wG_in tb_5 185 (by decide +kernel) rfl
set_option maxRecDepth 20000 in
theorem l_X8_53 : Cond.methodLink RX8 53 yX2_known ∈ wG := wG_in tb_5 189 (by decide +kernel) rfl
set_option maxRecDepth 20000 in
theorem l_X8_67 : Cond.methodLink RX8 67 yX9_setNow ∈ wG := wG_in tb_5 190 (by decide +kernel) rfl
set_option maxRecDepth 20000 in
theorem l_X8_71 : Cond.methodLink RX8 71 yX9_pageMinutes ∈ wG := wG_in tb_5 191 (by decide +kernel) rfl
set_option maxRecDepth 20000 in
theorem l_X11_283 : Cond.methodLink RX11 283 yX8_nightsOf ∈ wG := wG_in tb_5 192 (by decide +kernel) rfl
set_option maxRecDepth 20000 in
theorem l_X8_74 : Cond.methodLink RX8 74 yX8_workOf ∈ wG := wG_in tb_5 196 (by decide +kernel) rfl
set_option maxRecDepth 20000 in
theorem l_X8_77 : Cond.methodLink RX8 77 yX8_lightOf ∈ wG := wG_in tb_5 197 (by decide +kernel) rfl
set_option maxRecDepth 20000 in
theorem l_X8_33 : Cond.methodLink RX8 33 yX2_of ∈ wG := wG_in tb_5 201 (by decide +kernel) rfl
set_option maxRecDepth 20000 in
theorem l_X8_48 : Cond.methodLink RX8 48 yX9_lightAt ∈ wG := wG_in tb_5 202 (by decide +kernel) rfl
set_option maxRecDepth 20000 in
theorem l_X8_80 : Cond.methodLink RX8 80 yX8_nightsFor ∈ wG := wG_in tb_5 203 (by decide +kernel) rfl
set_option maxRecDepth 20000 in
theorem l_X11_286 : Cond.methodLink RX11 286 yX8_pagesOf ∈ wG := wG_in tb_5 206 (by decide +kernel) rfl
set_option maxRecDepth 20000 in
theorem l_X11_289 : Cond.methodLink RX11 289 yJ6_bitCount_0f7a4 ∈ wG := wG_in tb_5 215 (by decide +kernel) rfl
set_option maxRecDepth 20000 in
theorem l_X11_294 : Cond.methodLink RX11 294 yX6_find ∈ wG := wG_in tb_5 216 (by decide +kernel) rfl
set_option maxRecDepth 20000 in
theorem l_X6_70 : Cond.methodLink RX6 70 yJ9_min_7cf53 ∈ wG := wG_in tb_5 220 (by decide +kernel) rfl
set_option maxRecDepth 20000 in
theorem l_X6_79 : Cond.methodLink RX6 79 yX6_measure ∈ wG := wG_in tb_5 221 (by decide +kernel) rfl
set_option maxRecDepth 20000 in
theorem l_X6_93 : Cond.methodLink RX6 93 yX2_of ∈ wG := wG_in tb_5 225 (by decide +kernel) rfl
set_option maxRecDepth 20000 in
theorem l_X6_99 : Cond.methodLink RX6 99 yX9_lightAt ∈ wG := wG_in tb_5 226 (by decide +kernel) rfl
set_option maxRecDepth 20000 in
theorem l_X6_104 : Cond.methodLink RX6 104 yX9_setNow ∈ wG := wG_in tb_5 227 (by decide +kernel) rfl
set_option maxRecDepth 20000 in
theorem l_X6_107 : Cond.methodLink RX6 107 yX9_pageMinutes ∈ wG := wG_in tb_5 228 (by decide +kernel) rfl
set_option maxRecDepth 20000 in
theorem l_X6_111 : Cond.methodLink RX6 111 yX8_pagesOf ∈ wG := wG_in tb_5 229 (by decide +kernel) rfl
set_option maxRecDepth 20000 in
theorem l_X6_89 : Cond.methodLink RX6 89 yX6_share ∈ wG := wG_in tb_5 230 (by decide +kernel) rfl
set_option maxRecDepth 20000 in
theorem l_X6_117 : Cond.methodLink RX6 117 yX6_isNoBetter ∈ wG := wG_in tb_5 233 (by decide +kernel) rfl
set_option maxRecDepth 20000 in
theorem l_X6_121 : Cond.methodLink RX6 121 yX6_take ∈ wG := wG_in tb_5 237 (by decide +kernel) rfl
set_option maxRecDepth 20000 in
theorem l_X6_134 : Cond.methodLink RX6 134 arraycopyName ∈ wG := wG_in tb_6 1 (by decide +kernel) rfl
set_option maxRecDepth 20000 in
theorem l_X6_125 : Cond.methodLink RX6 125 yX6_minutesOf ∈ wG := wG_in tb_6 2 (by decide +kernel) rfl
set_option maxRecDepth 20000 in
theorem l_X6_128 : Cond.methodLink RX6 128 yX8_nightsFor ∈ wG := wG_in tb_6 6 (by decide +kernel) rfl
set_option maxRecDepth 20000 in
theorem l_X6_131 : Cond.methodLink RX6 131 yJ9_max_7cf53 ∈ wG := wG_in tb_6 7 (by decide +kernel) rfl
set_option maxRecDepth 20000 in
theorem l_X11_303 : Cond.methodLink RX11 303 yX6_readerOf ∈ wG := wG_in tb_6 8 (by decide +kernel) rfl
set_option maxRecDepth 20000 in
theorem l_X11_306 : Cond.methodLink RX11 306 yX5_find ∈ wG := wG_in tb_6 16 (by decide +kernel) rfl
set_option maxRecDepth 20000 in
theorem q_X5_68 : Cond.constantLong RX5 68 (-1000000000000 : Int64) ∈ wG := wG_in tb_6 20 (by decide +kernel) rfl
set_option maxRecDepth 20000 in
theorem l_X5_70 : Cond.methodLink RX5 70 yJ7_fill_d0a16 ∈ wG := wG_in tb_6 21 (by decide +kernel) rfl
set_option maxRecDepth 20000 in
theorem l_X5_76 : Cond.methodLink RX5 76 yX5_weighTable ∈ wG := wG_in tb_6 24 (by decide +kernel) rfl
set_option maxRecDepth 20000 in
theorem l_X5_101 : Cond.methodLink RX5 101 yX2_known ∈ wG := wG_in tb_6 28 (by decide +kernel) rfl
set_option maxRecDepth 20000 in
theorem l_X5_105 : Cond.methodLink RX5 105 yJ6_bitCount_0f7a4 ∈ wG := wG_in tb_6 29 (by decide +kernel) rfl
set_option maxRecDepth 20000 in
theorem l_X5_110 : Cond.methodLink RX5 110 yX9_setAt ∈ wG := wG_in tb_6 30 (by decide +kernel) rfl
set_option maxRecDepth 20000 in
theorem l_X5_116 : Cond.methodLink RX5 116 yX9_inchMinutes ∈ wG := wG_in tb_6 31 (by decide +kernel) rfl
set_option maxRecDepth 20000 in
theorem l_X5_120 : Cond.methodLink RX5 120 yX0_lay ∈ wG := wG_in tb_6 32 (by decide +kernel) rfl
set_option maxRecDepth 20000 in
theorem l_X5_130 : Cond.methodLink RX5 130 arraycopyName ∈ wG := wG_in tb_6 33 (by decide +kernel) rfl
set_option maxRecDepth 20000 in
theorem l_X5_136 : Cond.methodLink RX5 136 yX5_weigh ∈ wG := wG_in tb_6 34 (by decide +kernel) rfl
set_option maxRecDepth 20000 in
theorem l_X5_140 : Cond.methodLink RX5 140 yX5_lastEnd ∈ wG := wG_in tb_6 38 (by decide +kernel) rfl
set_option maxRecDepth 20000 in
theorem l_X5_143 : Cond.methodLink RX5 143 yJ9_max_7cf53 ∈ wG := wG_in tb_6 42 (by decide +kernel) rfl
set_option maxRecDepth 20000 in
theorem q_X5_96 : Cond.constantLong RX5 96 (4096 : Int64) ∈ wG := wG_in tb_6 43 (by decide +kernel) rfl
set_option maxRecDepth 20000 in
theorem q_X5_88 : Cond.constantLong RX5 88 (16384 : Int64) ∈ wG := wG_in tb_6 44 (by decide +kernel) rfl
set_option maxRecDepth 20000 in
theorem l_X5_80 : Cond.methodLink RX5 80 yX5_joinTable ∈ wG := wG_in tb_6 45 (by decide +kernel) rfl
set_option maxRecDepth 20000 in
theorem l_X5_147 : Cond.methodLink RX5 147 yJ9_max_f86c9 ∈ wG := wG_in tb_6 49 (by decide +kernel) rfl
set_option maxRecDepth 20000 in
theorem l_X5_84 : Cond.methodLink RX5 84 yX5_tellFound ∈ wG := wG_in tb_6 52 (by decide +kernel) rfl
set_option maxRecDepth 20000 in
theorem l_X5_90 : Cond.methodLink RX5 90 yJ9_floorMod_f86c9 ∈ wG := wG_in tb_6 56 (by decide +kernel) rfl
set_option maxRecDepth 20000 in
theorem l_X11_308 : Cond.methodLink RX11 308 yX5_pagesRead ∈ wG := wG_in tb_6 57 (by decide +kernel) rfl
set_option maxRecDepth 20000 in
theorem l_X11_311 : Cond.methodLink RX11 311 yX5_waxSaved ∈ wG := wG_in tb_6 61 (by decide +kernel) rfl
set_option maxRecDepth 20000 in
theorem l_X11_314 : Cond.methodLink RX11 314 yX5_tableOf ∈ wG := wG_in tb_6 65 (by decide +kernel) rfl
set_option maxRecDepth 20000 in
theorem l_X11_317 : Cond.methodLink RX11 317 yX8_findMost ∈ wG := wG_in tb_6 73 (by decide +kernel) rfl
set_option maxRecDepth 20000 in
theorem l_X8_95 : Cond.methodLink RX8 95 yX8_measurePages ∈ wG := wG_in tb_6 77 (by decide +kernel) rfl
set_option maxRecDepth 20000 in
theorem l_X8_107 : Cond.methodLink RX8 107 yX8_chooseMost ∈ wG := wG_in tb_6 81 (by decide +kernel) rfl
set_option maxRecDepth 20000 in
theorem l_X8_111 : Cond.methodLink RX8 111 yX8_tryMost ∈ wG := wG_in tb_6 84 (by decide +kernel) rfl
set_option maxRecDepth 20000 in
theorem l_X8_115 : Cond.methodLink RX8 115 yX7_mayRead ∈ wG := wG_in tb_6 88 (by decide +kernel) rfl
set_option maxRecDepth 20000 in
theorem l_X11_329 : Cond.methodLink RX11 329 yX8_findSets ∈ wG := wG_in tb_6 93 (by decide +kernel) rfl
set_option maxRecDepth 20000 in
theorem l_X8_125 : Cond.methodLink RX8 125 yX2_sittingAt ∈ wG := wG_in tb_6 97 (by decide +kernel) rfl
set_option maxRecDepth 20000 in
theorem l_X8_128 : Cond.methodLink RX8 128 yX9_setAt ∈ wG := wG_in tb_6 98 (by decide +kernel) rfl
set_option maxRecDepth 20000 in
theorem l_X8_141 : Cond.methodLink RX8 141 yX8_chooseSets ∈ wG := wG_in tb_6 99 (by decide +kernel) rfl
set_option maxRecDepth 20000 in
theorem l_X8_145 : Cond.methodLink RX8 145 yX8_addSet ∈ wG := wG_in tb_6 102 (by decide +kernel) rfl
set_option maxRecDepth 20000 in
theorem l_X11_341 : Cond.methodLink RX11 341 yX8_workOfAll ∈ wG := wG_in tb_6 110 (by decide +kernel) rfl
set_option maxRecDepth 20000 in
theorem l_X11_344 : Cond.methodLink RX11 344 yX4_write ∈ wG := wG_in tb_6 118 (by decide +kernel) rfl
set_option maxRecDepth 20000 in
theorem l_X4_25 : Cond.methodLink RX4 25 yX4_putTwo ∈ wG := wG_in tb_6 122 (by decide +kernel) rfl
set_option maxRecDepth 20000 in
theorem l_X4_42 : Cond.methodLink RX4 42 yX4_put ∈ wG := wG_in tb_6 126 (by decide +kernel) rfl
set_option maxRecDepth 20000 in
theorem l_X4_38 : Cond.methodLink RX4 38 yX2_of ∈ wG := wG_in tb_6 130 (by decide +kernel) rfl
set_option maxRecDepth 20000 in
theorem l_X4_45 : Cond.methodLink RX4 45 yX2_listed ∈ wG := wG_in tb_6 131 (by decide +kernel) rfl
set_option maxRecDepth 20000 in
theorem l_X11_351 : Cond.methodLink RX11 351 yX4_read ∈ wG := wG_in tb_6 140 (by decide +kernel) rfl
set_option maxRecDepth 20000 in
theorem l_X4_48 : Cond.methodLink RX4 48 yJ7_fill_53178 ∈ wG := wG_in tb_6 144 (by decide +kernel) rfl
set_option maxRecDepth 20000 in
theorem l_X4_57 : Cond.methodLink RX4 57 yX4_takeTwo ∈ wG := wG_in tb_6 145 (by decide +kernel) rfl
set_option maxRecDepth 20000 in
theorem l_X4_79 : Cond.methodLink RX4 79 yX4_take ∈ wG := wG_in tb_6 149 (by decide +kernel) rfl
set_option maxRecDepth 20000 in
theorem l_X4_72 : Cond.methodLink RX4 72 yX10_byteAt ∈ wG := wG_in tb_6 153 (by decide +kernel) rfl
set_option maxRecDepth 20000 in
theorem l_X4_61 : Cond.methodLink RX4 61 yX4_within ∈ wG := wG_in tb_6 154 (by decide +kernel) rfl
set_option maxRecDepth 20000 in
theorem l_X4_65 : Cond.methodLink RX4 65 yX4_readOne ∈ wG := wG_in tb_6 157 (by decide +kernel) rfl
set_option maxRecDepth 20000 in
theorem l_X4_76 : Cond.methodLink RX4 76 yX4_checkOf ∈ wG := wG_in tb_6 161 (by decide +kernel) rfl
set_option maxRecDepth 20000 in
theorem l_X11_356 : Cond.methodLink RX11 356 yX2_become ∈ wG := wG_in tb_6 164 (by decide +kernel) rfl
set_option maxRecDepth 20000 in
theorem l_X12_1 : Cond.methodLink RX12 1 objectInit ∈ wG := wG_in tb_6 177 (by decide +kernel) rfl
set_option maxRecDepth 20000 in
theorem f_X12_7 : Cond.fieldLink RX12 7 (TX12 0).1 (TX12 0).2.1 (TX12 0).2.2.1 ∈ wG := wG_in tb_6 178 (by decide +kernel) rfl
set_option maxRecDepth 20000 in
theorem f_X12_13 : Cond.fieldLink RX12 13 (TX12 1).1 (TX12 1).2.1 (TX12 1).2.2.1 ∈ wG := wG_in tb_6 179 (by decide +kernel) rfl
set_option maxRecDepth 20000 in
theorem f_X12_17 : Cond.fieldLink RX12 17 (TX12 2).1 (TX12 2).2.1 (TX12 2).2.2.1 ∈ wG := wG_in tb_6 180 (by decide +kernel) rfl
set_option maxRecDepth 20000 in
theorem f_X12_20 : Cond.fieldLink RX12 20 (TX12 3).1 (TX12 3).2.1 (TX12 3).2.2.1 ∈ wG := wG_in tb_6 181 (by decide +kernel) rfl
set_option maxRecDepth 20000 in
theorem f_X12_23 : Cond.fieldLink RX12 23 (TX12 4).1 (TX12 4).2.1 (TX12 4).2.2.1 ∈ wG := wG_in tb_6 182 (by decide +kernel) rfl
set_option maxRecDepth 20000 in
theorem f_X12_26 : Cond.fieldLink RX12 26 (TX12 5).1 (TX12 5).2.1 (TX12 5).2.2.1 ∈ wG := wG_in tb_6 183 (by decide +kernel) rfl
set_option maxRecDepth 20000 in
theorem f_X12_29 : Cond.fieldLink RX12 29 (TX12 6).1 (TX12 6).2.1 (TX12 6).2.2.1 ∈ wG := wG_in tb_6 184 (by decide +kernel) rfl
set_option maxRecDepth 20000 in
theorem f_X12_32 : Cond.fieldLink RX12 32 (TX12 7).1 (TX12 7).2.1 (TX12 7).2.2.1 ∈ wG := wG_in tb_6 185 (by decide +kernel) rfl
set_option maxRecDepth 20000 in
theorem f_X12_36 : Cond.fieldLink RX12 36 (TX12 8).1 (TX12 8).2.1 (TX12 8).2.2.1 ∈ wG := wG_in tb_6 186 (by decide +kernel) rfl
set_option maxRecDepth 20000 in
theorem f_X12_39 : Cond.fieldLink RX12 39 (TX12 9).1 (TX12 9).2.1 (TX12 9).2.2.1 ∈ wG := wG_in tb_6 187 (by decide +kernel) rfl
set_option maxRecDepth 20000 in
theorem f_X12_42 : Cond.fieldLink RX12 42 (TX12 10).1 (TX12 10).2.1 (TX12 10).2.2.1 ∈ wG := wG_in tb_6 188 (by decide +kernel) rfl
set_option maxRecDepth 20000 in
theorem f_X12_45 : Cond.fieldLink RX12 45 (TX12 11).1 (TX12 11).2.1 (TX12 11).2.2.1 ∈ wG := wG_in tb_6 189 (by decide +kernel) rfl
set_option maxRecDepth 20000 in
theorem f_X12_48 : Cond.fieldLink RX12 48 (TX12 12).1 (TX12 12).2.1 (TX12 12).2.2.1 ∈ wG := wG_in tb_6 190 (by decide +kernel) rfl
set_option maxRecDepth 20000 in
theorem f_X12_51 : Cond.fieldLink RX12 51 (TX12 13).1 (TX12 13).2.1 (TX12 13).2.2.1 ∈ wG := wG_in tb_6 191 (by decide +kernel) rfl
set_option maxRecDepth 20000 in
theorem f_X12_54 : Cond.fieldLink RX12 54 (TX12 14).1 (TX12 14).2.1 (TX12 14).2.2.1 ∈ wG := wG_in tb_6 192 (by decide +kernel) rfl
set_option maxRecDepth 20000 in
theorem f_X12_57 : Cond.fieldLink RX12 57 (TX12 15).1 (TX12 15).2.1 (TX12 15).2.2.1 ∈ wG := wG_in tb_6 193 (by decide +kernel) rfl
set_option maxRecDepth 20000 in
theorem f_X12_60 : Cond.fieldLink RX12 60 (TX12 16).1 (TX12 16).2.1 (TX12 16).2.2.1 ∈ wG := wG_in tb_6 194 (by decide +kernel) rfl
set_option maxRecDepth 20000 in
theorem f_X12_63 : Cond.fieldLink RX12 63 (TX12 17).1 (TX12 17).2.1 (TX12 17).2.2.1 ∈ wG := wG_in tb_6 195 (by decide +kernel) rfl
set_option maxRecDepth 20000 in
theorem f_X12_66 : Cond.fieldLink RX12 66 (TX12 18).1 (TX12 18).2.1 (TX12 18).2.2.1 ∈ wG := wG_in tb_6 196 (by decide +kernel) rfl
set_option maxRecDepth 20000 in
theorem f_X12_69 : Cond.fieldLink RX12 69 (TX12 19).1 (TX12 19).2.1 (TX12 19).2.2.1 ∈ wG := wG_in tb_6 197 (by decide +kernel) rfl
set_option maxRecDepth 20000 in
theorem f_X12_72 : Cond.fieldLink RX12 72 (TX12 20).1 (TX12 20).2.1 (TX12 20).2.2.1 ∈ wG := wG_in tb_6 198 (by decide +kernel) rfl
set_option maxRecDepth 20000 in
theorem f_X12_75 : Cond.fieldLink RX12 75 (TX12 21).1 (TX12 21).2.1 (TX12 21).2.2.1 ∈ wG := wG_in tb_6 199 (by decide +kernel) rfl
set_option maxRecDepth 20000 in
theorem f_X12_78 : Cond.fieldLink RX12 78 (TX12 22).1 (TX12 22).2.1 (TX12 22).2.2.1 ∈ wG := wG_in tb_6 200 (by decide +kernel) rfl
set_option maxRecDepth 20000 in
theorem f_X12_81 : Cond.fieldLink RX12 81 (TX12 23).1 (TX12 23).2.1 (TX12 23).2.2.1 ∈ wG := wG_in tb_6 201 (by decide +kernel) rfl
set_option maxRecDepth 20000 in
theorem f_X12_84 : Cond.fieldLink RX12 84 (TX12 24).1 (TX12 24).2.1 (TX12 24).2.2.1 ∈ wG := wG_in tb_6 202 (by decide +kernel) rfl
set_option maxRecDepth 20000 in
theorem f_X12_87 : Cond.fieldLink RX12 87 (TX12 25).1 (TX12 25).2.1 (TX12 25).2.2.1 ∈ wG := wG_in tb_6 203 (by decide +kernel) rfl
set_option maxRecDepth 20000 in
theorem f_X12_90 : Cond.fieldLink RX12 90 (TX12 26).1 (TX12 26).2.1 (TX12 26).2.2.1 ∈ wG := wG_in tb_6 204 (by decide +kernel) rfl
set_option maxRecDepth 20000 in
theorem f_X12_93 : Cond.fieldLink RX12 93 (TX12 27).1 (TX12 27).2.1 (TX12 27).2.2.1 ∈ wG := wG_in tb_6 205 (by decide +kernel) rfl
set_option maxRecDepth 20000 in
theorem f_X12_96 : Cond.fieldLink RX12 96 (TX12 28).1 (TX12 28).2.1 (TX12 28).2.2.1 ∈ wG := wG_in tb_6 206 (by decide +kernel) rfl
set_option maxRecDepth 20000 in
theorem f_X12_99 : Cond.fieldLink RX12 99 (TX12 29).1 (TX12 29).2.1 (TX12 29).2.2.1 ∈ wG := wG_in tb_6 207 (by decide +kernel) rfl
set_option maxRecDepth 20000 in
theorem f_X12_102 : Cond.fieldLink RX12 102 (TX12 30).1 (TX12 30).2.1 (TX12 30).2.2.1 ∈ wG := wG_in tb_6 208 (by decide +kernel) rfl
set_option maxRecDepth 20000 in
theorem f_X12_105 : Cond.fieldLink RX12 105 (TX12 31).1 (TX12 31).2.1 (TX12 31).2.2.1 ∈ wG := wG_in tb_6 209 (by decide +kernel) rfl
set_option maxRecDepth 20000 in
theorem f_X12_108 : Cond.fieldLink RX12 108 (TX12 32).1 (TX12 32).2.1 (TX12 32).2.2.1 ∈ wG := wG_in tb_6 210 (by decide +kernel) rfl
set_option maxRecDepth 20000 in
theorem f_X12_111 : Cond.fieldLink RX12 111 (TX12 33).1 (TX12 33).2.1 (TX12 33).2.2.1 ∈ wG := wG_in tb_6 211 (by decide +kernel) rfl
set_option maxRecDepth 20000 in
theorem f_X12_114 : Cond.fieldLink RX12 114 (TX12 34).1 (TX12 34).2.1 (TX12 34).2.2.1 ∈ wG := wG_in tb_6 212 (by decide +kernel) rfl
set_option maxRecDepth 20000 in
theorem f_X12_117 : Cond.fieldLink RX12 117 (TX12 35).1 (TX12 35).2.1 (TX12 35).2.2.1 ∈ wG := wG_in tb_6 213 (by decide +kernel) rfl
set_option maxRecDepth 20000 in
theorem f_X12_121 : Cond.fieldLink RX12 121 (TX12 36).1 (TX12 36).2.1 (TX12 36).2.2.1 ∈ wG := wG_in tb_6 214 (by decide +kernel) rfl
set_option maxRecDepth 20000 in
theorem f_X12_124 : Cond.fieldLink RX12 124 (TX12 37).1 (TX12 37).2.1 (TX12 37).2.2.1 ∈ wG := wG_in tb_6 215 (by decide +kernel) rfl
set_option maxRecDepth 20000 in
theorem f_X12_127 : Cond.fieldLink RX12 127 (TX12 38).1 (TX12 38).2.1 (TX12 38).2.2.1 ∈ wG := wG_in tb_6 216 (by decide +kernel) rfl
set_option maxRecDepth 20000 in
theorem f_X12_130 : Cond.fieldLink RX12 130 (TX12 39).1 (TX12 39).2.1 (TX12 39).2.2.1 ∈ wG := wG_in tb_6 217 (by decide +kernel) rfl
set_option maxRecDepth 20000 in
theorem f_X12_133 : Cond.fieldLink RX12 133 (TX12 40).1 (TX12 40).2.1 (TX12 40).2.2.1 ∈ wG := wG_in tb_6 218 (by decide +kernel) rfl
set_option maxRecDepth 20000 in
theorem f_X12_136 : Cond.fieldLink RX12 136 (TX12 41).1 (TX12 41).2.1 (TX12 41).2.2.1 ∈ wG := wG_in tb_6 219 (by decide +kernel) rfl
set_option maxRecDepth 20000 in
theorem f_X12_139 : Cond.fieldLink RX12 139 (TX12 42).1 (TX12 42).2.1 (TX12 42).2.2.1 ∈ wG := wG_in tb_6 220 (by decide +kernel) rfl
set_option maxRecDepth 20000 in
theorem f_X12_142 : Cond.fieldLink RX12 142 (TX12 43).1 (TX12 43).2.1 (TX12 43).2.2.1 ∈ wG := wG_in tb_6 221 (by decide +kernel) rfl
set_option maxRecDepth 20000 in
theorem f_X12_146 : Cond.fieldLink RX12 146 (TX12 44).1 (TX12 44).2.1 (TX12 44).2.2.1 ∈ wG := wG_in tb_6 222 (by decide +kernel) rfl
set_option maxRecDepth 20000 in
theorem f_X12_149 : Cond.fieldLink RX12 149 (TX12 45).1 (TX12 45).2.1 (TX12 45).2.2.1 ∈ wG := wG_in tb_6 223 (by decide +kernel) rfl
set_option maxRecDepth 20000 in
theorem f_X12_152 : Cond.fieldLink RX12 152 (TX12 46).1 (TX12 46).2.1 (TX12 46).2.2.1 ∈ wG := wG_in tb_6 224 (by decide +kernel) rfl
set_option maxRecDepth 20000 in
theorem f_X12_155 : Cond.fieldLink RX12 155 (TX12 47).1 (TX12 47).2.1 (TX12 47).2.2.1 ∈ wG := wG_in tb_6 225 (by decide +kernel) rfl
set_option maxRecDepth 20000 in
theorem f_X12_158 : Cond.fieldLink RX12 158 (TX12 48).1 (TX12 48).2.1 (TX12 48).2.2.1 ∈ wG := wG_in tb_6 226 (by decide +kernel) rfl
set_option maxRecDepth 20000 in
theorem f_X12_161 : Cond.fieldLink RX12 161 (TX12 49).1 (TX12 49).2.1 (TX12 49).2.2.1 ∈ wG := wG_in tb_6 227 (by decide +kernel) rfl
set_option maxRecDepth 20000 in
theorem f_X12_164 : Cond.fieldLink RX12 164 (TX12 50).1 (TX12 50).2.1 (TX12 50).2.2.1 ∈ wG := wG_in tb_6 228 (by decide +kernel) rfl
set_option maxRecDepth 20000 in
theorem f_X12_168 : Cond.fieldLink RX12 168 (TX12 51).1 (TX12 51).2.1 (TX12 51).2.2.1 ∈ wG := wG_in tb_6 229 (by decide +kernel) rfl
set_option maxRecDepth 20000 in
theorem f_X12_171 : Cond.fieldLink RX12 171 (TX12 52).1 (TX12 52).2.1 (TX12 52).2.2.1 ∈ wG := wG_in tb_6 230 (by decide +kernel) rfl
set_option maxRecDepth 20000 in
theorem f_X12_174 : Cond.fieldLink RX12 174 (TX12 53).1 (TX12 53).2.1 (TX12 53).2.2.1 ∈ wG := wG_in tb_6 231 (by decide +kernel) rfl
set_option maxRecDepth 20000 in
theorem f_X12_177 : Cond.fieldLink RX12 177 (TX12 54).1 (TX12 54).2.1 (TX12 54).2.2.1 ∈ wG := wG_in tb_6 232 (by decide +kernel) rfl
set_option maxRecDepth 20000 in
theorem f_X12_180 : Cond.fieldLink RX12 180 (TX12 55).1 (TX12 55).2.1 (TX12 55).2.2.1 ∈ wG := wG_in tb_6 233 (by decide +kernel) rfl
set_option maxRecDepth 20000 in
theorem f_X12_183 : Cond.fieldLink RX12 183 (TX12 56).1 (TX12 56).2.1 (TX12 56).2.2.1 ∈ wG := wG_in tb_6 234 (by decide +kernel) rfl
set_option maxRecDepth 20000 in
theorem f_X12_186 : Cond.fieldLink RX12 186 (TX12 57).1 (TX12 57).2.1 (TX12 57).2.2.1 ∈ wG := wG_in tb_6 235 (by decide +kernel) rfl
set_option maxRecDepth 20000 in
theorem f_X12_189 : Cond.fieldLink RX12 189 (TX12 58).1 (TX12 58).2.1 (TX12 58).2.2.1 ∈ wG := wG_in tb_6 236 (by decide +kernel) rfl
set_option maxRecDepth 20000 in
theorem f_X12_192 : Cond.fieldLink RX12 192 (TX12 59).1 (TX12 59).2.1 (TX12 59).2.2.1 ∈ wG := wG_in tb_6 237 (by decide +kernel) rfl
set_option maxRecDepth 20000 in
theorem f_X12_195 : Cond.fieldLink RX12 195 (TX12 60).1 (TX12 60).2.1 (TX12 60).2.2.1 ∈ wG := wG_in tb_6 238 (by decide +kernel) rfl
set_option maxRecDepth 20000 in
theorem f_X12_198 : Cond.fieldLink RX12 198 (TX12 61).1 (TX12 61).2.1 (TX12 61).2.2.1 ∈ wG := wG_in tb_6 239 (by decide +kernel) rfl
set_option maxRecDepth 20000 in
theorem f_X12_201 : Cond.fieldLink RX12 201 (TX12 62).1 (TX12 62).2.1 (TX12 62).2.2.1 ∈ wG := wG_in tb_7 0 (by decide +kernel) rfl
set_option maxRecDepth 20000 in
theorem f_X12_204 : Cond.fieldLink RX12 204 (TX12 63).1 (TX12 63).2.1 (TX12 63).2.2.1 ∈ wG := wG_in tb_7 1 (by decide +kernel) rfl
set_option maxRecDepth 20000 in
theorem f_X12_207 : Cond.fieldLink RX12 207 (TX12 64).1 (TX12 64).2.1 (TX12 64).2.2.1 ∈ wG := wG_in tb_7 2 (by decide +kernel) rfl
set_option maxRecDepth 20000 in
theorem f_X12_210 : Cond.fieldLink RX12 210 (TX12 65).1 (TX12 65).2.1 (TX12 65).2.2.1 ∈ wG := wG_in tb_7 3 (by decide +kernel) rfl
set_option maxRecDepth 20000 in
theorem f_X12_213 : Cond.fieldLink RX12 213 (TX12 66).1 (TX12 66).2.1 (TX12 66).2.2.1 ∈ wG := wG_in tb_7 4 (by decide +kernel) rfl
set_option maxRecDepth 20000 in
theorem f_X12_216 : Cond.fieldLink RX12 216 (TX12 67).1 (TX12 67).2.1 (TX12 67).2.2.1 ∈ wG := wG_in tb_7 5 (by decide +kernel) rfl
set_option maxRecDepth 20000 in
theorem f_X12_219 : Cond.fieldLink RX12 219 (TX12 68).1 (TX12 68).2.1 (TX12 68).2.2.1 ∈ wG := wG_in tb_7 6 (by decide +kernel) rfl
set_option maxRecDepth 20000 in
theorem f_X12_222 : Cond.fieldLink RX12 222 (TX12 69).1 (TX12 69).2.1 (TX12 69).2.2.1 ∈ wG := wG_in tb_7 7 (by decide +kernel) rfl
set_option maxRecDepth 20000 in
theorem f_X12_225 : Cond.fieldLink RX12 225 (TX12 70).1 (TX12 70).2.1 (TX12 70).2.2.1 ∈ wG := wG_in tb_7 8 (by decide +kernel) rfl
set_option maxRecDepth 20000 in
theorem f_X12_228 : Cond.fieldLink RX12 228 (TX12 71).1 (TX12 71).2.1 (TX12 71).2.2.1 ∈ wG := wG_in tb_7 9 (by decide +kernel) rfl
set_option maxRecDepth 20000 in
theorem f_X12_231 : Cond.fieldLink RX12 231 (TX12 72).1 (TX12 72).2.1 (TX12 72).2.2.1 ∈ wG := wG_in tb_7 10 (by decide +kernel) rfl
set_option maxRecDepth 20000 in
theorem f_X12_234 : Cond.fieldLink RX12 234 (TX12 73).1 (TX12 73).2.1 (TX12 73).2.2.1 ∈ wG := wG_in tb_7 11 (by decide +kernel) rfl
set_option maxRecDepth 20000 in
theorem f_X12_237 : Cond.fieldLink RX12 237 (TX12 74).1 (TX12 74).2.1 (TX12 74).2.2.1 ∈ wG := wG_in tb_7 12 (by decide +kernel) rfl
set_option maxRecDepth 20000 in
theorem f_X12_240 : Cond.fieldLink RX12 240 (TX12 75).1 (TX12 75).2.1 (TX12 75).2.2.1 ∈ wG := wG_in tb_7 13 (by decide +kernel) rfl
set_option maxRecDepth 20000 in
theorem f_X12_243 : Cond.fieldLink RX12 243 (TX12 76).1 (TX12 76).2.1 (TX12 76).2.2.1 ∈ wG := wG_in tb_7 14 (by decide +kernel) rfl
set_option maxRecDepth 20000 in
theorem f_X12_246 : Cond.fieldLink RX12 246 (TX12 77).1 (TX12 77).2.1 (TX12 77).2.2.1 ∈ wG := wG_in tb_7 15 (by decide +kernel) rfl
set_option maxRecDepth 20000 in
theorem f_X12_249 : Cond.fieldLink RX12 249 (TX12 78).1 (TX12 78).2.1 (TX12 78).2.2.1 ∈ wG := wG_in tb_7 16 (by decide +kernel) rfl
set_option maxRecDepth 20000 in
theorem f_X12_252 : Cond.fieldLink RX12 252 (TX12 79).1 (TX12 79).2.1 (TX12 79).2.2.1 ∈ wG := wG_in tb_7 17 (by decide +kernel) rfl
set_option maxRecDepth 20000 in
theorem f_X12_255 : Cond.fieldLink RX12 255 (TX12 80).1 (TX12 80).2.1 (TX12 80).2.2.1 ∈ wG := wG_in tb_7 18 (by decide +kernel) rfl
set_option maxRecDepth 20000 in
theorem f_X12_258 : Cond.fieldLink RX12 258 (TX12 81).1 (TX12 81).2.1 (TX12 81).2.2.1 ∈ wG := wG_in tb_7 19 (by decide +kernel) rfl
set_option maxRecDepth 20000 in
theorem f_X12_261 : Cond.fieldLink RX12 261 (TX12 82).1 (TX12 82).2.1 (TX12 82).2.2.1 ∈ wG := wG_in tb_7 20 (by decide +kernel) rfl
set_option maxRecDepth 20000 in
theorem f_X12_264 : Cond.fieldLink RX12 264 (TX12 83).1 (TX12 83).2.1 (TX12 83).2.2.1 ∈ wG := wG_in tb_7 21 (by decide +kernel) rfl
set_option maxRecDepth 20000 in
theorem f_X12_267 : Cond.fieldLink RX12 267 (TX12 84).1 (TX12 84).2.1 (TX12 84).2.2.1 ∈ wG := wG_in tb_7 22 (by decide +kernel) rfl
set_option maxRecDepth 20000 in
theorem f_X12_270 : Cond.fieldLink RX12 270 (TX12 85).1 (TX12 85).2.1 (TX12 85).2.2.1 ∈ wG := wG_in tb_7 23 (by decide +kernel) rfl
set_option maxRecDepth 20000 in
theorem f_X12_273 : Cond.fieldLink RX12 273 (TX12 86).1 (TX12 86).2.1 (TX12 86).2.2.1 ∈ wG := wG_in tb_7 24 (by decide +kernel) rfl
set_option maxRecDepth 20000 in
theorem f_X12_276 : Cond.fieldLink RX12 276 (TX12 87).1 (TX12 87).2.1 (TX12 87).2.2.1 ∈ wG := wG_in tb_7 25 (by decide +kernel) rfl
set_option maxRecDepth 20000 in
theorem l_X12_279 : Cond.methodLink RX12 279 yX12_refuses ∈ wG := wG_in tb_7 208 (by decide +kernel) rfl
set_option maxRecDepth 20000 in
theorem l_X12_283 : Cond.methodLink RX12 283 yX12_put ∈ wG := wG_in tb_7 212 (by decide +kernel) rfl
set_option maxRecDepth 20000 in
theorem l_X12_308 : Cond.methodLink RX12 308 yX12_ahead ∈ wG := wG_in tb_7 224 (by decide +kernel) rfl
set_option maxRecDepth 20000 in
theorem l_X12_291 : Cond.methodLink RX12 291 yX12_isLetter ∈ wG := wG_in tb_7 228 (by decide +kernel) rfl
set_option maxRecDepth 20000 in
theorem l_X12_295 : Cond.methodLink RX12 295 yX12_isDigit ∈ wG := wG_in tb_7 231 (by decide +kernel) rfl
set_option maxRecDepth 20000 in
theorem l_X12_298 : Cond.methodLink RX12 298 yX12_isOwn ∈ wG := wG_in tb_7 234 (by decide +kernel) rfl
set_option maxRecDepth 20000 in
theorem q_X12_311 : Cond.constantLong RX12 311 (1651470187 : Int64) ∈ wG := wG_in tb_7 238 (by decide +kernel) rfl
set_option maxRecDepth 20000 in
theorem q_X12_313 : Cond.constantLong RX12 313 (1885431653 : Int64) ∈ wG := wG_in tb_7 239 (by decide +kernel) rfl
set_option maxRecDepth 20000 in
theorem q_X12_315 : Cond.constantLong RX12 315 (28518 : Int64) ∈ wG := wG_in tb_8 0 (by decide +kernel) rfl
set_option maxRecDepth 20000 in
theorem q_X12_317 : Cond.constantLong RX12 317 (465625310579 : Int64) ∈ wG := wG_in tb_8 1 (by decide +kernel) rfl
set_option maxRecDepth 20000 in
theorem q_X12_319 : Cond.constantLong RX12 319 (6449511 : Int64) ∈ wG := wG_in tb_8 2 (by decide +kernel) rfl
set_option maxRecDepth 20000 in
theorem q_X12_321 : Cond.constantLong RX12 321 (474147546227 : Int64) ∈ wG := wG_in tb_8 3 (by decide +kernel) rfl
set_option maxRecDepth 20000 in
theorem q_X12_323 : Cond.constantLong RX12 323 (125779751232882 : Int64) ∈ wG := wG_in tb_8 4 (by decide +kernel) rfl
set_option maxRecDepth 20000 in
theorem q_X12_325 : Cond.constantLong RX12 325 (1885430629 : Int64) ∈ wG := wG_in tb_8 5 (by decide +kernel) rfl
set_option maxRecDepth 20000 in
theorem q_X12_327 : Cond.constantLong RX12 327 (1702454643 : Int64) ∈ wG := wG_in tb_8 6 (by decide +kernel) rfl
set_option maxRecDepth 20000 in
theorem q_X12_329 : Cond.constantLong RX12 329 (499850046565 : Int64) ∈ wG := wG_in tb_8 7 (by decide +kernel) rfl
set_option maxRecDepth 20000 in
theorem q_X12_331 : Cond.constantLong RX12 331 (431415715444 : Int64) ∈ wG := wG_in tb_8 8 (by decide +kernel) rfl
set_option maxRecDepth 20000 in
theorem q_X12_333 : Cond.constantLong RX12 333 (1768842088 : Int64) ∈ wG := wG_in tb_8 9 (by decide +kernel) rfl
set_option maxRecDepth 20000 in
theorem q_X12_335 : Cond.constantLong RX12 335 (422877228659 : Int64) ∈ wG := wG_in tb_8 10 (by decide +kernel) rfl
set_option maxRecDepth 20000 in
theorem q_X12_337 : Cond.constantLong RX12 337 (499850634611 : Int64) ∈ wG := wG_in tb_8 11 (by decide +kernel) rfl
set_option maxRecDepth 20000 in
theorem q_X12_339 : Cond.constantLong RX12 339 (499917810803 : Int64) ∈ wG := wG_in tb_8 12 (by decide +kernel) rfl
set_option maxRecDepth 20000 in
theorem q_X12_341 : Cond.constantLong RX12 341 (482955849332 : Int64) ∈ wG := wG_in tb_8 13 (by decide +kernel) rfl
set_option maxRecDepth 20000 in
theorem q_X12_343 : Cond.constantLong RX12 343 (461414299507 : Int64) ∈ wG := wG_in tb_8 14 (by decide +kernel) rfl
set_option maxRecDepth 20000 in
theorem q_X12_345 : Cond.constantLong RX12 345 (32485571211914855 : Int64) ∈ wG := wG_in tb_8 15 (by decide +kernel) rfl
set_option maxRecDepth 20000 in
theorem q_X12_347 : Cond.constantLong RX12 347 (474214787188 : Int64) ∈ wG := wG_in tb_8 16 (by decide +kernel) rfl
set_option maxRecDepth 20000 in
theorem q_X12_349 : Cond.constantLong RX12 349 (28530 : Int64) ∈ wG := wG_in tb_8 17 (by decide +kernel) rfl
set_option maxRecDepth 20000 in
theorem q_X12_351 : Cond.constantLong RX12 351 (6385252 : Int64) ∈ wG := wG_in tb_8 18 (by decide +kernel) rfl
set_option maxRecDepth 20000 in
theorem q_X12_353 : Cond.constantLong RX12 353 (7237492 : Int64) ∈ wG := wG_in tb_8 19 (by decide +kernel) rfl
set_option maxRecDepth 20000 in
theorem q_X12_355 : Cond.constantLong RX12 355 (6384748 : Int64) ∈ wG := wG_in tb_8 20 (by decide +kernel) rfl
set_option maxRecDepth 20000 in
theorem q_X12_357 : Cond.constantLong RX12 357 (7170414 : Int64) ∈ wG := wG_in tb_8 21 (by decide +kernel) rfl
set_option maxRecDepth 20000 in
theorem q_X12_359 : Cond.constantLong RX12 359 (7168376 : Int64) ∈ wG := wG_in tb_8 22 (by decide +kernel) rfl
set_option maxRecDepth 20000 in
theorem l_X12_461 : Cond.methodLink RX12 461 yX12_statement ∈ wG := wG_in tb_8 23 (by decide +kernel) rfl
set_option maxRecDepth 20000 in
theorem l_X12_302 : Cond.methodLink RX12 302 yX12_lex ∈ wG := wG_in tb_8 27 (by decide +kernel) rfl
set_option maxRecDepth 20000 in
theorem l_X12_287 : Cond.methodLink RX12 287 yX12_blame ∈ wG := wG_in tb_8 31 (by decide +kernel) rfl
set_option maxRecDepth 20000 in
theorem l_X12_385 : Cond.methodLink RX12 385 yX12_isWord ∈ wG := wG_in tb_8 35 (by decide +kernel) rfl
set_option maxRecDepth 20000 in
theorem l_X12_432 : Cond.methodLink RX12 432 yX12_booking ∈ wG := wG_in tb_8 39 (by decide +kernel) rfl
set_option maxRecDepth 20000 in
theorem l_X12_410 : Cond.methodLink RX12 410 yX12_counts ∈ wG := wG_in tb_8 43 (by decide +kernel) rfl
set_option maxRecDepth 20000 in
theorem l_X12_414 : Cond.methodLink RX12 414 yX12_fresh ∈ wG := wG_in tb_8 47 (by decide +kernel) rfl
set_option maxRecDepth 20000 in
theorem l_X12_403 : Cond.methodLink RX12 403 yX12_named ∈ wG := wG_in tb_8 51 (by decide +kernel) rfl
set_option maxRecDepth 20000 in
theorem l_X12_361 : Cond.methodLink RX12 361 yX12_manyOf ∈ wG := wG_in tb_8 55 (by decide +kernel) rfl
set_option maxRecDepth 20000 in
theorem l_X12_365 : Cond.methodLink RX12 365 yX12_nameOf ∈ wG := wG_in tb_8 59 (by decide +kernel) rfl
set_option maxRecDepth 20000 in
theorem l_X12_435 : Cond.methodLink RX12 435 yX12_paging ∈ wG := wG_in tb_8 63 (by decide +kernel) rfl
set_option maxRecDepth 20000 in
theorem l_X12_418 : Cond.methodLink RX12 418 yX12_must_ ∈ wG := wG_in tb_8 67 (by decide +kernel) rfl
set_option maxRecDepth 20000 in
theorem l_X12_422 : Cond.methodLink RX12 422 yX12_asked ∈ wG := wG_in tb_8 71 (by decide +kernel) rfl
set_option maxRecDepth 20000 in
theorem l_X12_407 : Cond.methodLink RX12 407 yX12_looked ∈ wG := wG_in tb_8 75 (by decide +kernel) rfl
set_option maxRecDepth 20000 in
theorem l_X12_425 : Cond.methodLink RX12 425 yX12_number ∈ wG := wG_in tb_8 79 (by decide +kernel) rfl
set_option maxRecDepth 20000 in
theorem l_X12_369 : Cond.methodLink RX12 369 yX12_is ∈ wG := wG_in tb_8 83 (by decide +kernel) rfl
set_option maxRecDepth 20000 in
theorem l_X12_438 : Cond.methodLink RX12 438 yX12_needing ∈ wG := wG_in tb_8 86 (by decide +kernel) rfl
set_option maxRecDepth 20000 in
theorem l_X12_441 : Cond.methodLink RX12 441 yX12_readering ∈ wG := wG_in tb_8 90 (by decide +kernel) rfl
set_option maxRecDepth 20000 in
theorem l_X12_444 : Cond.methodLink RX12 444 yX12_tabling ∈ wG := wG_in tb_8 94 (by decide +kernel) rfl
set_option maxRecDepth 20000 in
theorem l_X12_447 : Cond.methodLink RX12 447 yX12_inching ∈ wG := wG_in tb_8 98 (by decide +kernel) rfl
set_option maxRecDepth 20000 in
theorem l_X12_450 : Cond.methodLink RX12 450 yX12_burning ∈ wG := wG_in tb_8 102 (by decide +kernel) rfl
set_option maxRecDepth 20000 in
theorem l_X12_428 : Cond.methodLink RX12 428 yX12_reads ∈ wG := wG_in tb_8 106 (by decide +kernel) rfl
set_option maxRecDepth 20000 in
theorem l_X12_379 : Cond.methodLink RX12 379 yX12_pushes ∈ wG := wG_in tb_8 110 (by decide +kernel) rfl
set_option maxRecDepth 20000 in
theorem l_X12_397 : Cond.methodLink RX12 397 yX12_operand ∈ wG := wG_in tb_8 114 (by decide +kernel) rfl
set_option maxRecDepth 20000 in
theorem l_X12_382 : Cond.methodLink RX12 382 yX12_isTest ∈ wG := wG_in tb_8 118 (by decide +kernel) rfl
set_option maxRecDepth 20000 in
theorem l_X12_388 : Cond.methodLink RX12 388 yX12_holdsBack ∈ wG := wG_in tb_8 121 (by decide +kernel) rfl
set_option maxRecDepth 20000 in
theorem l_X12_305 : Cond.methodLink RX12 305 yX12_isSign ∈ wG := wG_in tb_8 125 (by decide +kernel) rfl
set_option maxRecDepth 20000 in
theorem l_X12_391 : Cond.methodLink RX12 391 yX12_opens ∈ wG := wG_in tb_8 129 (by decide +kernel) rfl
set_option maxRecDepth 20000 in
theorem l_X12_376 : Cond.methodLink RX12 376 yX12_add ∈ wG := wG_in tb_8 133 (by decide +kernel) rfl
set_option maxRecDepth 20000 in
theorem l_X12_400 : Cond.methodLink RX12 400 yX12_goesOn ∈ wG := wG_in tb_8 137 (by decide +kernel) rfl
set_option maxRecDepth 20000 in
theorem l_X12_394 : Cond.methodLink RX12 394 yX12_joins ∈ wG := wG_in tb_8 141 (by decide +kernel) rfl
set_option maxRecDepth 20000 in
theorem l_X12_373 : Cond.methodLink RX12 373 yX12_rank ∈ wG := wG_in tb_8 145 (by decide +kernel) rfl
set_option maxRecDepth 20000 in
theorem l_X12_453 : Cond.methodLink RX12 453 yX12_taking ∈ wG := wG_in tb_8 148 (by decide +kernel) rfl
set_option maxRecDepth 20000 in
theorem l_X12_456 : Cond.methodLink RX12 456 yX12_telling ∈ wG := wG_in tb_8 152 (by decide +kernel) rfl
set_option maxRecDepth 20000 in
theorem l_X12_464 : Cond.methodLink RX12 464 yX12_finishes ∈ wG := wG_in tb_8 156 (by decide +kernel) rfl
set_option maxRecDepth 20000 in
theorem l_X12_459 : Cond.methodLink RX12 459 yX12_must ∈ wG := wG_in tb_8 160 (by decide +kernel) rfl
set_option maxRecDepth 20000 in
theorem l_X12_467 : Cond.methodLink RX12 467 yX12_begin ∈ wG := wG_in tb_8 164 (by decide +kernel) rfl
set_option maxRecDepth 20000 in
theorem l_X12_476 : Cond.methodLink RX12 476 yX12_ring ∈ wG := wG_in tb_8 180 (by decide +kernel) rfl
set_option maxRecDepth 20000 in
theorem l_X12_479 : Cond.methodLink RX12 479 yX12_copies ∈ wG := wG_in tb_8 184 (by decide +kernel) rfl
set_option maxRecDepth 20000 in
theorem l_X12_473 : Cond.methodLink RX12 473 yX12_known ∈ wG := wG_in tb_8 192 (by decide +kernel) rfl
set_option maxRecDepth 20000 in
theorem l_X12_482 : Cond.methodLink RX12 482 yX12_bits ∈ wG := wG_in tb_8 196 (by decide +kernel) rfl
set_option maxRecDepth 20000 in
theorem q_X12_550 : Cond.constantLong RX12 550 (255 : Int64) ∈ wG := wG_in tb_8 203 (by decide +kernel) rfl
set_option maxRecDepth 20000 in
theorem l_X12_556 : Cond.methodLink RX12 556 yX12_isPage ∈ wG := wG_in tb_8 208 (by decide +kernel) rfl
set_option maxRecDepth 20000 in
theorem l_X12_470 : Cond.methodLink RX12 470 yX12_needsOf ∈ wG := wG_in tb_8 212 (by decide +kernel) rfl
set_option maxRecDepth 20000 in
theorem l_X12_559 : Cond.methodLink RX12 559 yX12_closed ∈ wG := wG_in tb_8 216 (by decide +kernel) rfl
set_option maxRecDepth 20000 in
theorem l_X12_552 : Cond.methodLink RX12 552 yX12_has ∈ wG := wG_in tb_8 220 (by decide +kernel) rfl
set_option maxRecDepth 20000 in
theorem l_X12_562 : Cond.methodLink RX12 562 yX12_isReader ∈ wG := wG_in tb_8 227 (by decide +kernel) rfl
set_option maxRecDepth 20000 in
theorem l_X12_565 : Cond.methodLink RX12 565 yX12_isTable ∈ wG := wG_in tb_8 235 (by decide +kernel) rfl
set_option maxRecDepth 20000 in
theorem l_X12_488 : Cond.methodLink RX12 488 yX12_sitting ∈ wG := wG_in tb_8 239 (by decide +kernel) rfl
set_option maxRecDepth 20000 in
theorem l_X12_541 : Cond.methodLink RX12 541 yX12_lightOf ∈ wG := wG_in tb_9 3 (by decide +kernel) rfl
set_option maxRecDepth 20000 in
theorem l_X12_521 : Cond.methodLink RX12 521 yX12_burnsOf ∈ wG := wG_in tb_9 7 (by decide +kernel) rfl
set_option maxRecDepth 20000 in
theorem l_X12_514 : Cond.methodLink RX12 514 yX12_reckons ∈ wG := wG_in tb_9 11 (by decide +kernel) rfl
set_option maxRecDepth 20000 in
theorem l_X12_503 : Cond.methodLink RX12 503 yX12_isPart ∈ wG := wG_in tb_9 15 (by decide +kernel) rfl
set_option maxRecDepth 20000 in
theorem l_X12_506 : Cond.methodLink RX12 506 yX12_part ∈ wG := wG_in tb_9 18 (by decide +kernel) rfl
set_option maxRecDepth 20000 in
theorem l_X12_485 : Cond.methodLink RX12 485 yX12_draftOf ∈ wG := wG_in tb_9 22 (by decide +kernel) rfl
set_option maxRecDepth 20000 in
theorem l_X12_510 : Cond.methodLink RX12 510 yX12_two ∈ wG := wG_in tb_9 26 (by decide +kernel) rfl
set_option maxRecDepth 20000 in
theorem l_X12_495 : Cond.methodLink RX12 495 yX12_held ∈ wG := wG_in tb_9 29 (by decide +kernel) rfl
set_option maxRecDepth 20000 in
theorem q_X12_491 : Cond.constantLong RX12 491 (1000000 : Int64) ∈ wG := wG_in tb_9 32 (by decide +kernel) rfl
set_option maxRecDepth 20000 in
theorem q_X12_493 : Cond.constantLong RX12 493 (-1000000 : Int64) ∈ wG := wG_in tb_9 33 (by decide +kernel) rfl
set_option maxRecDepth 20000 in
theorem l_X12_499 : Cond.methodLink RX12 499 yX12_floor ∈ wG := wG_in tb_9 34 (by decide +kernel) rfl
set_option maxRecDepth 20000 in
theorem l_X12_517 : Cond.methodLink RX12 517 yX12_between ∈ wG := wG_in tb_9 37 (by decide +kernel) rfl
set_option maxRecDepth 20000 in
theorem l_X12_530 : Cond.methodLink RX12 530 yX12_longOf ∈ wG := wG_in tb_9 44 (by decide +kernel) rfl
set_option maxRecDepth 20000 in
theorem l_X12_568 : Cond.methodLink RX12 568 yX12_triesNight ∈ wG := wG_in tb_9 56 (by decide +kernel) rfl
set_option maxRecDepth 20000 in
theorem l_X12_547 : Cond.methodLink RX12 547 yX12_goesNight ∈ wG := wG_in tb_9 60 (by decide +kernel) rfl
set_option maxRecDepth 20000 in
theorem l_X12_544 : Cond.methodLink RX12 544 yX12_readsOn ∈ wG := wG_in tb_9 64 (by decide +kernel) rfl
set_option maxRecDepth 20000 in
theorem l_X12_527 : Cond.methodLink RX12 527 yX12_nextPage ∈ wG := wG_in tb_9 68 (by decide +kernel) rfl
set_option maxRecDepth 20000 in
theorem l_X12_524 : Cond.methodLink RX12 524 yX12_mayRead ∈ wG := wG_in tb_9 72 (by decide +kernel) rfl
set_option maxRecDepth 20000 in
theorem l_X12_534 : Cond.methodLink RX12 534 yX12_unlists ∈ wG := wG_in tb_9 76 (by decide +kernel) rfl
set_option maxRecDepth 20000 in
theorem l_X12_537 : Cond.methodLink RX12 537 yX12_writesDown ∈ wG := wG_in tb_9 80 (by decide +kernel) rfl
set_option maxRecDepth 20000 in
theorem l_X12_572 : Cond.methodLink RX12 572 yX12_keeps ∈ wG := wG_in tb_9 92 (by decide +kernel) rfl
set_option maxRecDepth 20000 in
theorem l_X12_575 : Cond.methodLink RX12 575 yX12_isListed ∈ wG := wG_in tb_9 100 (by decide +kernel) rfl
set_option maxRecDepth 20000 in
theorem l_X12_578 : Cond.methodLink RX12 578 yX12_mayHear ∈ wG := wG_in tb_9 112 (by decide +kernel) rfl
set_option maxRecDepth 20000 in
theorem l_X12_581 : Cond.methodLink RX12 581 yX12_nightGoes ∈ wG := wG_in tb_9 120 (by decide +kernel) rfl
set_option maxRecDepth 20000 in
theorem l_X12_592 : Cond.methodLink RX12 592 yX12_draw ∈ wG := wG_in tb_9 128 (by decide +kernel) rfl
set_option maxRecDepth 20000 in
theorem q_X12_584 : Cond.constantLong RX12 584 (1103515245 : Int64) ∈ wG := wG_in tb_9 132 (by decide +kernel) rfl
set_option maxRecDepth 20000 in
theorem q_X12_586 : Cond.constantLong RX12 586 (12345 : Int64) ∈ wG := wG_in tb_9 133 (by decide +kernel) rfl
set_option maxRecDepth 20000 in
theorem q_X12_588 : Cond.constantLong RX12 588 (2147483648 : Int64) ∈ wG := wG_in tb_9 134 (by decide +kernel) rfl
set_option maxRecDepth 20000 in
theorem q_X12_590 : Cond.constantLong RX12 590 (64 : Int64) ∈ wG := wG_in tb_9 135 (by decide +kernel) rfl
set_option maxRecDepth 20000 in
theorem l_X12_598 : Cond.methodLink RX12 598 yX12_isQuestion ∈ wG := wG_in tb_9 148 (by decide +kernel) rfl
set_option maxRecDepth 20000 in
theorem l_X12_601 : Cond.methodLink RX12 601 yX12_workOf ∈ wG := wG_in tb_9 152 (by decide +kernel) rfl
set_option maxRecDepth 20000 in
theorem l_X12_595 : Cond.methodLink RX12 595 yX12_minutesOf ∈ wG := wG_in tb_9 156 (by decide +kernel) rfl
set_option maxRecDepth 20000 in
theorem l_X12_604 : Cond.methodLink RX12 604 yX12_nightsFor ∈ wG := wG_in tb_9 160 (by decide +kernel) rfl
set_option maxRecDepth 20000 in
theorem q_X12_607 : Cond.constant RX12 607 (100000000 : Int32) ∈ wG := wG_in tb_9 168 (by decide +kernel) rfl
set_option maxRecDepth 20000 in
theorem l_X12_611 : Cond.methodLink RX12 611 yX12_shares ∈ wG := wG_in tb_9 173 (by decide +kernel) rfl
set_option maxRecDepth 20000 in
theorem l_X12_608 : Cond.methodLink RX12 608 yX12_sharesOut ∈ wG := wG_in tb_9 177 (by decide +kernel) rfl
set_option maxRecDepth 20000 in
theorem l_X12_614 : Cond.methodLink RX12 614 yX12_allWork ∈ wG := wG_in tb_9 197 (by decide +kernel) rfl
set_option maxRecDepth 20000 in
theorem l_X12_620 : Cond.methodLink RX12 620 yX12_writesTwo ∈ wG := wG_in tb_9 205 (by decide +kernel) rfl
set_option maxRecDepth 20000 in
theorem l_X12_617 : Cond.methodLink RX12 617 yX12_writes ∈ wG := wG_in tb_9 209 (by decide +kernel) rfl
set_option maxRecDepth 20000 in
theorem l_X12_629 : Cond.methodLink RX12 629 yX12_comesOn ∈ wG := wG_in tb_9 221 (by decide +kernel) rfl
set_option maxRecDepth 20000 in
theorem l_X12_623 : Cond.methodLink RX12 623 yX12_twoBytes ∈ wG := wG_in tb_9 225 (by decide +kernel) rfl
set_option maxRecDepth 20000 in
theorem l_X12_626 : Cond.methodLink RX12 626 yX12_readerOn ∈ wG := wG_in tb_9 229 (by decide +kernel) rfl
set_option maxRecDepth 20000 in
theorem i_X0 : Cond.instantiable RX0 6 ∈ wG ∧ Cond.initialized RX0 ∈ wG := ⟨wG_in tb_2 35 (by decide +kernel) rfl, wG_in tb_1 8 (by decide +kernel) rfl⟩
set_option maxRecDepth 20000 in
theorem i_X1 : Cond.instantiable RX1 11 ∈ wG ∧ Cond.initialized RX1 ∈ wG := ⟨wG_in tb_2 65 (by decide +kernel) rfl, wG_in tb_1 9 (by decide +kernel) rfl⟩
set_option maxRecDepth 20000 in
theorem i_X2 : Cond.instantiable RX2 7 ∈ wG ∧ Cond.initialized RX2 ∈ wG := ⟨wG_in tb_1 93 (by decide +kernel) rfl, wG_in tb_1 4 (by decide +kernel) rfl⟩
set_option maxRecDepth 20000 in
theorem i_X3 : Cond.instantiable RX3 5 ∈ wG ∧ Cond.initialized RX3 ∈ wG := ⟨wG_in tb_1 69 (by decide +kernel) rfl, wG_in tb_1 3 (by decide +kernel) rfl⟩
set_option maxRecDepth 20000 in
theorem i_X4 : Cond.instantiable RX4 4 ∈ wG ∧ Cond.initialized RX4 ∈ wG := ⟨wG_in tb_3 41 (by decide +kernel) rfl, wG_in tb_1 13 (by decide +kernel) rfl⟩
set_option maxRecDepth 20000 in
theorem i_X5 : Cond.instantiable RX5 13 ∈ wG ∧ Cond.initialized RX5 ∈ wG := ⟨wG_in tb_2 234 (by decide +kernel) rfl, wG_in tb_1 12 (by decide +kernel) rfl⟩
set_option maxRecDepth 20000 in
theorem i_X6 : Cond.instantiable RX6 17 ∈ wG ∧ Cond.initialized RX6 ∈ wG := ⟨wG_in tb_2 174 (by decide +kernel) rfl, wG_in tb_1 11 (by decide +kernel) rfl⟩
set_option maxRecDepth 20000 in
theorem i_X7 : Cond.instantiable RX7 16 ∈ wG ∧ Cond.initialized RX7 ∈ wG := ⟨wG_in tb_1 95 (by decide +kernel) rfl, wG_in tb_1 5 (by decide +kernel) rfl⟩
set_option maxRecDepth 20000 in
theorem i_X8 : Cond.instantiable RX8 17 ∈ wG ∧ Cond.initialized RX8 ∈ wG := ⟨wG_in tb_2 110 (by decide +kernel) rfl, wG_in tb_1 10 (by decide +kernel) rfl⟩
set_option maxRecDepth 20000 in
theorem i_X9 : Cond.instantiable RX9 3 ∈ wG ∧ Cond.initialized RX9 ∈ wG := ⟨wG_in tb_2 19 (by decide +kernel) rfl, wG_in tb_1 7 (by decide +kernel) rfl⟩
set_option maxRecDepth 20000 in
theorem i_X10 : Cond.instantiable RX10 7 ∈ wG ∧ Cond.initialized RX10 ∈ wG := ⟨wG_in tb_1 31 (by decide +kernel) rfl, wG_in tb_1 2 (by decide +kernel) rfl⟩
set_option maxRecDepth 20000 in
theorem i_X11 : Cond.instantiable RX11 12 ∈ wG ∧ Cond.initialized RX11 ∈ wG := ⟨wG_in tb_1 23 (by decide +kernel) rfl, wG_in tb_1 1 (by decide +kernel) rfl⟩
set_option maxRecDepth 20000 in
theorem i_X12 : Cond.instantiable RX12 88 ∈ wG ∧ Cond.initialized RX12 ∈ wG := ⟨wG_in tb_6 173 (by decide +kernel) rfl, wG_in tb_1 14 (by decide +kernel) rfl⟩
set_option maxRecDepth 20000 in
theorem a_int : Cond.arrayClass .int ∈ wG := wG_in tb_1 67 (by decide +kernel) rfl
set_option maxRecDepth 20000 in
theorem a_long : Cond.arrayClass .long ∈ wG := wG_in tb_3 39 (by decide +kernel) rfl
set_option maxRecDepth 20000 in
theorem a_boolean : Cond.arrayClass .boolean ∈ wG := wG_in tb_7 203 (by decide +kernel) rfl
set_option maxRecDepth 20000 in
theorem a_copy : Cond.native arraycopyName ∈ wG ∧ Cond.static arraycopyName ∈ wG ∧ Cond.initialized "java/lang/System" ∈ wG := ⟨wG_in tb_5 87 (by decide +kernel) rfl, wG_in tb_5 86 (by decide +kernel) rfl, wG_in tb_1 21 (by decide +kernel) rfl⟩
set_option maxRecDepth 20000 in
theorem a_obj : Cond.instanceMethod objectInit ∈ wG ∧ Cond.code objectInit ⟨#[0xb1]⟩ 1 none ∈ wG := ⟨wG_in tb_1 28 (by decide +kernel) rfl, wG_in tb_1 29 rfl rfl⟩
