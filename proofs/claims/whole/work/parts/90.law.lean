theorem w_f889c4a421 : Cond.methodLink RL 13 yX11_pair ∈ wk := wk_of (in_t2 (List.mem_of_getElem? (i := 106) (by decide +kernel))) (by decide +kernel)
theorem w_116bf6364d : Cond.methodLink RL 17 yX12_pair ∈ wk := wk_of (in_t5 (List.mem_of_getElem? (i := 120) (by decide +kernel))) (by decide +kernel)
theorem w_9ce455fbda : Cond.code yX12_pair cX12_pair 6 (some .int) ∈ wk := wk_of (in_t5 (List.mem_of_getElem? (i := 123) (by decide +kernel))) (by decide +kernel)
theorem w_939202b678 : Cond.instanceMethod yX12_pair ∈ wk := wk_of (in_t5 (List.mem_of_getElem? (i := 121) (by decide +kernel))) (by decide +kernel)
theorem w_3d91e0d7bc : Cond.selects yX12_pair.cls yX12_pair yX12_pair ∈ wk := wk_of (in_t5 (List.mem_of_getElem? (i := 122) (by decide +kernel))) (by decide +kernel)
theorem w_e234e5e44c : Cond.methodLink RL 18 yX11_read ∈ wk := wk_of (in_t2 (List.mem_of_getElem? (i := 136) (by decide +kernel))) (by decide +kernel)
theorem w_34a16dc946 : Cond.code yX11_read cX11_read 7 (some .int) ∈ wk := wk_of (in_t2 (List.mem_of_getElem? (i := 139) (by decide +kernel))) (by decide +kernel)
theorem w_96d2ec3716 : Cond.instanceMethod yX11_read ∈ wk := wk_of (in_t2 (List.mem_of_getElem? (i := 137) (by decide +kernel))) (by decide +kernel)
theorem w_7195164d91 : Cond.selects yX11_read.cls yX11_read yX11_read ∈ wk := wk_of (in_t2 (List.mem_of_getElem? (i := 138) (by decide +kernel))) (by decide +kernel)
theorem w_23084d7087 : Cond.methodLink RL 22 yX12_read ∈ wk := wk_of (in_t5 (List.mem_of_getElem? (i := 140) (by decide +kernel))) (by decide +kernel)
theorem w_dbac8fe11f : Cond.code yX12_read cX12_read 6 (some .int) ∈ wk := wk_of (in_t5 (List.mem_of_getElem? (i := 143) (by decide +kernel))) (by decide +kernel)
theorem w_226132efc1 : Cond.instanceMethod yX12_read ∈ wk := wk_of (in_t5 (List.mem_of_getElem? (i := 141) (by decide +kernel))) (by decide +kernel)
theorem w_e0ba95ea28 : Cond.selects yX12_read.cls yX12_read yX12_read ∈ wk := wk_of (in_t5 (List.mem_of_getElem? (i := 142) (by decide +kernel))) (by decide +kernel)
theorem w_8cc5676f5f : Cond.methodLink RL 23 yX11_takeBack ∈ wk := wk_of (in_t2 (List.mem_of_getElem? (i := 160) (by decide +kernel))) (by decide +kernel)
theorem w_f186118b49 : Cond.code yX11_takeBack cX11_takeBack 3 (some .int) ∈ wk := wk_of (in_t2 (List.mem_of_getElem? (i := 163) (by decide +kernel))) (by decide +kernel)
theorem w_596b97d1e9 : Cond.instanceMethod yX11_takeBack ∈ wk := wk_of (in_t2 (List.mem_of_getElem? (i := 161) (by decide +kernel))) (by decide +kernel)
theorem w_d74c3f5012 : Cond.selects yX11_takeBack.cls yX11_takeBack yX11_takeBack ∈ wk := wk_of (in_t2 (List.mem_of_getElem? (i := 162) (by decide +kernel))) (by decide +kernel)
theorem w_58a096df78 : Cond.methodLink RL 27 yX12_takeBack ∈ wk := wk_of (in_t5 (List.mem_of_getElem? (i := 151) (by decide +kernel))) (by decide +kernel)
theorem w_96c7ea7dca : Cond.code yX12_takeBack cX12_takeBack 3 (some .int) ∈ wk := wk_of (in_t5 (List.mem_of_getElem? (i := 154) (by decide +kernel))) (by decide +kernel)
theorem w_365346cd95 : Cond.instanceMethod yX12_takeBack ∈ wk := wk_of (in_t5 (List.mem_of_getElem? (i := 152) (by decide +kernel))) (by decide +kernel)
theorem w_ba99bfcc5c : Cond.selects yX12_takeBack.cls yX12_takeBack yX12_takeBack ∈ wk := wk_of (in_t5 (List.mem_of_getElem? (i := 153) (by decide +kernel))) (by decide +kernel)
theorem w_445b7659bc : Cond.methodLink RL 28 yX11_asOf ∈ wk := wk_of (in_t2 (List.mem_of_getElem? (i := 172) (by decide +kernel))) (by decide +kernel)
theorem w_0c3fe5975c : Cond.code yX11_asOf cX11_asOf 3 (some .int) ∈ wk := wk_of (in_t2 (List.mem_of_getElem? (i := 175) (by decide +kernel))) (by decide +kernel)
theorem w_21cadfdf35 : Cond.instanceMethod yX11_asOf ∈ wk := wk_of (in_t2 (List.mem_of_getElem? (i := 173) (by decide +kernel))) (by decide +kernel)
theorem w_2a30002e9b : Cond.selects yX11_asOf.cls yX11_asOf yX11_asOf ∈ wk := wk_of (in_t2 (List.mem_of_getElem? (i := 174) (by decide +kernel))) (by decide +kernel)
theorem w_0bee5fcdd6 : Cond.methodLink RL 32 yX12_asOf ∈ wk := wk_of (in_t5 (List.mem_of_getElem? (i := 155) (by decide +kernel))) (by decide +kernel)
theorem w_19a333e1f9 : Cond.code yX12_asOf cX12_asOf 3 (some .int) ∈ wk := wk_of (in_t5 (List.mem_of_getElem? (i := 158) (by decide +kernel))) (by decide +kernel)
theorem w_e77b4971e9 : Cond.instanceMethod yX12_asOf ∈ wk := wk_of (in_t5 (List.mem_of_getElem? (i := 156) (by decide +kernel))) (by decide +kernel)
theorem w_603f795272 : Cond.selects yX12_asOf.cls yX12_asOf yX12_asOf ∈ wk := wk_of (in_t5 (List.mem_of_getElem? (i := 157) (by decide +kernel))) (by decide +kernel)
theorem w_ddc010f18e : Cond.methodLink RL 33 yX11_many ∈ wk := wk_of (in_t2 (List.mem_of_getElem? (i := 177) (by decide +kernel))) (by decide +kernel)
theorem w_20a553c525 : Cond.methodLink RL 37 yX12_many ∈ wk := wk_of (in_t5 (List.mem_of_getElem? (i := 159) (by decide +kernel))) (by decide +kernel)
theorem w_513a0b5cdc : Cond.code yX12_many cX12_many 4 (some .int) ∈ wk := wk_of (in_t5 (List.mem_of_getElem? (i := 162) (by decide +kernel))) (by decide +kernel)
theorem w_c6267da91b : Cond.instanceMethod yX12_many ∈ wk := wk_of (in_t5 (List.mem_of_getElem? (i := 160) (by decide +kernel))) (by decide +kernel)
theorem w_580a77cedd : Cond.selects yX12_many.cls yX12_many yX12_many ∈ wk := wk_of (in_t5 (List.mem_of_getElem? (i := 161) (by decide +kernel))) (by decide +kernel)
theorem w_5393a95b8f : Cond.methodLink RL 38 yX11_mean ∈ wk := wk_of (in_t2 (List.mem_of_getElem? (i := 211) (by decide +kernel))) (by decide +kernel)
theorem w_1c0537a7ed : Cond.methodLink RL 42 yX12_mean ∈ wk := wk_of (in_t5 (List.mem_of_getElem? (i := 190) (by decide +kernel))) (by decide +kernel)
theorem w_9711522f95 : Cond.code yX12_mean cX12_mean 4 (some .long) ∈ wk := wk_of (in_t5 (List.mem_of_getElem? (i := 193) (by decide +kernel))) (by decide +kernel)
theorem w_4b07db92e5 : Cond.instanceMethod yX12_mean ∈ wk := wk_of (in_t5 (List.mem_of_getElem? (i := 191) (by decide +kernel))) (by decide +kernel)
theorem w_263ba6c564 : Cond.selects yX12_mean.cls yX12_mean yX12_mean ∈ wk := wk_of (in_t5 (List.mem_of_getElem? (i := 192) (by decide +kernel))) (by decide +kernel)
theorem w_1375b7b262 : Cond.methodLink RL 43 yX11_refused ∈ wk := wk_of (in_t2 (List.mem_of_getElem? (i := 231) (by decide +kernel))) (by decide +kernel)
theorem w_be22d4f891 : Cond.code yX11_refused cX11_refused 5 (some .long) ∈ wk := wk_of (in_t2 (List.mem_of_getElem? (i := 234) (by decide +kernel))) (by decide +kernel)
theorem w_08c234d2ce : Cond.instanceMethod yX11_refused ∈ wk := wk_of (in_t2 (List.mem_of_getElem? (i := 232) (by decide +kernel))) (by decide +kernel)
theorem w_f749def9c4 : Cond.selects yX11_refused.cls yX11_refused yX11_refused ∈ wk := wk_of (in_t2 (List.mem_of_getElem? (i := 233) (by decide +kernel))) (by decide +kernel)
theorem w_4bf879607e : Cond.methodLink RL 47 yX12_refused ∈ wk := wk_of (in_t5 (List.mem_of_getElem? (i := 209) (by decide +kernel))) (by decide +kernel)
theorem w_9e5cd01c98 : Cond.code yX12_refused cX12_refused 9 (some .long) ∈ wk := wk_of (in_t5 (List.mem_of_getElem? (i := 212) (by decide +kernel))) (by decide +kernel)
theorem w_77ed5478da : Cond.instanceMethod yX12_refused ∈ wk := wk_of (in_t5 (List.mem_of_getElem? (i := 210) (by decide +kernel))) (by decide +kernel)
theorem w_4f75001083 : Cond.selects yX12_refused.cls yX12_refused yX12_refused ∈ wk := wk_of (in_t5 (List.mem_of_getElem? (i := 211) (by decide +kernel))) (by decide +kernel)
theorem w_74174744cd : Cond.methodLink RL 48 yX11_moves ∈ wk := wk_of (in_t2 (List.mem_of_getElem? (i := 235) (by decide +kernel))) (by decide +kernel)
theorem w_7576cdf53c : Cond.code yX11_moves cX11_moves 6 (some .long) ∈ wk := wk_of (in_t2 (List.mem_of_getElem? (i := 238) (by decide +kernel))) (by decide +kernel)
theorem w_797a74a4ec : Cond.instanceMethod yX11_moves ∈ wk := wk_of (in_t2 (List.mem_of_getElem? (i := 236) (by decide +kernel))) (by decide +kernel)
theorem w_8695acda35 : Cond.selects yX11_moves.cls yX11_moves yX11_moves ∈ wk := wk_of (in_t2 (List.mem_of_getElem? (i := 237) (by decide +kernel))) (by decide +kernel)
theorem w_bd8f26930a : Cond.methodLink RL 51 yX12_moves ∈ wk := wk_of (in_t5 (List.mem_of_getElem? (i := 213) (by decide +kernel))) (by decide +kernel)
theorem w_6805380c16 : Cond.code yX12_moves cX12_moves 14 (some .long) ∈ wk := wk_of (in_t5 (List.mem_of_getElem? (i := 216) (by decide +kernel))) (by decide +kernel)
theorem w_7451138a53 : Cond.instanceMethod yX12_moves ∈ wk := wk_of (in_t5 (List.mem_of_getElem? (i := 214) (by decide +kernel))) (by decide +kernel)
theorem w_76c1cb4e26 : Cond.selects yX12_moves.cls yX12_moves yX12_moves ∈ wk := wk_of (in_t5 (List.mem_of_getElem? (i := 215) (by decide +kernel))) (by decide +kernel)
theorem w_8ec37ce9bf : Cond.methodLink RL 52 yX11_row ∈ wk := wk_of (in_t3 (List.mem_of_getElem? (i := 2) (by decide +kernel))) (by decide +kernel)
theorem w_c7bf980cfc : Cond.code yX11_row cX11_row 3 (some .int) ∈ wk := wk_of (in_t3 (List.mem_of_getElem? (i := 5) (by decide +kernel))) (by decide +kernel)
theorem w_3c7aa33aee : Cond.instanceMethod yX11_row ∈ wk := wk_of (in_t3 (List.mem_of_getElem? (i := 3) (by decide +kernel))) (by decide +kernel)
theorem w_cdffc012b6 : Cond.selects yX11_row.cls yX11_row yX11_row ∈ wk := wk_of (in_t3 (List.mem_of_getElem? (i := 4) (by decide +kernel))) (by decide +kernel)
theorem w_b7dba7183a : Cond.methodLink RL 55 yX12_row ∈ wk := wk_of (in_t5 (List.mem_of_getElem? (i := 217) (by decide +kernel))) (by decide +kernel)
theorem w_64f2bf4128 : Cond.code yX12_row cX12_row 3 (some .int) ∈ wk := wk_of (in_t5 (List.mem_of_getElem? (i := 220) (by decide +kernel))) (by decide +kernel)
theorem w_3b24b5da3f : Cond.instanceMethod yX12_row ∈ wk := wk_of (in_t5 (List.mem_of_getElem? (i := 218) (by decide +kernel))) (by decide +kernel)
theorem w_63411851da : Cond.selects yX12_row.cls yX12_row yX12_row ∈ wk := wk_of (in_t5 (List.mem_of_getElem? (i := 219) (by decide +kernel))) (by decide +kernel)
theorem w_a6042584f4 : Cond.methodLink RL 56 yX11_line ∈ wk := wk_of (in_t3 (List.mem_of_getElem? (i := 10) (by decide +kernel))) (by decide +kernel)
theorem w_90bfcfb1f4 : Cond.methodLink RL 59 yX12_line ∈ wk := wk_of (in_t5 (List.mem_of_getElem? (i := 221) (by decide +kernel))) (by decide +kernel)
theorem w_b7c30aa9c6 : Cond.code yX12_line cX12_line 3 (some .int) ∈ wk := wk_of (in_t5 (List.mem_of_getElem? (i := 224) (by decide +kernel))) (by decide +kernel)
theorem w_a02bb12ef6 : Cond.instanceMethod yX12_line ∈ wk := wk_of (in_t5 (List.mem_of_getElem? (i := 222) (by decide +kernel))) (by decide +kernel)
theorem w_4cf5fc446c : Cond.selects yX12_line.cls yX12_line yX12_line ∈ wk := wk_of (in_t5 (List.mem_of_getElem? (i := 223) (by decide +kernel))) (by decide +kernel)
theorem w_480aa029de : Cond.methodLink RL 60 yX11_taken ∈ wk := wk_of (in_t3 (List.mem_of_getElem? (i := 28) (by decide +kernel))) (by decide +kernel)
theorem w_28280a1bb1 : Cond.code yX11_taken cX11_taken 5 (some .long) ∈ wk := wk_of (in_t3 (List.mem_of_getElem? (i := 31) (by decide +kernel))) (by decide +kernel)
theorem w_cbb057d30a : Cond.instanceMethod yX11_taken ∈ wk := wk_of (in_t3 (List.mem_of_getElem? (i := 29) (by decide +kernel))) (by decide +kernel)
theorem w_e18b75e1ca : Cond.selects yX11_taken.cls yX11_taken yX11_taken ∈ wk := wk_of (in_t3 (List.mem_of_getElem? (i := 30) (by decide +kernel))) (by decide +kernel)
theorem w_64fc2ef4ef : Cond.methodLink RL 63 yX12_taken ∈ wk := wk_of (in_t5 (List.mem_of_getElem? (i := 232) (by decide +kernel))) (by decide +kernel)
theorem w_524dc5ae2d : Cond.code yX12_taken cX12_taken 5 (some .long) ∈ wk := wk_of (in_t5 (List.mem_of_getElem? (i := 235) (by decide +kernel))) (by decide +kernel)
theorem w_3ea2bd77ff : Cond.instanceMethod yX12_taken ∈ wk := wk_of (in_t5 (List.mem_of_getElem? (i := 233) (by decide +kernel))) (by decide +kernel)
theorem w_fc824b6343 : Cond.selects yX12_taken.cls yX12_taken yX12_taken ∈ wk := wk_of (in_t5 (List.mem_of_getElem? (i := 234) (by decide +kernel))) (by decide +kernel)
theorem w_5d44a0ac74 : Cond.methodLink RL 64 yX11_best ∈ wk := wk_of (in_t3 (List.mem_of_getElem? (i := 44) (by decide +kernel))) (by decide +kernel)
theorem w_deef3287c5 : Cond.methodLink RL 67 yX12_best ∈ wk := wk_of (in_t6 (List.mem_of_getElem? (i := 4) (by decide +kernel))) (by decide +kernel)
theorem w_74389481f9 : Cond.code yX12_best cX12_best 2 (some .int) ∈ wk := wk_of (in_t6 (List.mem_of_getElem? (i := 7) (by decide +kernel))) (by decide +kernel)
theorem w_a781b38541 : Cond.instanceMethod yX12_best ∈ wk := wk_of (in_t6 (List.mem_of_getElem? (i := 5) (by decide +kernel))) (by decide +kernel)
theorem w_cc3c4253a9 : Cond.selects yX12_best.cls yX12_best yX12_best ∈ wk := wk_of (in_t6 (List.mem_of_getElem? (i := 6) (by decide +kernel))) (by decide +kernel)
theorem w_fa5cb248a4 : Cond.methodLink RL 68 yX11_belief ∈ wk := wk_of (in_t3 (List.mem_of_getElem? (i := 60) (by decide +kernel))) (by decide +kernel)
theorem w_7add2bf9c6 : Cond.code yX11_belief cX11_belief 2 (some .int) ∈ wk := wk_of (in_t3 (List.mem_of_getElem? (i := 63) (by decide +kernel))) (by decide +kernel)
theorem w_ba968ead67 : Cond.instanceMethod yX11_belief ∈ wk := wk_of (in_t3 (List.mem_of_getElem? (i := 61) (by decide +kernel))) (by decide +kernel)
theorem w_55a52d65b1 : Cond.selects yX11_belief.cls yX11_belief yX11_belief ∈ wk := wk_of (in_t3 (List.mem_of_getElem? (i := 62) (by decide +kernel))) (by decide +kernel)
theorem w_850ebce385 : Cond.methodLink RL 71 yX12_belief ∈ wk := wk_of (in_t6 (List.mem_of_getElem? (i := 12) (by decide +kernel))) (by decide +kernel)
theorem w_0858617f74 : Cond.code yX12_belief cX12_belief 2 (some .int) ∈ wk := wk_of (in_t6 (List.mem_of_getElem? (i := 15) (by decide +kernel))) (by decide +kernel)
theorem w_1f5edde15a : Cond.instanceMethod yX12_belief ∈ wk := wk_of (in_t6 (List.mem_of_getElem? (i := 13) (by decide +kernel))) (by decide +kernel)
theorem w_a41c902743 : Cond.selects yX12_belief.cls yX12_belief yX12_belief ∈ wk := wk_of (in_t6 (List.mem_of_getElem? (i := 14) (by decide +kernel))) (by decide +kernel)
theorem w_2b08b4d56d : Cond.methodLink RL 72 yX11_believe ∈ wk := wk_of (in_t3 (List.mem_of_getElem? (i := 68) (by decide +kernel))) (by decide +kernel)
theorem w_a02ffbffb4 : Cond.code yX11_believe cX11_believe 4 (some .int) ∈ wk := wk_of (in_t3 (List.mem_of_getElem? (i := 71) (by decide +kernel))) (by decide +kernel)
theorem w_514d4adcb2 : Cond.instanceMethod yX11_believe ∈ wk := wk_of (in_t3 (List.mem_of_getElem? (i := 69) (by decide +kernel))) (by decide +kernel)
theorem w_00f779a1e2 : Cond.selects yX11_believe.cls yX11_believe yX11_believe ∈ wk := wk_of (in_t3 (List.mem_of_getElem? (i := 70) (by decide +kernel))) (by decide +kernel)
theorem w_2271c2d6e2 : Cond.methodLink RL 75 yX12_believe ∈ wk := wk_of (in_t6 (List.mem_of_getElem? (i := 16) (by decide +kernel))) (by decide +kernel)
theorem w_a6446a04c4 : Cond.code yX12_believe cX12_believe 5 (some .int) ∈ wk := wk_of (in_t6 (List.mem_of_getElem? (i := 19) (by decide +kernel))) (by decide +kernel)
theorem w_5b064bc07e : Cond.instanceMethod yX12_believe ∈ wk := wk_of (in_t6 (List.mem_of_getElem? (i := 17) (by decide +kernel))) (by decide +kernel)
theorem w_08a9b46898 : Cond.selects yX12_believe.cls yX12_believe yX12_believe ∈ wk := wk_of (in_t6 (List.mem_of_getElem? (i := 18) (by decide +kernel))) (by decide +kernel)
theorem w_2232d93e16 : Cond.methodLink RL 76 yX11_hisBest ∈ wk := wk_of (in_t3 (List.mem_of_getElem? (i := 84) (by decide +kernel))) (by decide +kernel)
theorem w_b095a7448a : Cond.methodLink RL 79 yX12_hisBest ∈ wk := wk_of (in_t6 (List.mem_of_getElem? (i := 24) (by decide +kernel))) (by decide +kernel)
theorem w_7c85cb370a : Cond.code yX12_hisBest cX12_hisBest 2 (some .int) ∈ wk := wk_of (in_t6 (List.mem_of_getElem? (i := 27) (by decide +kernel))) (by decide +kernel)
theorem w_da0fca991c : Cond.instanceMethod yX12_hisBest ∈ wk := wk_of (in_t6 (List.mem_of_getElem? (i := 25) (by decide +kernel))) (by decide +kernel)
theorem w_2269d5ff20 : Cond.selects yX12_hisBest.cls yX12_hisBest yX12_hisBest ∈ wk := wk_of (in_t6 (List.mem_of_getElem? (i := 26) (by decide +kernel))) (by decide +kernel)
theorem w_0bd804eb25 : Cond.methodLink RL 80 yX11_off ∈ wk := wk_of (in_t3 (List.mem_of_getElem? (i := 93) (by decide +kernel))) (by decide +kernel)
theorem w_dfa733e5cd : Cond.code yX11_off cX11_off 7 (some .long) ∈ wk := wk_of (in_t3 (List.mem_of_getElem? (i := 96) (by decide +kernel))) (by decide +kernel)
theorem w_16b4268513 : Cond.instanceMethod yX11_off ∈ wk := wk_of (in_t3 (List.mem_of_getElem? (i := 94) (by decide +kernel))) (by decide +kernel)
theorem w_ce8e705d02 : Cond.selects yX11_off.cls yX11_off yX11_off ∈ wk := wk_of (in_t3 (List.mem_of_getElem? (i := 95) (by decide +kernel))) (by decide +kernel)
theorem w_ff5240e57f : Cond.methodLink RL 83 yX12_off ∈ wk := wk_of (in_t6 (List.mem_of_getElem? (i := 32) (by decide +kernel))) (by decide +kernel)
theorem w_224a3f34ba : Cond.code yX12_off cX12_off 8 (some .long) ∈ wk := wk_of (in_t6 (List.mem_of_getElem? (i := 35) (by decide +kernel))) (by decide +kernel)
theorem w_f9fa53350e : Cond.instanceMethod yX12_off ∈ wk := wk_of (in_t6 (List.mem_of_getElem? (i := 33) (by decide +kernel))) (by decide +kernel)
theorem w_e3bd06b927 : Cond.selects yX12_off.cls yX12_off yX12_off ∈ wk := wk_of (in_t6 (List.mem_of_getElem? (i := 34) (by decide +kernel))) (by decide +kernel)
theorem w_046f36ab4d : Cond.methodLink RL 84 yX11_type ∈ wk := wk_of (in_t3 (List.mem_of_getElem? (i := 106) (by decide +kernel))) (by decide +kernel)
theorem w_079b1d5696 : Cond.code yX11_type cX11_type 2 (some .int) ∈ wk := wk_of (in_t3 (List.mem_of_getElem? (i := 109) (by decide +kernel))) (by decide +kernel)
theorem w_af3e6d4bc9 : Cond.instanceMethod yX11_type ∈ wk := wk_of (in_t3 (List.mem_of_getElem? (i := 107) (by decide +kernel))) (by decide +kernel)
theorem w_20408a17b4 : Cond.selects yX11_type.cls yX11_type yX11_type ∈ wk := wk_of (in_t3 (List.mem_of_getElem? (i := 108) (by decide +kernel))) (by decide +kernel)
theorem w_fa8c0a3eac : Cond.methodLink RL 87 yX12_type ∈ wk := wk_of (in_t6 (List.mem_of_getElem? (i := 40) (by decide +kernel))) (by decide +kernel)
theorem w_6d1f927310 : Cond.code yX12_type cX12_type 2 (some .int) ∈ wk := wk_of (in_t6 (List.mem_of_getElem? (i := 43) (by decide +kernel))) (by decide +kernel)
theorem w_94cfddaf44 : Cond.instanceMethod yX12_type ∈ wk := wk_of (in_t6 (List.mem_of_getElem? (i := 41) (by decide +kernel))) (by decide +kernel)
theorem w_c127f4f807 : Cond.selects yX12_type.cls yX12_type yX12_type ∈ wk := wk_of (in_t6 (List.mem_of_getElem? (i := 42) (by decide +kernel))) (by decide +kernel)
theorem w_31123e5540 : Cond.methodLink RL 88 yX11_wipe ∈ wk := wk_of (in_t3 (List.mem_of_getElem? (i := 144) (by decide +kernel))) (by decide +kernel)
theorem w_ff65854a91 : Cond.code yX11_wipe cX11_wipe 1 (some .int) ∈ wk := wk_of (in_t3 (List.mem_of_getElem? (i := 147) (by decide +kernel))) (by decide +kernel)
theorem w_652ec120bd : Cond.instanceMethod yX11_wipe ∈ wk := wk_of (in_t3 (List.mem_of_getElem? (i := 145) (by decide +kernel))) (by decide +kernel)
theorem w_ebe5bb6170 : Cond.selects yX11_wipe.cls yX11_wipe yX11_wipe ∈ wk := wk_of (in_t3 (List.mem_of_getElem? (i := 146) (by decide +kernel))) (by decide +kernel)
theorem w_4707236bc5 : Cond.methodLink RL 92 yX12_wipe ∈ wk := wk_of (in_t6 (List.mem_of_getElem? (i := 44) (by decide +kernel))) (by decide +kernel)
theorem w_cf6329cd02 : Cond.code yX12_wipe cX12_wipe 2 (some .int) ∈ wk := wk_of (in_t6 (List.mem_of_getElem? (i := 47) (by decide +kernel))) (by decide +kernel)
theorem w_727043bf22 : Cond.instanceMethod yX12_wipe ∈ wk := wk_of (in_t6 (List.mem_of_getElem? (i := 45) (by decide +kernel))) (by decide +kernel)
theorem w_c7b6e11bb1 : Cond.selects yX12_wipe.cls yX12_wipe yX12_wipe ∈ wk := wk_of (in_t6 (List.mem_of_getElem? (i := 46) (by decide +kernel))) (by decide +kernel)
theorem w_acc687082e : Cond.methodLink RL 93 yX11_fault ∈ wk := wk_of (in_t3 (List.mem_of_getElem? (i := 152) (by decide +kernel))) (by decide +kernel)
theorem w_f9f2553652 : Cond.methodLink RL 96 yX12_fault ∈ wk := wk_of (in_t6 (List.mem_of_getElem? (i := 48) (by decide +kernel))) (by decide +kernel)
theorem w_ddb2419b2c : Cond.code yX12_fault cX12_fault 1 (some .int) ∈ wk := wk_of (in_t6 (List.mem_of_getElem? (i := 51) (by decide +kernel))) (by decide +kernel)
theorem w_8a1cf7f89f : Cond.instanceMethod yX12_fault ∈ wk := wk_of (in_t6 (List.mem_of_getElem? (i := 49) (by decide +kernel))) (by decide +kernel)
theorem w_e4eeff1f8d : Cond.selects yX12_fault.cls yX12_fault yX12_fault ∈ wk := wk_of (in_t6 (List.mem_of_getElem? (i := 50) (by decide +kernel))) (by decide +kernel)
theorem w_0c96e50d88 : Cond.methodLink RL 97 yX11_reckon ∈ wk := wk_of (in_t3 (List.mem_of_getElem? (i := 160) (by decide +kernel))) (by decide +kernel)
theorem w_b2d854a3d8 : Cond.methodLink RL 100 yX12_reckon ∈ wk := wk_of (in_t6 (List.mem_of_getElem? (i := 64) (by decide +kernel))) (by decide +kernel)
theorem w_8a46ea3642 : Cond.code yX12_reckon cX12_reckon 3 (some .int) ∈ wk := wk_of (in_t6 (List.mem_of_getElem? (i := 67) (by decide +kernel))) (by decide +kernel)
theorem w_1f23b11e48 : Cond.instanceMethod yX12_reckon ∈ wk := wk_of (in_t6 (List.mem_of_getElem? (i := 65) (by decide +kernel))) (by decide +kernel)
theorem w_25b249f6e6 : Cond.selects yX12_reckon.cls yX12_reckon yX12_reckon ∈ wk := wk_of (in_t6 (List.mem_of_getElem? (i := 66) (by decide +kernel))) (by decide +kernel)
theorem w_c8d5ec7152 : Cond.methodLink RL 101 yX11_how ∈ wk := wk_of (in_t3 (List.mem_of_getElem? (i := 184) (by decide +kernel))) (by decide +kernel)
theorem w_95bd7f79f0 : Cond.code yX11_how cX11_how 3 (some .int) ∈ wk := wk_of (in_t3 (List.mem_of_getElem? (i := 187) (by decide +kernel))) (by decide +kernel)
theorem w_0a8e37490f : Cond.instanceMethod yX11_how ∈ wk := wk_of (in_t3 (List.mem_of_getElem? (i := 185) (by decide +kernel))) (by decide +kernel)
theorem w_34f3b39a8f : Cond.selects yX11_how.cls yX11_how yX11_how ∈ wk := wk_of (in_t3 (List.mem_of_getElem? (i := 186) (by decide +kernel))) (by decide +kernel)
theorem w_aff544bc40 : Cond.methodLink RL 104 yX12_how ∈ wk := wk_of (in_t6 (List.mem_of_getElem? (i := 88) (by decide +kernel))) (by decide +kernel)
theorem w_95acadbcf2 : Cond.code yX12_how cX12_how 5 (some .int) ∈ wk := wk_of (in_t6 (List.mem_of_getElem? (i := 91) (by decide +kernel))) (by decide +kernel)
theorem w_f2d124be81 : Cond.instanceMethod yX12_how ∈ wk := wk_of (in_t6 (List.mem_of_getElem? (i := 89) (by decide +kernel))) (by decide +kernel)
theorem w_ae8d767829 : Cond.selects yX12_how.cls yX12_how yX12_how ∈ wk := wk_of (in_t6 (List.mem_of_getElem? (i := 90) (by decide +kernel))) (by decide +kernel)
theorem w_da16f8f8cb : Cond.methodLink RL 105 yX11_temper ∈ wk := wk_of (in_t3 (List.mem_of_getElem? (i := 192) (by decide +kernel))) (by decide +kernel)
theorem w_2b4eb83b39 : Cond.methodLink RL 108 yX12_temper ∈ wk := wk_of (in_t6 (List.mem_of_getElem? (i := 92) (by decide +kernel))) (by decide +kernel)
theorem w_83c0643ed9 : Cond.code yX12_temper cX12_temper 1 (some .int) ∈ wk := wk_of (in_t6 (List.mem_of_getElem? (i := 95) (by decide +kernel))) (by decide +kernel)
theorem w_0572e64aab : Cond.instanceMethod yX12_temper ∈ wk := wk_of (in_t6 (List.mem_of_getElem? (i := 93) (by decide +kernel))) (by decide +kernel)
theorem w_fb8eedfa06 : Cond.selects yX12_temper.cls yX12_temper yX12_temper ∈ wk := wk_of (in_t6 (List.mem_of_getElem? (i := 94) (by decide +kernel))) (by decide +kernel)
theorem w_cf7a4ee408 : Cond.methodLink RL 109 yX11_two ∈ wk := wk_of (in_t3 (List.mem_of_getElem? (i := 201) (by decide +kernel))) (by decide +kernel)
theorem w_983645c86a : Cond.code yX11_two cX11_two 3 (some .int) ∈ wk := wk_of (in_t3 (List.mem_of_getElem? (i := 204) (by decide +kernel))) (by decide +kernel)
theorem w_49aa9c5b25 : Cond.instanceMethod yX11_two ∈ wk := wk_of (in_t3 (List.mem_of_getElem? (i := 202) (by decide +kernel))) (by decide +kernel)
theorem w_6e0808d5d7 : Cond.selects yX11_two.cls yX11_two yX11_two ∈ wk := wk_of (in_t3 (List.mem_of_getElem? (i := 203) (by decide +kernel))) (by decide +kernel)
theorem w_9f9b9d0290 : Cond.methodLink RL 112 yX12_two ∈ wk := wk_of (in_t6 (List.mem_of_getElem? (i := 100) (by decide +kernel))) (by decide +kernel)
theorem w_4659fe337d : Cond.code yX12_two cX12_two 16 (some .int) ∈ wk := wk_of (in_t6 (List.mem_of_getElem? (i := 103) (by decide +kernel))) (by decide +kernel)
theorem w_4bd4440b82 : Cond.instanceMethod yX12_two ∈ wk := wk_of (in_t6 (List.mem_of_getElem? (i := 101) (by decide +kernel))) (by decide +kernel)
theorem w_8aefeb9465 : Cond.selects yX12_two.cls yX12_two yX12_two ∈ wk := wk_of (in_t6 (List.mem_of_getElem? (i := 102) (by decide +kernel))) (by decide +kernel)
theorem w_a079098b7d : Cond.methodLink RL 113 yX11_thing ∈ wk := wk_of (in_t3 (List.mem_of_getElem? (i := 231) (by decide +kernel))) (by decide +kernel)
theorem w_9dda7d0df3 : Cond.code yX11_thing cX11_thing 5 (some .int) ∈ wk := wk_of (in_t3 (List.mem_of_getElem? (i := 234) (by decide +kernel))) (by decide +kernel)
theorem w_383e97eb83 : Cond.instanceMethod yX11_thing ∈ wk := wk_of (in_t3 (List.mem_of_getElem? (i := 232) (by decide +kernel))) (by decide +kernel)
theorem w_3e7b56314f : Cond.selects yX11_thing.cls yX11_thing yX11_thing ∈ wk := wk_of (in_t3 (List.mem_of_getElem? (i := 233) (by decide +kernel))) (by decide +kernel)
theorem w_2ea1c4cdc9 : Cond.methodLink RL 116 yX12_thing ∈ wk := wk_of (in_t6 (List.mem_of_getElem? (i := 108) (by decide +kernel))) (by decide +kernel)
theorem w_76c54c5657 : Cond.code yX12_thing cX12_thing 5 (some .int) ∈ wk := wk_of (in_t6 (List.mem_of_getElem? (i := 111) (by decide +kernel))) (by decide +kernel)
theorem w_1b3402ba1e : Cond.instanceMethod yX12_thing ∈ wk := wk_of (in_t6 (List.mem_of_getElem? (i := 109) (by decide +kernel))) (by decide +kernel)
theorem w_ecd3a4ebe5 : Cond.selects yX12_thing.cls yX12_thing yX12_thing ∈ wk := wk_of (in_t6 (List.mem_of_getElem? (i := 110) (by decide +kernel))) (by decide +kernel)
theorem w_84985d6bf7 : Cond.methodLink RL 117 yX11_goes ∈ wk := wk_of (in_t3 (List.mem_of_getElem? (i := 239) (by decide +kernel))) (by decide +kernel)
theorem w_9d7d964129 : Cond.methodLink RL 120 yX12_goes ∈ wk := wk_of (in_t6 (List.mem_of_getElem? (i := 112) (by decide +kernel))) (by decide +kernel)
theorem w_fc1c5730c5 : Cond.code yX12_goes cX12_goes 2 (some .int) ∈ wk := wk_of (in_t6 (List.mem_of_getElem? (i := 115) (by decide +kernel))) (by decide +kernel)
theorem w_021dd779e0 : Cond.instanceMethod yX12_goes ∈ wk := wk_of (in_t6 (List.mem_of_getElem? (i := 113) (by decide +kernel))) (by decide +kernel)
theorem w_1f32142fa0 : Cond.selects yX12_goes.cls yX12_goes yX12_goes ∈ wk := wk_of (in_t6 (List.mem_of_getElem? (i := 114) (by decide +kernel))) (by decide +kernel)
theorem w_72c195c174 : Cond.methodLink RL 121 yX11_looked ∈ wk := wk_of (in_t4 (List.mem_of_getElem? (i := 35) (by decide +kernel))) (by decide +kernel)
theorem w_0e13901c18 : Cond.methodLink RL 124 yX12_looked ∈ wk := wk_of (in_t6 (List.mem_of_getElem? (i := 131) (by decide +kernel))) (by decide +kernel)
theorem w_a27a2504e6 : Cond.code yX12_looked cX12_looked 1 (some .int) ∈ wk := wk_of (in_t6 (List.mem_of_getElem? (i := 134) (by decide +kernel))) (by decide +kernel)
theorem w_d59366a529 : Cond.instanceMethod yX12_looked ∈ wk := wk_of (in_t6 (List.mem_of_getElem? (i := 132) (by decide +kernel))) (by decide +kernel)
theorem w_cff22e9936 : Cond.selects yX12_looked.cls yX12_looked yX12_looked ∈ wk := wk_of (in_t6 (List.mem_of_getElem? (i := 133) (by decide +kernel))) (by decide +kernel)
theorem w_e70700288b : Cond.methodLink RL 125 yX11_story ∈ wk := wk_of (in_t4 (List.mem_of_getElem? (i := 52) (by decide +kernel))) (by decide +kernel)
theorem w_15e1b3409f : Cond.code yX11_story cX11_story 4 (some .int) ∈ wk := wk_of (in_t4 (List.mem_of_getElem? (i := 55) (by decide +kernel))) (by decide +kernel)
theorem w_9a3f55dffa : Cond.instanceMethod yX11_story ∈ wk := wk_of (in_t4 (List.mem_of_getElem? (i := 53) (by decide +kernel))) (by decide +kernel)
theorem w_25811c714f : Cond.selects yX11_story.cls yX11_story yX11_story ∈ wk := wk_of (in_t4 (List.mem_of_getElem? (i := 54) (by decide +kernel))) (by decide +kernel)
theorem w_8eabdca293 : Cond.methodLink RL 128 yX12_story ∈ wk := wk_of (in_t6 (List.mem_of_getElem? (i := 143) (by decide +kernel))) (by decide +kernel)
theorem w_93b62e443a : Cond.code yX12_story cX12_story 5 (some .int) ∈ wk := wk_of (in_t6 (List.mem_of_getElem? (i := 146) (by decide +kernel))) (by decide +kernel)
theorem w_eb983173e0 : Cond.instanceMethod yX12_story ∈ wk := wk_of (in_t6 (List.mem_of_getElem? (i := 144) (by decide +kernel))) (by decide +kernel)
theorem w_ee4f2ec734 : Cond.selects yX12_story.cls yX12_story yX12_story ∈ wk := wk_of (in_t6 (List.mem_of_getElem? (i := 145) (by decide +kernel))) (by decide +kernel)
theorem w_c0bf8aaf4e : Cond.methodLink RL 129 yX11_odds ∈ wk := wk_of (in_t4 (List.mem_of_getElem? (i := 60) (by decide +kernel))) (by decide +kernel)
theorem w_2b126a6118 : Cond.code yX11_odds cX11_odds 7 (some .long) ∈ wk := wk_of (in_t4 (List.mem_of_getElem? (i := 63) (by decide +kernel))) (by decide +kernel)
theorem w_3868cfb6e0 : Cond.instanceMethod yX11_odds ∈ wk := wk_of (in_t4 (List.mem_of_getElem? (i := 61) (by decide +kernel))) (by decide +kernel)
theorem w_018e3656ba : Cond.selects yX11_odds.cls yX11_odds yX11_odds ∈ wk := wk_of (in_t4 (List.mem_of_getElem? (i := 62) (by decide +kernel))) (by decide +kernel)
theorem w_3ce9ef03ce : Cond.methodLink RL 132 yX12_odds ∈ wk := wk_of (in_t6 (List.mem_of_getElem? (i := 147) (by decide +kernel))) (by decide +kernel)
theorem w_fd8da19b15 : Cond.code yX12_odds cX12_odds 4 (some .long) ∈ wk := wk_of (in_t6 (List.mem_of_getElem? (i := 150) (by decide +kernel))) (by decide +kernel)
theorem w_18eff65bcc : Cond.instanceMethod yX12_odds ∈ wk := wk_of (in_t6 (List.mem_of_getElem? (i := 148) (by decide +kernel))) (by decide +kernel)
theorem w_0d86d72d21 : Cond.selects yX12_odds.cls yX12_odds yX12_odds ∈ wk := wk_of (in_t6 (List.mem_of_getElem? (i := 149) (by decide +kernel))) (by decide +kernel)
theorem w_cb7890727d : Cond.methodLink RL 133 yX11_round ∈ wk := wk_of (in_t4 (List.mem_of_getElem? (i := 71) (by decide +kernel))) (by decide +kernel)
theorem w_bf39ade713 : Cond.code yX11_round cX11_round 3 (some .int) ∈ wk := wk_of (in_t4 (List.mem_of_getElem? (i := 74) (by decide +kernel))) (by decide +kernel)
theorem w_944e4671cb : Cond.instanceMethod yX11_round ∈ wk := wk_of (in_t4 (List.mem_of_getElem? (i := 72) (by decide +kernel))) (by decide +kernel)
theorem w_52ecb61e05 : Cond.selects yX11_round.cls yX11_round yX11_round ∈ wk := wk_of (in_t4 (List.mem_of_getElem? (i := 73) (by decide +kernel))) (by decide +kernel)
theorem w_379163f2cd : Cond.methodLink RL 136 yX12_round ∈ wk := wk_of (in_t6 (List.mem_of_getElem? (i := 158) (by decide +kernel))) (by decide +kernel)
theorem w_bf2e24e266 : Cond.code yX12_round cX12_round 3 (some .int) ∈ wk := wk_of (in_t6 (List.mem_of_getElem? (i := 161) (by decide +kernel))) (by decide +kernel)
theorem w_595248936a : Cond.instanceMethod yX12_round ∈ wk := wk_of (in_t6 (List.mem_of_getElem? (i := 159) (by decide +kernel))) (by decide +kernel)
theorem w_98de555831 : Cond.selects yX12_round.cls yX12_round yX12_round ∈ wk := wk_of (in_t6 (List.mem_of_getElem? (i := 160) (by decide +kernel))) (by decide +kernel)
theorem w_23cf449e72 : Cond.methodLink RL 137 yX11_forget ∈ wk := wk_of (in_t4 (List.mem_of_getElem? (i := 79) (by decide +kernel))) (by decide +kernel)
theorem w_03f7b679c3 : Cond.code yX11_forget cX11_forget 2 (some .int) ∈ wk := wk_of (in_t4 (List.mem_of_getElem? (i := 82) (by decide +kernel))) (by decide +kernel)
theorem w_89f14d23d2 : Cond.instanceMethod yX11_forget ∈ wk := wk_of (in_t4 (List.mem_of_getElem? (i := 80) (by decide +kernel))) (by decide +kernel)
theorem w_ca89c660b9 : Cond.selects yX11_forget.cls yX11_forget yX11_forget ∈ wk := wk_of (in_t4 (List.mem_of_getElem? (i := 81) (by decide +kernel))) (by decide +kernel)
theorem w_26e2f791cd : Cond.methodLink RL 140 yX12_forget ∈ wk := wk_of (in_t6 (List.mem_of_getElem? (i := 162) (by decide +kernel))) (by decide +kernel)
theorem w_23fd71ff77 : Cond.code yX12_forget cX12_forget 2 (some .int) ∈ wk := wk_of (in_t6 (List.mem_of_getElem? (i := 165) (by decide +kernel))) (by decide +kernel)
theorem w_ad209f6774 : Cond.instanceMethod yX12_forget ∈ wk := wk_of (in_t6 (List.mem_of_getElem? (i := 163) (by decide +kernel))) (by decide +kernel)
theorem w_476389b522 : Cond.selects yX12_forget.cls yX12_forget yX12_forget ∈ wk := wk_of (in_t6 (List.mem_of_getElem? (i := 164) (by decide +kernel))) (by decide +kernel)
theorem w_3a12887d74 : Cond.methodLink RL 141 yX11_misses ∈ wk := wk_of (in_t4 (List.mem_of_getElem? (i := 83) (by decide +kernel))) (by decide +kernel)
theorem w_0e2416bc08 : Cond.code yX11_misses cX11_misses 3 (some .int) ∈ wk := wk_of (in_t4 (List.mem_of_getElem? (i := 86) (by decide +kernel))) (by decide +kernel)
theorem w_e7f11539d6 : Cond.instanceMethod yX11_misses ∈ wk := wk_of (in_t4 (List.mem_of_getElem? (i := 84) (by decide +kernel))) (by decide +kernel)
theorem w_0ac35658f1 : Cond.selects yX11_misses.cls yX11_misses yX11_misses ∈ wk := wk_of (in_t4 (List.mem_of_getElem? (i := 85) (by decide +kernel))) (by decide +kernel)
theorem w_b3d205f119 : Cond.methodLink RL 144 yX12_misses ∈ wk := wk_of (in_t6 (List.mem_of_getElem? (i := 166) (by decide +kernel))) (by decide +kernel)
theorem w_25495b9539 : Cond.code yX12_misses cX12_misses 3 (some .int) ∈ wk := wk_of (in_t6 (List.mem_of_getElem? (i := 169) (by decide +kernel))) (by decide +kernel)
theorem w_8b4d7b4637 : Cond.instanceMethod yX12_misses ∈ wk := wk_of (in_t6 (List.mem_of_getElem? (i := 167) (by decide +kernel))) (by decide +kernel)
theorem w_58d9ba83a2 : Cond.selects yX12_misses.cls yX12_misses yX12_misses ∈ wk := wk_of (in_t6 (List.mem_of_getElem? (i := 168) (by decide +kernel))) (by decide +kernel)
theorem w_7c7c2cd836 : Cond.methodLink RL 145 yX11_learnt ∈ wk := wk_of (in_t4 (List.mem_of_getElem? (i := 96) (by decide +kernel))) (by decide +kernel)
theorem w_e86ff3df8b : Cond.methodLink RL 148 yX12_learnt ∈ wk := wk_of (in_t6 (List.mem_of_getElem? (i := 174) (by decide +kernel))) (by decide +kernel)
theorem w_051e7979c7 : Cond.code yX12_learnt cX12_learnt 2 (some .int) ∈ wk := wk_of (in_t6 (List.mem_of_getElem? (i := 177) (by decide +kernel))) (by decide +kernel)
theorem w_08f4a66be9 : Cond.instanceMethod yX12_learnt ∈ wk := wk_of (in_t6 (List.mem_of_getElem? (i := 175) (by decide +kernel))) (by decide +kernel)
theorem w_1dbdeba7d4 : Cond.selects yX12_learnt.cls yX12_learnt yX12_learnt ∈ wk := wk_of (in_t6 (List.mem_of_getElem? (i := 176) (by decide +kernel))) (by decide +kernel)
theorem w_24c759c84e : Cond.methodLink RL 149 yX11_sheet ∈ wk := wk_of (in_t4 (List.mem_of_getElem? (i := 117) (by decide +kernel))) (by decide +kernel)
theorem w_24dbf2db5a : Cond.code yX11_sheet cX11_sheet 4 (some .int) ∈ wk := wk_of (in_t4 (List.mem_of_getElem? (i := 120) (by decide +kernel))) (by decide +kernel)
theorem w_6a501878ee : Cond.instanceMethod yX11_sheet ∈ wk := wk_of (in_t4 (List.mem_of_getElem? (i := 118) (by decide +kernel))) (by decide +kernel)
theorem w_5abeb01b14 : Cond.selects yX11_sheet.cls yX11_sheet yX11_sheet ∈ wk := wk_of (in_t4 (List.mem_of_getElem? (i := 119) (by decide +kernel))) (by decide +kernel)
theorem w_913e49bdb8 : Cond.methodLink RL 152 yX12_sheet ∈ wk := wk_of (in_t6 (List.mem_of_getElem? (i := 190) (by decide +kernel))) (by decide +kernel)
theorem w_9704b19a42 : Cond.code yX12_sheet cX12_sheet 5 (some .int) ∈ wk := wk_of (in_t6 (List.mem_of_getElem? (i := 193) (by decide +kernel))) (by decide +kernel)
theorem w_71ab0a9288 : Cond.instanceMethod yX12_sheet ∈ wk := wk_of (in_t6 (List.mem_of_getElem? (i := 191) (by decide +kernel))) (by decide +kernel)
theorem w_e289096ab4 : Cond.selects yX12_sheet.cls yX12_sheet yX12_sheet ∈ wk := wk_of (in_t6 (List.mem_of_getElem? (i := 192) (by decide +kernel))) (by decide +kernel)
theorem w_46eea3a596 : Cond.methodLink RL 153 yX11_lose ∈ wk := wk_of (in_t4 (List.mem_of_getElem? (i := 134) (by decide +kernel))) (by decide +kernel)
theorem w_fb37313c0c : Cond.code yX11_lose cX11_lose 2 (some .int) ∈ wk := wk_of (in_t4 (List.mem_of_getElem? (i := 137) (by decide +kernel))) (by decide +kernel)
theorem w_0f8d330bed : Cond.instanceMethod yX11_lose ∈ wk := wk_of (in_t4 (List.mem_of_getElem? (i := 135) (by decide +kernel))) (by decide +kernel)
theorem w_f3a5603c3a : Cond.selects yX11_lose.cls yX11_lose yX11_lose ∈ wk := wk_of (in_t4 (List.mem_of_getElem? (i := 136) (by decide +kernel))) (by decide +kernel)
theorem w_13641c76cd : Cond.methodLink RL 156 yX12_lose ∈ wk := wk_of (in_t6 (List.mem_of_getElem? (i := 194) (by decide +kernel))) (by decide +kernel)
theorem w_2d32dc4a25 : Cond.code yX12_lose cX12_lose 2 (some .int) ∈ wk := wk_of (in_t6 (List.mem_of_getElem? (i := 197) (by decide +kernel))) (by decide +kernel)
theorem w_309b15f4d3 : Cond.instanceMethod yX12_lose ∈ wk := wk_of (in_t6 (List.mem_of_getElem? (i := 195) (by decide +kernel))) (by decide +kernel)
theorem w_703fc2dbcc : Cond.selects yX12_lose.cls yX12_lose yX12_lose ∈ wk := wk_of (in_t6 (List.mem_of_getElem? (i := 196) (by decide +kernel))) (by decide +kernel)
theorem w_3d2e6630c1 : Cond.methodLink RL 157 yX11_put ∈ wk := wk_of (in_t4 (List.mem_of_getElem? (i := 142) (by decide +kernel))) (by decide +kernel)
theorem w_3ba3a7c964 : Cond.code yX11_put cX11_put 6 (some .int) ∈ wk := wk_of (in_t4 (List.mem_of_getElem? (i := 145) (by decide +kernel))) (by decide +kernel)
theorem w_db9f396dae : Cond.instanceMethod yX11_put ∈ wk := wk_of (in_t4 (List.mem_of_getElem? (i := 143) (by decide +kernel))) (by decide +kernel)
theorem w_b567d70e2b : Cond.selects yX11_put.cls yX11_put yX11_put ∈ wk := wk_of (in_t4 (List.mem_of_getElem? (i := 144) (by decide +kernel))) (by decide +kernel)
theorem w_b8ba2f6a70 : Cond.methodLink RL 160 yX12_put ∈ wk := wk_of (in_t6 (List.mem_of_getElem? (i := 198) (by decide +kernel))) (by decide +kernel)
theorem w_28130c5cb1 : Cond.code yX12_put cX12_put 6 (some .int) ∈ wk := wk_of (in_t6 (List.mem_of_getElem? (i := 201) (by decide +kernel))) (by decide +kernel)
theorem w_a43b3d304e : Cond.instanceMethod yX12_put ∈ wk := wk_of (in_t6 (List.mem_of_getElem? (i := 199) (by decide +kernel))) (by decide +kernel)
theorem w_ba7239b00b : Cond.selects yX12_put.cls yX12_put yX12_put ∈ wk := wk_of (in_t6 (List.mem_of_getElem? (i := 200) (by decide +kernel))) (by decide +kernel)
theorem w_037610a2e3 : Cond.methodLink RL 161 yX11_get ∈ wk := wk_of (in_t4 (List.mem_of_getElem? (i := 158) (by decide +kernel))) (by decide +kernel)
theorem w_9122039632 : Cond.code yX11_get cX11_get 5 (some .int) ∈ wk := wk_of (in_t4 (List.mem_of_getElem? (i := 161) (by decide +kernel))) (by decide +kernel)
theorem w_e94b81ebbd : Cond.instanceMethod yX11_get ∈ wk := wk_of (in_t4 (List.mem_of_getElem? (i := 159) (by decide +kernel))) (by decide +kernel)
theorem w_83cf380d98 : Cond.selects yX11_get.cls yX11_get yX11_get ∈ wk := wk_of (in_t4 (List.mem_of_getElem? (i := 160) (by decide +kernel))) (by decide +kernel)
theorem w_df35e426d5 : Cond.methodLink RL 164 yX12_get ∈ wk := wk_of (in_t6 (List.mem_of_getElem? (i := 210) (by decide +kernel))) (by decide +kernel)
theorem w_da62bb317b : Cond.code yX12_get cX12_get 5 (some .int) ∈ wk := wk_of (in_t6 (List.mem_of_getElem? (i := 213) (by decide +kernel))) (by decide +kernel)
theorem w_842f9733bc : Cond.instanceMethod yX12_get ∈ wk := wk_of (in_t6 (List.mem_of_getElem? (i := 211) (by decide +kernel))) (by decide +kernel)
theorem w_a7a79ff94d : Cond.selects yX12_get.cls yX12_get yX12_get ∈ wk := wk_of (in_t6 (List.mem_of_getElem? (i := 212) (by decide +kernel))) (by decide +kernel)
theorem w_817e3fb647 : Cond.methodLink RL 165 yX11_copy ∈ wk := wk_of (in_t4 (List.mem_of_getElem? (i := 163) (by decide +kernel))) (by decide +kernel)
theorem w_8125c6f867 : Cond.code yX11_copy cX11_copy 6 (some .int) ∈ wk := wk_of (in_t4 (List.mem_of_getElem? (i := 166) (by decide +kernel))) (by decide +kernel)
theorem w_1bd560c330 : Cond.instanceMethod yX11_copy ∈ wk := wk_of (in_t4 (List.mem_of_getElem? (i := 164) (by decide +kernel))) (by decide +kernel)
theorem w_2e8bb2dcb1 : Cond.selects yX11_copy.cls yX11_copy yX11_copy ∈ wk := wk_of (in_t4 (List.mem_of_getElem? (i := 165) (by decide +kernel))) (by decide +kernel)
theorem w_4c96edbd7e : Cond.methodLink RL 168 yX12_copy ∈ wk := wk_of (in_t6 (List.mem_of_getElem? (i := 215) (by decide +kernel))) (by decide +kernel)
theorem w_39b71fa08f : Cond.code yX12_copy cX12_copy 7 (some .int) ∈ wk := wk_of (in_t6 (List.mem_of_getElem? (i := 218) (by decide +kernel))) (by decide +kernel)
theorem w_ea27683d5c : Cond.instanceMethod yX12_copy ∈ wk := wk_of (in_t6 (List.mem_of_getElem? (i := 216) (by decide +kernel))) (by decide +kernel)
theorem w_9ee5708237 : Cond.selects yX12_copy.cls yX12_copy yX12_copy ∈ wk := wk_of (in_t6 (List.mem_of_getElem? (i := 217) (by decide +kernel))) (by decide +kernel)
theorem w_ebb4bbef88 : Cond.methodLink RL 169 yX11_write ∈ wk := wk_of (in_t4 (List.mem_of_getElem? (i := 182) (by decide +kernel))) (by decide +kernel)
theorem w_6994e19fde : Cond.code yX11_write cX11_write 7 (some .int) ∈ wk := wk_of (in_t4 (List.mem_of_getElem? (i := 185) (by decide +kernel))) (by decide +kernel)
theorem w_2ec9ce0154 : Cond.instanceMethod yX11_write ∈ wk := wk_of (in_t4 (List.mem_of_getElem? (i := 183) (by decide +kernel))) (by decide +kernel)
theorem w_b6d726d899 : Cond.selects yX11_write.cls yX11_write yX11_write ∈ wk := wk_of (in_t4 (List.mem_of_getElem? (i := 184) (by decide +kernel))) (by decide +kernel)
theorem w_9fee0854dc : Cond.methodLink RL 172 yX12_write ∈ wk := wk_of (in_t6 (List.mem_of_getElem? (i := 219) (by decide +kernel))) (by decide +kernel)
theorem w_b6c0a31680 : Cond.code yX12_write cX12_write 6 (some .int) ∈ wk := wk_of (in_t6 (List.mem_of_getElem? (i := 222) (by decide +kernel))) (by decide +kernel)
theorem w_901012d71c : Cond.instanceMethod yX12_write ∈ wk := wk_of (in_t6 (List.mem_of_getElem? (i := 220) (by decide +kernel))) (by decide +kernel)
theorem w_a0407cafe2 : Cond.selects yX12_write.cls yX12_write yX12_write ∈ wk := wk_of (in_t6 (List.mem_of_getElem? (i := 221) (by decide +kernel))) (by decide +kernel)
theorem w_531b8d7aca : Cond.methodLink RL 173 yX11_count ∈ wk := wk_of (in_t4 (List.mem_of_getElem? (i := 188) (by decide +kernel))) (by decide +kernel)
theorem w_a43db5b15e : Cond.methodLink RL 176 yX12_count ∈ wk := wk_of (in_t6 (List.mem_of_getElem? (i := 223) (by decide +kernel))) (by decide +kernel)
theorem w_7cbaa950ab : Cond.methodLink RL 177 yX11_digest ∈ wk := wk_of (in_t4 (List.mem_of_getElem? (i := 196) (by decide +kernel))) (by decide +kernel)
theorem w_5962ce3cbb : Cond.code yX11_digest cX11_digest 4 (some .long) ∈ wk := wk_of (in_t4 (List.mem_of_getElem? (i := 199) (by decide +kernel))) (by decide +kernel)
theorem w_4e23667c57 : Cond.instanceMethod yX11_digest ∈ wk := wk_of (in_t4 (List.mem_of_getElem? (i := 197) (by decide +kernel))) (by decide +kernel)
theorem w_b13dc4d32c : Cond.selects yX11_digest.cls yX11_digest yX11_digest ∈ wk := wk_of (in_t4 (List.mem_of_getElem? (i := 198) (by decide +kernel))) (by decide +kernel)
theorem w_460f416709 : Cond.methodLink RL 181 yX12_digest ∈ wk := wk_of (in_t6 (List.mem_of_getElem? (i := 231) (by decide +kernel))) (by decide +kernel)
theorem w_f47244f7ad : Cond.code yX12_digest cX12_digest 5 (some .long) ∈ wk := wk_of (in_t6 (List.mem_of_getElem? (i := 234) (by decide +kernel))) (by decide +kernel)
theorem w_bd206e2611 : Cond.instanceMethod yX12_digest ∈ wk := wk_of (in_t6 (List.mem_of_getElem? (i := 232) (by decide +kernel))) (by decide +kernel)
theorem w_8d74097f8e : Cond.selects yX12_digest.cls yX12_digest yX12_digest ∈ wk := wk_of (in_t6 (List.mem_of_getElem? (i := 233) (by decide +kernel))) (by decide +kernel)
theorem w_d400283c75 : Cond.instantiable RX11 12 ∈ wk := wk_of (in_t1 (List.mem_of_getElem? (i := 19) (by decide +kernel))) (by decide +kernel)
theorem w_12905663a4 : Cond.instantiable RX12 41 ∈ wk := wk_of (in_t4 (List.mem_of_getElem? (i := 230) (by decide +kernel))) (by decide +kernel)
theorem w_6ca83b9ca9 : Cond.classLink RL 7 RX11 ∈ wk := wk_of (in_t1 (List.mem_of_getElem? (i := 18) (by decide +kernel))) (by decide +kernel)
theorem w_04996f854c : Cond.code yX11_init cX11_init 1 (none) ∈ wk := wk_of (in_t1 (List.mem_of_getElem? (i := 22) (by decide +kernel))) (by decide +kernel)
theorem w_1255aa19d6 : Cond.methodLink RL 9 yX11_init ∈ wk := wk_of (in_t1 (List.mem_of_getElem? (i := 20) (by decide +kernel))) (by decide +kernel)
theorem w_34df89531c : Cond.instanceMethod yX11_init ∈ wk := wk_of (in_t1 (List.mem_of_getElem? (i := 21) (by decide +kernel))) (by decide +kernel)
theorem w_114db70941 : Cond.classLink RL 10 RX12 ∈ wk := wk_of (in_t4 (List.mem_of_getElem? (i := 229) (by decide +kernel))) (by decide +kernel)
theorem w_7c3a94c326 : Cond.code yX12_init cX12_init 2 (none) ∈ wk := wk_of (in_t4 (List.mem_of_getElem? (i := 233) (by decide +kernel))) (by decide +kernel)
theorem w_782cd66eed : Cond.methodLink RL 12 yX12_init ∈ wk := wk_of (in_t4 (List.mem_of_getElem? (i := 231) (by decide +kernel))) (by decide +kernel)
theorem w_e9f417361b : Cond.instanceMethod yX12_init ∈ wk := wk_of (in_t4 (List.mem_of_getElem? (i := 232) (by decide +kernel))) (by decide +kernel)
section law
variable {p : Program} {l : Launch} {e : Env} {R : Room} {s : State} {m : MethodId} {args : Array Value} {below : List Frame} {meth : Method} {c : Code} {H : Heap} {locs : List Loc} {Q : State → Prop} {cc : ByteArray} {own : String} {nL : Nat} {ret : Option FieldType} {dC : Nat → ClassId} {dI : Nat → Nat → Nat} {ad bd : Nat → Nat} {cI cZ : ClassId} {C D C' D' : Mem} {pc cells slots : Nat} {ls : Array Slot} {rest : List Value} {A : Nat → Prop}
theorem lcall_i {y : MethodName} {bytes : ByteArray} {maxL n index : Nat} {rt : Option FieldType} {rm : Room} {r : Int32} {lvl : List (Nat × Value)} {b : Nat} (As : List Value) (X : Cx p s m args meth c cc own nL ret dC dI ad bd cI cZ) (hP : va_P (dC, dI) vwCl (wl ad bd cI cZ C D) H) (hS : va_S A s.heap H locs) (hAD : ∀ q, AD ad bd q → A q) (hM : Ct l dC dI ad bd cI cZ y bytes maxL rt rm (.ref b :: As) C D (some (.int r)) C' D') (sw : SwV own index y bytes maxL rt n) (hrc : ∃ cell : Cell, H[b]? = some cell ∧ cell.vm.isStatics = false ∧ s.vm.findClass y.cls = some cell.cls) (hn : As.length = n) (hR : RmOk rm R maxL) (hl : lv_has ls nL lvl) {st0 : List Value} (hst : st0 = As.reverse ++ .ref b :: rest) (hW : (rest.map fun v => v.category).sum ≤ 8) (hdg : decode cc pc = .ok (.invokevirtual index, 3)) (hcs : cells ≤ R.cells ∧ slots ≤ R.slots)
    (kk : ∀ (H1 : Heap) (locs1 : List Loc), va_P (dC, dI) vwCl (wl ad bd cI cZ C' D') H1 → va_S A s.heap H1 locs1 → W p l e R s m args below meth c H1 locs1 cells slots Q (F0 m (pc + 3) ls (.int r :: rest))) : W p l e R s m args below meth c H locs cells slots Q (F0 m pc ls st0) := by
  subst hst
  have hr := va_runV (As := As) (rest := rest) (H := H) (locs := locs) (cells := cells) (slots := slots) (below := below) (meth := meth) (e := e) (g := F0 m pc ls (As.reverse ++ .ref b :: rest)) ⟨X.1, X.2.1, X.2.2.1, X.2.2.2.1, X.2.2.2.2.1⟩ hM ⟨callB_of (ws := .code y bytes maxL rt :: wk) n X.2.2.2.2.1 (wk_in sw.2.1) rfl hR.1 hR.2.1 (X.2.2.2.2.1 _ sw.2.2.1) (X.2.2.2.2.1 _ sw.1) sw.2.2.2.2.2 ⟨hR.2.2.1, hR.2.2.2⟩, (X.2.2.2.2.1 _ sw.2.2.2.1), (X.2.2.2.2.1 _ sw.2.2.2.2.1)⟩ ⟨wd_blind, hrc, fun U hU hW => ⟨rfl, by rw [hU]; exact hP, va_K.moved hW.alike X.2.2.2.2.2.2.2.1, X.2.2.2.2.2.2.2.2.1, nk_warm hW X.2.2.2.2.2.2.2.2.2⟩⟩ rfl hn hl.1 rfl (lv_room hW) hdg hcs
  intro T hT X1
  obtain ⟨v, st₀, t, T', L, h0, X', hL, e1, e2, ⟨hv, hb, hz, hk⟩, st⟩ := hr T hT X1
  cases hv
  rw [h0] at hz hk
  obtain ⟨t2, a1, b1⟩ := kk T'.heap (locs ++ L) (by rw [e1]; exact hb)
    ⟨Nat.le_trans hS.1 (by rw [e1]; exact hz), fun q h1 h2 => by rw [e1, hk q (Nat.lt_of_lt_of_le h1 hS.1) (fun z => h2 (hAD q z))]; exact hS.2.1 q h1 h2, fun q hq => by
      rcases List.mem_append.mp hq with h | h
      · exact hS.2.2 q h
      · exact hAD _ (hL q h)⟩ T' rfl X'
  exact ⟨t2, st t2 a1, b1⟩
theorem lcall_l {y : MethodName} {bytes : ByteArray} {maxL n index : Nat} {rt : Option FieldType} {rm : Room} {r : Int64} {lvl : List (Nat × Value)} {b : Nat} (As : List Value) (X : Cx p s m args meth c cc own nL ret dC dI ad bd cI cZ) (hP : va_P (dC, dI) vwCl (wl ad bd cI cZ C D) H) (hS : va_S A s.heap H locs) (hAD : ∀ q, AD ad bd q → A q) (hM : Ct l dC dI ad bd cI cZ y bytes maxL rt rm (.ref b :: As) C D (some (.long r)) C' D') (sw : SwV own index y bytes maxL rt n) (hrc : ∃ cell : Cell, H[b]? = some cell ∧ cell.vm.isStatics = false ∧ s.vm.findClass y.cls = some cell.cls) (hn : As.length = n) (hR : RmOk rm R maxL) (hl : lv_has ls nL lvl) {st0 : List Value} (hst : st0 = As.reverse ++ .ref b :: rest) (hW : (rest.map fun v => v.category).sum ≤ 8) (hdg : decode cc pc = .ok (.invokevirtual index, 3)) (hcs : cells ≤ R.cells ∧ slots ≤ R.slots)
    (kk : ∀ (H1 : Heap) (locs1 : List Loc), va_P (dC, dI) vwCl (wl ad bd cI cZ C' D') H1 → va_S A s.heap H1 locs1 → W p l e R s m args below meth c H1 locs1 cells slots Q (F0 m (pc + 3) ls (.long r :: rest))) : W p l e R s m args below meth c H locs cells slots Q (F0 m pc ls st0) := by
  subst hst
  have hr := va_runV (As := As) (rest := rest) (H := H) (locs := locs) (cells := cells) (slots := slots) (below := below) (meth := meth) (e := e) (g := F0 m pc ls (As.reverse ++ .ref b :: rest)) ⟨X.1, X.2.1, X.2.2.1, X.2.2.2.1, X.2.2.2.2.1⟩ hM ⟨callB_of (ws := .code y bytes maxL rt :: wk) n X.2.2.2.2.1 (wk_in sw.2.1) rfl hR.1 hR.2.1 (X.2.2.2.2.1 _ sw.2.2.1) (X.2.2.2.2.1 _ sw.1) sw.2.2.2.2.2 ⟨hR.2.2.1, hR.2.2.2⟩, (X.2.2.2.2.1 _ sw.2.2.2.1), (X.2.2.2.2.1 _ sw.2.2.2.2.1)⟩ ⟨wd_blind, hrc, fun U hU hW => ⟨rfl, by rw [hU]; exact hP, va_K.moved hW.alike X.2.2.2.2.2.2.2.1, X.2.2.2.2.2.2.2.2.1, nk_warm hW X.2.2.2.2.2.2.2.2.2⟩⟩ rfl hn hl.1 rfl (lv_room hW) hdg hcs
  intro T hT X1
  obtain ⟨v, st₀, t, T', L, h0, X', hL, e1, e2, ⟨hv, hb, hz, hk⟩, st⟩ := hr T hT X1
  cases hv
  rw [h0] at hz hk
  obtain ⟨t2, a1, b1⟩ := kk T'.heap (locs ++ L) (by rw [e1]; exact hb)
    ⟨Nat.le_trans hS.1 (by rw [e1]; exact hz), fun q h1 h2 => by rw [e1, hk q (Nat.lt_of_lt_of_le h1 hS.1) (fun z => h2 (hAD q z))]; exact hS.2.1 q h1 h2, fun q hq => by
      rcases List.mem_append.mp hq with h | h
      · exact hS.2.2 q h
      · exact hAD _ (hL q h)⟩ T' rfl X'
  exact ⟨t2, st t2 a1, b1⟩
theorem lg_self (r : Int64) : lg_cmp r r = 0 := by
  unfold lg_cmp
  rw [if_neg (by exact Int64.lt_irrefl), if_pos rfl]
theorem sc_in {i L n : Nat} {k : Int32} (hi : i + 6 ≤ L) (hL : L ≤ 3072) (hk : k = nI n) (hn : n < 6) : vp_in (nI i + k) L := by
  rw [hk, nI_add]
  exact vp_in_nI (by omega) (by omega)
theorem rcX (X : Cx p s m args meth c cc own nL ret dC dI ad bd cI cZ) (hP : va_P (dC, dI) vwCl (wl ad bd cI cZ C D) H) : ∃ cell : Cell, H[ad 0]? = some cell ∧ cell.vm.isStatics = false ∧ s.vm.findClass RX11 = some cell.cls := va_recv X.2.2.2.2.2.2.2.1 hP (ci := 11) (q0 := 0) (fs := [.ref (ad 1), .ref (ad 8), .ref (ad 11), .ref (ad 14), .ref (ad 18), .ref (ad 22), .ref (ad 30), .ref (ad 32), .ref (ad 36), .ref (ad 38), .ref (ad 40), .ref (ad 43)]) rfl (by rw [wl_c ad bd cI cZ C D (by decide)]; rfl)
theorem rcM (X : Cx p s m args meth c cc own nL ret dC dI ad bd cI cZ) (hP : va_P (dC, dI) vwCl (wl ad bd cI cZ C D) H) : ∃ cell : Cell, H[bd 0]? = some cell ∧ cell.vm.isStatics = false ∧ s.vm.findClass RX12 = some cell.cls := by
  obtain ⟨fs, hfs⟩ : ∃ fs, cellM bd cI cZ 0 (D 0) = .inr (12, fs) := ⟨_, rfl⟩
  exact va_recv X.2.2.2.2.2.2.2.1 hP (ci := 12) (q0 := 47 + 0) (fs := fs) rfl (by rw [wl_m ad bd cI cZ C D (by decide), hfs])
set_option maxHeartbeats 4000000 in
set_option maxRecDepth 100000 in
theorem law_0 {b L i : Nat} {xs : Nat → Int32} (X : Cx p s m #[Value.ref b] meth c cL_law RL 4 (some .boolean) dC dI ad bd cI cZ) (hAD : ∀ q, AD ad bd q → s.heap.size ≤ q) (hX : va_X b L xs s s.heap) (hbl : b < s.heap.size) (hL : L ≤ 3072) (hi : i + 6 ≤ L) (hI : Inv C D) (hP : va_P (dC, dI) vwCl (wl ad bd cI cZ C D) H) (hS : va_S (fun q => s.heap.size ≤ q) s.heap H locs) (hl : lv_has ls 4 [(0, .ref b), (1, .ref (ad 0)), (2, .ref (bd 0)), (3, .int (nI i))]) (K : ∀ (C D : Mem) (H : Heap) (locs : List Loc) (ls : Array Slot), Inv C D → va_P (dC, dI) vwCl (wl ad bd cI cZ C D) H → va_S (fun q => s.heap.size ≤ q) s.heap H locs → lv_has ls 4 [(0, .ref b), (1, .ref (ad 0)), (2, .ref (bd 0)), (3, .int (nI i))] → W p l e room_1 s m #[Value.ref b] below meth c H locs 78 3498 (lw_Z below #[Value.ref b] s) (F0 m 1575 ls [])) : W p l e room_1 s m #[Value.ref b] below meth c H locs 78 3498 (lw_Z below #[Value.ref b] s) (F0 m 33 ls [.int 0]) := by
  have hx := X.1
  have hb := X.2.1
  have hbA : ¬ (fun q => s.heap.size ≤ q) b := Nat.not_le.mpr hbl
  obtain ⟨r, C1, D1, e1, e2, hI1⟩ := ok_pair hI (xs (nI i + 1).toNatClampNeg) (xs (nI i + 2).toNatClampNeg) (xs (nI i + 3).toNatClampNeg) (xs (nI i + 4).toNatClampNeg) (xs (nI i + 5).toNatClampNeg)
  refine lv_tableIn (pc := 33) (x := 0) (tgt := 208) hx hb dL_law_33 (by decide) (by decide) rfl (by decide) ?_
  refine lv_aload_n (pc := 208) hx hb dL_law_208 rfl (lv_at hl 1 rfl) ?_
  refine lv_aload_n (pc := 209) hx hb dL_law_209 rfl (lv_at hl 0 rfl) ?_
  refine lv_iload_n (pc := 210) hx hb dL_law_210 rfl (lv_at hl 3 rfl) ?_
  refine lv_iconst (pc := 211) (v := 1) hx hb dL_law_211 (by decide) ?_
  refine lv_iadd (pc := 212) hx hb dL_law_212 ?_
  refine va_sld (pc := 213) hx hb hX hbl hbA hS (sc_in (n := 1) hi hL rfl (by decide)) dL_law_213 ?_
  refine lv_aload_n (pc := 214) hx hb dL_law_214 rfl (lv_at hl 0 rfl) ?_
  refine lv_iload_n (pc := 215) hx hb dL_law_215 rfl (lv_at hl 3 rfl) ?_
  refine lv_iconst (pc := 216) (v := 2) hx hb dL_law_216 (by decide) ?_
  refine lv_iadd (pc := 217) hx hb dL_law_217 ?_
  refine va_sld (pc := 218) hx hb hX hbl hbA hS (sc_in (n := 2) hi hL rfl (by decide)) dL_law_218 ?_
  refine lv_aload_n (pc := 219) hx hb dL_law_219 rfl (lv_at hl 0 rfl) ?_
  refine lv_iload_n (pc := 220) hx hb dL_law_220 rfl (lv_at hl 3 rfl) ?_
  refine lv_iconst (pc := 221) (v := 3) hx hb dL_law_221 (by decide) ?_
  refine lv_iadd (pc := 222) hx hb dL_law_222 ?_
  refine va_sld (pc := 223) hx hb hX hbl hbA hS (sc_in (n := 3) hi hL rfl (by decide)) dL_law_223 ?_
  refine lv_aload_n (pc := 224) hx hb dL_law_224 rfl (lv_at hl 0 rfl) ?_
  refine lv_iload_n (pc := 225) hx hb dL_law_225 rfl (lv_at hl 3 rfl) ?_
  refine lv_iconst (pc := 226) (v := 4) hx hb dL_law_226 (by decide) ?_
  refine lv_iadd (pc := 227) hx hb dL_law_227 ?_
  refine va_sld (pc := 228) hx hb hX hbl hbA hS (sc_in (n := 4) hi hL rfl (by decide)) dL_law_228 ?_
  refine lv_aload_n (pc := 229) hx hb dL_law_229 rfl (lv_at hl 0 rfl) ?_
  refine lv_iload_n (pc := 230) hx hb dL_law_230 rfl (lv_at hl 3 rfl) ?_
  refine lv_iconst (pc := 231) (v := 5) hx hb dL_law_231 (by decide) ?_
  refine lv_iadd (pc := 232) hx hb dL_law_232 ?_
  refine va_sld (pc := 233) hx hb hX hbl hbA hS (sc_in (n := 5) hi hL rfl (by decide)) dL_law_233 ?_
  refine lcall_i (pc := 234) (n := 5) (rest := []) [.int (xs (nI i + 1).toNatClampNeg), .int (xs (nI i + 2).toNatClampNeg), .int (xs (nI i + 3).toNatClampNeg), .int (xs (nI i + 4).toNatClampNeg), .int (xs (nI i + 5).toNatClampNeg)] X hP hS hAD (c_X11_pair (xs (nI i + 1).toNatClampNeg) (xs (nI i + 2).toNatClampNeg) (xs (nI i + 3).toNatClampNeg) (xs (nI i + 4).toNatClampNeg) (xs (nI i + 5).toNatClampNeg) e1) ⟨w_f889c4a421, w_6d4a5a7f76, w_e7edaf7143, w_3d68235cd4, w_a3ae6048aa, ⟨by decide, by decide, by decide +kernel⟩⟩ (rcX X hP) rfl ⟨rfl, rfl, Nat.le_of_ble_eq_true rfl, Nat.le_of_ble_eq_true rfl⟩ hl rfl (Nat.le_of_ble_eq_true rfl) dL_law_234 ⟨Nat.le_of_ble_eq_true rfl, Nat.le_of_ble_eq_true rfl⟩ (fun H locs hP hS => ?_)
  refine lv_aload_n (pc := 237) hx hb dL_law_237 rfl (lv_at hl 2 rfl) ?_
  refine lv_aload_n (pc := 238) hx hb dL_law_238 rfl (lv_at hl 0 rfl) ?_
  refine lv_iload_n (pc := 239) hx hb dL_law_239 rfl (lv_at hl 3 rfl) ?_
  refine lv_iconst (pc := 240) (v := 1) hx hb dL_law_240 (by decide) ?_
  refine lv_iadd (pc := 241) hx hb dL_law_241 ?_
  refine va_sld (pc := 242) hx hb hX hbl hbA hS (sc_in (n := 1) hi hL rfl (by decide)) dL_law_242 ?_
  refine lv_aload_n (pc := 243) hx hb dL_law_243 rfl (lv_at hl 0 rfl) ?_
  refine lv_iload_n (pc := 244) hx hb dL_law_244 rfl (lv_at hl 3 rfl) ?_
  refine lv_iconst (pc := 245) (v := 2) hx hb dL_law_245 (by decide) ?_
  refine lv_iadd (pc := 246) hx hb dL_law_246 ?_
  refine va_sld (pc := 247) hx hb hX hbl hbA hS (sc_in (n := 2) hi hL rfl (by decide)) dL_law_247 ?_
  refine lv_aload_n (pc := 248) hx hb dL_law_248 rfl (lv_at hl 0 rfl) ?_
  refine lv_iload_n (pc := 249) hx hb dL_law_249 rfl (lv_at hl 3 rfl) ?_
  refine lv_iconst (pc := 250) (v := 3) hx hb dL_law_250 (by decide) ?_
  refine lv_iadd (pc := 251) hx hb dL_law_251 ?_
  refine va_sld (pc := 252) hx hb hX hbl hbA hS (sc_in (n := 3) hi hL rfl (by decide)) dL_law_252 ?_
  refine lv_aload_n (pc := 253) hx hb dL_law_253 rfl (lv_at hl 0 rfl) ?_
  refine lv_iload_n (pc := 254) hx hb dL_law_254 rfl (lv_at hl 3 rfl) ?_
  refine lv_iconst (pc := 255) (v := 4) hx hb dL_law_255 (by decide) ?_
  refine lv_iadd (pc := 256) hx hb dL_law_256 ?_
  refine va_sld (pc := 257) hx hb hX hbl hbA hS (sc_in (n := 4) hi hL rfl (by decide)) dL_law_257 ?_
  refine lv_aload_n (pc := 258) hx hb dL_law_258 rfl (lv_at hl 0 rfl) ?_
  refine lv_iload_n (pc := 259) hx hb dL_law_259 rfl (lv_at hl 3 rfl) ?_
  refine lv_iconst (pc := 260) (v := 5) hx hb dL_law_260 (by decide) ?_
  refine lv_iadd (pc := 261) hx hb dL_law_261 ?_
  refine va_sld (pc := 262) hx hb hX hbl hbA hS (sc_in (n := 5) hi hL rfl (by decide)) dL_law_262 ?_
  refine lcall_i (pc := 263) (n := 5) (rest := [.int r]) [.int (xs (nI i + 1).toNatClampNeg), .int (xs (nI i + 2).toNatClampNeg), .int (xs (nI i + 3).toNatClampNeg), .int (xs (nI i + 4).toNatClampNeg), .int (xs (nI i + 5).toNatClampNeg)] X hP hS hAD (c_X12_pair (xs (nI i + 1).toNatClampNeg) (xs (nI i + 2).toNatClampNeg) (xs (nI i + 3).toNatClampNeg) (xs (nI i + 4).toNatClampNeg) (xs (nI i + 5).toNatClampNeg) e2) ⟨w_116bf6364d, w_9ce455fbda, w_f82d25fae7, w_939202b678, w_3d91e0d7bc, ⟨by decide, by decide, by decide +kernel⟩⟩ (rcM X hP) rfl ⟨rfl, rfl, Nat.le_of_ble_eq_true rfl, Nat.le_of_ble_eq_true rfl⟩ hl rfl (Nat.le_of_ble_eq_true rfl) dL_law_263 ⟨Nat.le_of_ble_eq_true rfl, Nat.le_of_ble_eq_true rfl⟩ (fun H locs hP hS => ?_)
  refine lv_icmp_eq (pc := 266) (tgt := 1575) hx hb dL_law_266 (by decide) (fun _ => ?_) (fun c9 => absurd rfl c9)
  exact K _ _ H locs ls hI1 hP hS hl
set_option maxHeartbeats 4000000 in
set_option maxRecDepth 100000 in
theorem law_1 {b L i : Nat} {xs : Nat → Int32} (X : Cx p s m #[Value.ref b] meth c cL_law RL 4 (some .boolean) dC dI ad bd cI cZ) (hAD : ∀ q, AD ad bd q → s.heap.size ≤ q) (hX : va_X b L xs s s.heap) (hbl : b < s.heap.size) (hL : L ≤ 3072) (hi : i + 6 ≤ L) (hI : Inv C D) (hP : va_P (dC, dI) vwCl (wl ad bd cI cZ C D) H) (hS : va_S (fun q => s.heap.size ≤ q) s.heap H locs) (hl : lv_has ls 4 [(0, .ref b), (1, .ref (ad 0)), (2, .ref (bd 0)), (3, .int (nI i))]) (K : ∀ (C D : Mem) (H : Heap) (locs : List Loc) (ls : Array Slot), Inv C D → va_P (dC, dI) vwCl (wl ad bd cI cZ C D) H → va_S (fun q => s.heap.size ≤ q) s.heap H locs → lv_has ls 4 [(0, .ref b), (1, .ref (ad 0)), (2, .ref (bd 0)), (3, .int (nI i))] → W p l e room_1 s m #[Value.ref b] below meth c H locs 78 3498 (lw_Z below #[Value.ref b] s) (F0 m 1575 ls [])) : W p l e room_1 s m #[Value.ref b] below meth c H locs 78 3498 (lw_Z below #[Value.ref b] s) (F0 m 33 ls [.int 1]) := by
  have hx := X.1
  have hb := X.2.1
  have hbA : ¬ (fun q => s.heap.size ≤ q) b := Nat.not_le.mpr hbl
  obtain ⟨r, C1, D1, e1, e2, hI1⟩ := ok_read hI (xs (nI i + 1).toNatClampNeg) (xs (nI i + 2).toNatClampNeg) (xs (nI i + 3).toNatClampNeg) (xs (nI i + 4).toNatClampNeg)
  refine lv_tableIn (pc := 33) (x := 1) (tgt := 271) hx hb dL_law_33 (by decide) (by decide) rfl (by decide) ?_
  refine lv_aload_n (pc := 271) hx hb dL_law_271 rfl (lv_at hl 1 rfl) ?_
  refine lv_aload_n (pc := 272) hx hb dL_law_272 rfl (lv_at hl 0 rfl) ?_
  refine lv_iload_n (pc := 273) hx hb dL_law_273 rfl (lv_at hl 3 rfl) ?_
  refine lv_iconst (pc := 274) (v := 1) hx hb dL_law_274 (by decide) ?_
  refine lv_iadd (pc := 275) hx hb dL_law_275 ?_
  refine va_sld (pc := 276) hx hb hX hbl hbA hS (sc_in (n := 1) hi hL rfl (by decide)) dL_law_276 ?_
  refine lv_aload_n (pc := 277) hx hb dL_law_277 rfl (lv_at hl 0 rfl) ?_
  refine lv_iload_n (pc := 278) hx hb dL_law_278 rfl (lv_at hl 3 rfl) ?_
  refine lv_iconst (pc := 279) (v := 2) hx hb dL_law_279 (by decide) ?_
  refine lv_iadd (pc := 280) hx hb dL_law_280 ?_
  refine va_sld (pc := 281) hx hb hX hbl hbA hS (sc_in (n := 2) hi hL rfl (by decide)) dL_law_281 ?_
  refine lv_aload_n (pc := 282) hx hb dL_law_282 rfl (lv_at hl 0 rfl) ?_
  refine lv_iload_n (pc := 283) hx hb dL_law_283 rfl (lv_at hl 3 rfl) ?_
  refine lv_iconst (pc := 284) (v := 3) hx hb dL_law_284 (by decide) ?_
  refine lv_iadd (pc := 285) hx hb dL_law_285 ?_
  refine va_sld (pc := 286) hx hb hX hbl hbA hS (sc_in (n := 3) hi hL rfl (by decide)) dL_law_286 ?_
  refine lv_aload_n (pc := 287) hx hb dL_law_287 rfl (lv_at hl 0 rfl) ?_
  refine lv_iload_n (pc := 288) hx hb dL_law_288 rfl (lv_at hl 3 rfl) ?_
  refine lv_iconst (pc := 289) (v := 4) hx hb dL_law_289 (by decide) ?_
  refine lv_iadd (pc := 290) hx hb dL_law_290 ?_
  refine va_sld (pc := 291) hx hb hX hbl hbA hS (sc_in (n := 4) hi hL rfl (by decide)) dL_law_291 ?_
  refine lcall_i (pc := 292) (n := 4) (rest := []) [.int (xs (nI i + 1).toNatClampNeg), .int (xs (nI i + 2).toNatClampNeg), .int (xs (nI i + 3).toNatClampNeg), .int (xs (nI i + 4).toNatClampNeg)] X hP hS hAD (c_X11_read (xs (nI i + 1).toNatClampNeg) (xs (nI i + 2).toNatClampNeg) (xs (nI i + 3).toNatClampNeg) (xs (nI i + 4).toNatClampNeg) e1) ⟨w_e234e5e44c, w_34a16dc946, w_e7edaf7143, w_96d2ec3716, w_7195164d91, ⟨by decide, by decide, by decide +kernel⟩⟩ (rcX X hP) rfl ⟨rfl, rfl, Nat.le_of_ble_eq_true rfl, Nat.le_of_ble_eq_true rfl⟩ hl rfl (Nat.le_of_ble_eq_true rfl) dL_law_292 ⟨Nat.le_of_ble_eq_true rfl, Nat.le_of_ble_eq_true rfl⟩ (fun H locs hP hS => ?_)
  refine lv_aload_n (pc := 295) hx hb dL_law_295 rfl (lv_at hl 2 rfl) ?_
  refine lv_aload_n (pc := 296) hx hb dL_law_296 rfl (lv_at hl 0 rfl) ?_
  refine lv_iload_n (pc := 297) hx hb dL_law_297 rfl (lv_at hl 3 rfl) ?_
  refine lv_iconst (pc := 298) (v := 1) hx hb dL_law_298 (by decide) ?_
  refine lv_iadd (pc := 299) hx hb dL_law_299 ?_
  refine va_sld (pc := 300) hx hb hX hbl hbA hS (sc_in (n := 1) hi hL rfl (by decide)) dL_law_300 ?_
  refine lv_aload_n (pc := 301) hx hb dL_law_301 rfl (lv_at hl 0 rfl) ?_
  refine lv_iload_n (pc := 302) hx hb dL_law_302 rfl (lv_at hl 3 rfl) ?_
  refine lv_iconst (pc := 303) (v := 2) hx hb dL_law_303 (by decide) ?_
  refine lv_iadd (pc := 304) hx hb dL_law_304 ?_
  refine va_sld (pc := 305) hx hb hX hbl hbA hS (sc_in (n := 2) hi hL rfl (by decide)) dL_law_305 ?_
  refine lv_aload_n (pc := 306) hx hb dL_law_306 rfl (lv_at hl 0 rfl) ?_
  refine lv_iload_n (pc := 307) hx hb dL_law_307 rfl (lv_at hl 3 rfl) ?_
  refine lv_iconst (pc := 308) (v := 3) hx hb dL_law_308 (by decide) ?_
  refine lv_iadd (pc := 309) hx hb dL_law_309 ?_
  refine va_sld (pc := 310) hx hb hX hbl hbA hS (sc_in (n := 3) hi hL rfl (by decide)) dL_law_310 ?_
  refine lv_aload_n (pc := 311) hx hb dL_law_311 rfl (lv_at hl 0 rfl) ?_
  refine lv_iload_n (pc := 312) hx hb dL_law_312 rfl (lv_at hl 3 rfl) ?_
  refine lv_iconst (pc := 313) (v := 4) hx hb dL_law_313 (by decide) ?_
  refine lv_iadd (pc := 314) hx hb dL_law_314 ?_
  refine va_sld (pc := 315) hx hb hX hbl hbA hS (sc_in (n := 4) hi hL rfl (by decide)) dL_law_315 ?_
  refine lcall_i (pc := 316) (n := 4) (rest := [.int r]) [.int (xs (nI i + 1).toNatClampNeg), .int (xs (nI i + 2).toNatClampNeg), .int (xs (nI i + 3).toNatClampNeg), .int (xs (nI i + 4).toNatClampNeg)] X hP hS hAD (c_X12_read (xs (nI i + 1).toNatClampNeg) (xs (nI i + 2).toNatClampNeg) (xs (nI i + 3).toNatClampNeg) (xs (nI i + 4).toNatClampNeg) e2) ⟨w_23084d7087, w_dbac8fe11f, w_f82d25fae7, w_226132efc1, w_e0ba95ea28, ⟨by decide, by decide, by decide +kernel⟩⟩ (rcM X hP) rfl ⟨rfl, rfl, Nat.le_of_ble_eq_true rfl, Nat.le_of_ble_eq_true rfl⟩ hl rfl (Nat.le_of_ble_eq_true rfl) dL_law_316 ⟨Nat.le_of_ble_eq_true rfl, Nat.le_of_ble_eq_true rfl⟩ (fun H locs hP hS => ?_)
  refine lv_icmp_eq (pc := 319) (tgt := 1575) hx hb dL_law_319 (by decide) (fun _ => ?_) (fun c9 => absurd rfl c9)
  exact K _ _ H locs ls hI1 hP hS hl
set_option maxHeartbeats 4000000 in
set_option maxRecDepth 100000 in
theorem law_2 {b L i : Nat} {xs : Nat → Int32} (X : Cx p s m #[Value.ref b] meth c cL_law RL 4 (some .boolean) dC dI ad bd cI cZ) (hAD : ∀ q, AD ad bd q → s.heap.size ≤ q) (hX : va_X b L xs s s.heap) (hbl : b < s.heap.size) (hL : L ≤ 3072) (hi : i + 6 ≤ L) (hI : Inv C D) (hP : va_P (dC, dI) vwCl (wl ad bd cI cZ C D) H) (hS : va_S (fun q => s.heap.size ≤ q) s.heap H locs) (hl : lv_has ls 4 [(0, .ref b), (1, .ref (ad 0)), (2, .ref (bd 0)), (3, .int (nI i))]) (K : ∀ (C D : Mem) (H : Heap) (locs : List Loc) (ls : Array Slot), Inv C D → va_P (dC, dI) vwCl (wl ad bd cI cZ C D) H → va_S (fun q => s.heap.size ≤ q) s.heap H locs → lv_has ls 4 [(0, .ref b), (1, .ref (ad 0)), (2, .ref (bd 0)), (3, .int (nI i))] → W p l e room_1 s m #[Value.ref b] below meth c H locs 78 3498 (lw_Z below #[Value.ref b] s) (F0 m 1575 ls [])) : W p l e room_1 s m #[Value.ref b] below meth c H locs 78 3498 (lw_Z below #[Value.ref b] s) (F0 m 33 ls [.int 2]) := by
  have hx := X.1
  have hb := X.2.1
  have hbA : ¬ (fun q => s.heap.size ≤ q) b := Nat.not_le.mpr hbl
  obtain ⟨r, C1, D1, e1, e2, hI1⟩ := ok_takeBack hI (xs (nI i + 1).toNatClampNeg) (xs (nI i + 2).toNatClampNeg)
  refine lv_tableIn (pc := 33) (x := 2) (tgt := 324) hx hb dL_law_33 (by decide) (by decide) rfl (by decide) ?_
  refine lv_aload_n (pc := 324) hx hb dL_law_324 rfl (lv_at hl 1 rfl) ?_
  refine lv_aload_n (pc := 325) hx hb dL_law_325 rfl (lv_at hl 0 rfl) ?_
  refine lv_iload_n (pc := 326) hx hb dL_law_326 rfl (lv_at hl 3 rfl) ?_
  refine lv_iconst (pc := 327) (v := 1) hx hb dL_law_327 (by decide) ?_
  refine lv_iadd (pc := 328) hx hb dL_law_328 ?_
  refine va_sld (pc := 329) hx hb hX hbl hbA hS (sc_in (n := 1) hi hL rfl (by decide)) dL_law_329 ?_
  refine lv_aload_n (pc := 330) hx hb dL_law_330 rfl (lv_at hl 0 rfl) ?_
  refine lv_iload_n (pc := 331) hx hb dL_law_331 rfl (lv_at hl 3 rfl) ?_
  refine lv_iconst (pc := 332) (v := 2) hx hb dL_law_332 (by decide) ?_
  refine lv_iadd (pc := 333) hx hb dL_law_333 ?_
  refine va_sld (pc := 334) hx hb hX hbl hbA hS (sc_in (n := 2) hi hL rfl (by decide)) dL_law_334 ?_
  refine lcall_i (pc := 335) (n := 2) (rest := []) [.int (xs (nI i + 1).toNatClampNeg), .int (xs (nI i + 2).toNatClampNeg)] X hP hS hAD (c_X11_takeBack (xs (nI i + 1).toNatClampNeg) (xs (nI i + 2).toNatClampNeg) e1) ⟨w_8cc5676f5f, w_f186118b49, w_e7edaf7143, w_596b97d1e9, w_d74c3f5012, ⟨by decide, by decide, by decide +kernel⟩⟩ (rcX X hP) rfl ⟨rfl, rfl, Nat.le_of_ble_eq_true rfl, Nat.le_of_ble_eq_true rfl⟩ hl rfl (Nat.le_of_ble_eq_true rfl) dL_law_335 ⟨Nat.le_of_ble_eq_true rfl, Nat.le_of_ble_eq_true rfl⟩ (fun H locs hP hS => ?_)
  refine lv_aload_n (pc := 338) hx hb dL_law_338 rfl (lv_at hl 2 rfl) ?_
  refine lv_aload_n (pc := 339) hx hb dL_law_339 rfl (lv_at hl 0 rfl) ?_
  refine lv_iload_n (pc := 340) hx hb dL_law_340 rfl (lv_at hl 3 rfl) ?_
  refine lv_iconst (pc := 341) (v := 1) hx hb dL_law_341 (by decide) ?_
  refine lv_iadd (pc := 342) hx hb dL_law_342 ?_
  refine va_sld (pc := 343) hx hb hX hbl hbA hS (sc_in (n := 1) hi hL rfl (by decide)) dL_law_343 ?_
  refine lv_aload_n (pc := 344) hx hb dL_law_344 rfl (lv_at hl 0 rfl) ?_
  refine lv_iload_n (pc := 345) hx hb dL_law_345 rfl (lv_at hl 3 rfl) ?_
  refine lv_iconst (pc := 346) (v := 2) hx hb dL_law_346 (by decide) ?_
  refine lv_iadd (pc := 347) hx hb dL_law_347 ?_
  refine va_sld (pc := 348) hx hb hX hbl hbA hS (sc_in (n := 2) hi hL rfl (by decide)) dL_law_348 ?_
  refine lcall_i (pc := 349) (n := 2) (rest := [.int r]) [.int (xs (nI i + 1).toNatClampNeg), .int (xs (nI i + 2).toNatClampNeg)] X hP hS hAD (c_X12_takeBack (xs (nI i + 1).toNatClampNeg) (xs (nI i + 2).toNatClampNeg) e2) ⟨w_58a096df78, w_96c7ea7dca, w_f82d25fae7, w_365346cd95, w_ba99bfcc5c, ⟨by decide, by decide, by decide +kernel⟩⟩ (rcM X hP) rfl ⟨rfl, rfl, Nat.le_of_ble_eq_true rfl, Nat.le_of_ble_eq_true rfl⟩ hl rfl (Nat.le_of_ble_eq_true rfl) dL_law_349 ⟨Nat.le_of_ble_eq_true rfl, Nat.le_of_ble_eq_true rfl⟩ (fun H locs hP hS => ?_)
  refine lv_icmp_eq (pc := 352) (tgt := 1575) hx hb dL_law_352 (by decide) (fun _ => ?_) (fun c9 => absurd rfl c9)
  exact K _ _ H locs ls hI1 hP hS hl
set_option maxHeartbeats 4000000 in
set_option maxRecDepth 100000 in
theorem law_3 {b L i : Nat} {xs : Nat → Int32} (X : Cx p s m #[Value.ref b] meth c cL_law RL 4 (some .boolean) dC dI ad bd cI cZ) (hAD : ∀ q, AD ad bd q → s.heap.size ≤ q) (hX : va_X b L xs s s.heap) (hbl : b < s.heap.size) (hL : L ≤ 3072) (hi : i + 6 ≤ L) (hI : Inv C D) (hP : va_P (dC, dI) vwCl (wl ad bd cI cZ C D) H) (hS : va_S (fun q => s.heap.size ≤ q) s.heap H locs) (hl : lv_has ls 4 [(0, .ref b), (1, .ref (ad 0)), (2, .ref (bd 0)), (3, .int (nI i))]) (K : ∀ (C D : Mem) (H : Heap) (locs : List Loc) (ls : Array Slot), Inv C D → va_P (dC, dI) vwCl (wl ad bd cI cZ C D) H → va_S (fun q => s.heap.size ≤ q) s.heap H locs → lv_has ls 4 [(0, .ref b), (1, .ref (ad 0)), (2, .ref (bd 0)), (3, .int (nI i))] → W p l e room_1 s m #[Value.ref b] below meth c H locs 78 3498 (lw_Z below #[Value.ref b] s) (F0 m 1575 ls [])) : W p l e room_1 s m #[Value.ref b] below meth c H locs 78 3498 (lw_Z below #[Value.ref b] s) (F0 m 33 ls [.int 3]) := by
  have hx := X.1
  have hb := X.2.1
  have hbA : ¬ (fun q => s.heap.size ≤ q) b := Nat.not_le.mpr hbl
  obtain ⟨r, C1, D1, e1, e2, hI1⟩ := ok_asOf hI (xs (nI i + 1).toNatClampNeg)
  refine lv_tableIn (pc := 33) (x := 3) (tgt := 357) hx hb dL_law_33 (by decide) (by decide) rfl (by decide) ?_
  refine lv_aload_n (pc := 357) hx hb dL_law_357 rfl (lv_at hl 1 rfl) ?_
  refine lv_aload_n (pc := 358) hx hb dL_law_358 rfl (lv_at hl 0 rfl) ?_
  refine lv_iload_n (pc := 359) hx hb dL_law_359 rfl (lv_at hl 3 rfl) ?_
  refine lv_iconst (pc := 360) (v := 1) hx hb dL_law_360 (by decide) ?_
  refine lv_iadd (pc := 361) hx hb dL_law_361 ?_
  refine va_sld (pc := 362) hx hb hX hbl hbA hS (sc_in (n := 1) hi hL rfl (by decide)) dL_law_362 ?_
  refine lcall_i (pc := 363) (n := 1) (rest := []) [.int (xs (nI i + 1).toNatClampNeg)] X hP hS hAD (c_X11_asOf (xs (nI i + 1).toNatClampNeg) e1) ⟨w_445b7659bc, w_0c3fe5975c, w_e7edaf7143, w_21cadfdf35, w_2a30002e9b, ⟨by decide, by decide, by decide +kernel⟩⟩ (rcX X hP) rfl ⟨rfl, rfl, Nat.le_of_ble_eq_true rfl, Nat.le_of_ble_eq_true rfl⟩ hl rfl (Nat.le_of_ble_eq_true rfl) dL_law_363 ⟨Nat.le_of_ble_eq_true rfl, Nat.le_of_ble_eq_true rfl⟩ (fun H locs hP hS => ?_)
  refine lv_aload_n (pc := 366) hx hb dL_law_366 rfl (lv_at hl 2 rfl) ?_
  refine lv_aload_n (pc := 367) hx hb dL_law_367 rfl (lv_at hl 0 rfl) ?_
  refine lv_iload_n (pc := 368) hx hb dL_law_368 rfl (lv_at hl 3 rfl) ?_
  refine lv_iconst (pc := 369) (v := 1) hx hb dL_law_369 (by decide) ?_
  refine lv_iadd (pc := 370) hx hb dL_law_370 ?_
  refine va_sld (pc := 371) hx hb hX hbl hbA hS (sc_in (n := 1) hi hL rfl (by decide)) dL_law_371 ?_
  refine lcall_i (pc := 372) (n := 1) (rest := [.int r]) [.int (xs (nI i + 1).toNatClampNeg)] X hP hS hAD (c_X12_asOf (xs (nI i + 1).toNatClampNeg) e2) ⟨w_0bee5fcdd6, w_19a333e1f9, w_f82d25fae7, w_e77b4971e9, w_603f795272, ⟨by decide, by decide, by decide +kernel⟩⟩ (rcM X hP) rfl ⟨rfl, rfl, Nat.le_of_ble_eq_true rfl, Nat.le_of_ble_eq_true rfl⟩ hl rfl (Nat.le_of_ble_eq_true rfl) dL_law_372 ⟨Nat.le_of_ble_eq_true rfl, Nat.le_of_ble_eq_true rfl⟩ (fun H locs hP hS => ?_)
  refine lv_icmp_eq (pc := 375) (tgt := 1575) hx hb dL_law_375 (by decide) (fun _ => ?_) (fun c9 => absurd rfl c9)
  exact K _ _ H locs ls hI1 hP hS hl
set_option maxHeartbeats 4000000 in
set_option maxRecDepth 100000 in
theorem law_4 {b L i : Nat} {xs : Nat → Int32} (X : Cx p s m #[Value.ref b] meth c cL_law RL 4 (some .boolean) dC dI ad bd cI cZ) (hAD : ∀ q, AD ad bd q → s.heap.size ≤ q) (hX : va_X b L xs s s.heap) (hbl : b < s.heap.size) (hL : L ≤ 3072) (hi : i + 6 ≤ L) (hI : Inv C D) (hP : va_P (dC, dI) vwCl (wl ad bd cI cZ C D) H) (hS : va_S (fun q => s.heap.size ≤ q) s.heap H locs) (hl : lv_has ls 4 [(0, .ref b), (1, .ref (ad 0)), (2, .ref (bd 0)), (3, .int (nI i))]) (K : ∀ (C D : Mem) (H : Heap) (locs : List Loc) (ls : Array Slot), Inv C D → va_P (dC, dI) vwCl (wl ad bd cI cZ C D) H → va_S (fun q => s.heap.size ≤ q) s.heap H locs → lv_has ls 4 [(0, .ref b), (1, .ref (ad 0)), (2, .ref (bd 0)), (3, .int (nI i))] → W p l e room_1 s m #[Value.ref b] below meth c H locs 78 3498 (lw_Z below #[Value.ref b] s) (F0 m 1575 ls [])) : W p l e room_1 s m #[Value.ref b] below meth c H locs 78 3498 (lw_Z below #[Value.ref b] s) (F0 m 33 ls [.int 4]) := by
  have hx := X.1
  have hb := X.2.1
  have hbA : ¬ (fun q => s.heap.size ≤ q) b := Nat.not_le.mpr hbl
  obtain ⟨r, C1, e1, e2, hI1⟩ := ok_many hI (xs (nI i + 1).toNatClampNeg) (xs (nI i + 2).toNatClampNeg) (xs (nI i + 3).toNatClampNeg)
  refine lv_tableIn (pc := 33) (x := 4) (tgt := 380) hx hb dL_law_33 (by decide) (by decide) rfl (by decide) ?_
  refine lv_aload_n (pc := 380) hx hb dL_law_380 rfl (lv_at hl 1 rfl) ?_
  refine lv_aload_n (pc := 381) hx hb dL_law_381 rfl (lv_at hl 0 rfl) ?_
  refine lv_iload_n (pc := 382) hx hb dL_law_382 rfl (lv_at hl 3 rfl) ?_
  refine lv_iconst (pc := 383) (v := 1) hx hb dL_law_383 (by decide) ?_
  refine lv_iadd (pc := 384) hx hb dL_law_384 ?_
  refine va_sld (pc := 385) hx hb hX hbl hbA hS (sc_in (n := 1) hi hL rfl (by decide)) dL_law_385 ?_
  refine lv_aload_n (pc := 386) hx hb dL_law_386 rfl (lv_at hl 0 rfl) ?_
  refine lv_iload_n (pc := 387) hx hb dL_law_387 rfl (lv_at hl 3 rfl) ?_
  refine lv_iconst (pc := 388) (v := 2) hx hb dL_law_388 (by decide) ?_
  refine lv_iadd (pc := 389) hx hb dL_law_389 ?_
  refine va_sld (pc := 390) hx hb hX hbl hbA hS (sc_in (n := 2) hi hL rfl (by decide)) dL_law_390 ?_
  refine lv_aload_n (pc := 391) hx hb dL_law_391 rfl (lv_at hl 0 rfl) ?_
  refine lv_iload_n (pc := 392) hx hb dL_law_392 rfl (lv_at hl 3 rfl) ?_
  refine lv_iconst (pc := 393) (v := 3) hx hb dL_law_393 (by decide) ?_
  refine lv_iadd (pc := 394) hx hb dL_law_394 ?_
  refine va_sld (pc := 395) hx hb hX hbl hbA hS (sc_in (n := 3) hi hL rfl (by decide)) dL_law_395 ?_
  refine lcall_i (pc := 396) (n := 3) (rest := []) [.int (xs (nI i + 1).toNatClampNeg), .int (xs (nI i + 2).toNatClampNeg), .int (xs (nI i + 3).toNatClampNeg)] X hP hS hAD (c_X11_many (xs (nI i + 1).toNatClampNeg) (xs (nI i + 2).toNatClampNeg) (xs (nI i + 3).toNatClampNeg) e1) ⟨w_ddc010f18e, w_653fe39a58, w_e7edaf7143, w_53c12fe23f, w_844a4f4cde, ⟨by decide, by decide, by decide +kernel⟩⟩ (rcX X hP) rfl ⟨rfl, rfl, Nat.le_of_ble_eq_true rfl, Nat.le_of_ble_eq_true rfl⟩ hl rfl (Nat.le_of_ble_eq_true rfl) dL_law_396 ⟨Nat.le_of_ble_eq_true rfl, Nat.le_of_ble_eq_true rfl⟩ (fun H locs hP hS => ?_)
  refine lv_aload_n (pc := 399) hx hb dL_law_399 rfl (lv_at hl 2 rfl) ?_
  refine lv_aload_n (pc := 400) hx hb dL_law_400 rfl (lv_at hl 0 rfl) ?_
  refine lv_iload_n (pc := 401) hx hb dL_law_401 rfl (lv_at hl 3 rfl) ?_
  refine lv_iconst (pc := 402) (v := 1) hx hb dL_law_402 (by decide) ?_
  refine lv_iadd (pc := 403) hx hb dL_law_403 ?_
  refine va_sld (pc := 404) hx hb hX hbl hbA hS (sc_in (n := 1) hi hL rfl (by decide)) dL_law_404 ?_
  refine lv_aload_n (pc := 405) hx hb dL_law_405 rfl (lv_at hl 0 rfl) ?_
  refine lv_iload_n (pc := 406) hx hb dL_law_406 rfl (lv_at hl 3 rfl) ?_
  refine lv_iconst (pc := 407) (v := 2) hx hb dL_law_407 (by decide) ?_
  refine lv_iadd (pc := 408) hx hb dL_law_408 ?_
  refine va_sld (pc := 409) hx hb hX hbl hbA hS (sc_in (n := 2) hi hL rfl (by decide)) dL_law_409 ?_
  refine lv_aload_n (pc := 410) hx hb dL_law_410 rfl (lv_at hl 0 rfl) ?_
  refine lv_iload_n (pc := 411) hx hb dL_law_411 rfl (lv_at hl 3 rfl) ?_
  refine lv_iconst (pc := 412) (v := 3) hx hb dL_law_412 (by decide) ?_
  refine lv_iadd (pc := 413) hx hb dL_law_413 ?_
  refine va_sld (pc := 414) hx hb hX hbl hbA hS (sc_in (n := 3) hi hL rfl (by decide)) dL_law_414 ?_
  refine lcall_i (pc := 415) (n := 3) (rest := [.int r]) [.int (xs (nI i + 1).toNatClampNeg), .int (xs (nI i + 2).toNatClampNeg), .int (xs (nI i + 3).toNatClampNeg)] X hP hS hAD (c_X12_many (xs (nI i + 1).toNatClampNeg) (xs (nI i + 2).toNatClampNeg) (xs (nI i + 3).toNatClampNeg) e2) ⟨w_20a553c525, w_513a0b5cdc, w_f82d25fae7, w_c6267da91b, w_580a77cedd, ⟨by decide, by decide, by decide +kernel⟩⟩ (rcM X hP) rfl ⟨rfl, rfl, Nat.le_of_ble_eq_true rfl, Nat.le_of_ble_eq_true rfl⟩ hl rfl (Nat.le_of_ble_eq_true rfl) dL_law_415 ⟨Nat.le_of_ble_eq_true rfl, Nat.le_of_ble_eq_true rfl⟩ (fun H locs hP hS => ?_)
  refine lv_icmp_eq (pc := 418) (tgt := 1575) hx hb dL_law_418 (by decide) (fun _ => ?_) (fun c9 => absurd rfl c9)
  exact K _ _ H locs ls hI1 hP hS hl
set_option maxHeartbeats 4000000 in
set_option maxRecDepth 100000 in
theorem law_5 {b L i : Nat} {xs : Nat → Int32} (X : Cx p s m #[Value.ref b] meth c cL_law RL 4 (some .boolean) dC dI ad bd cI cZ) (hAD : ∀ q, AD ad bd q → s.heap.size ≤ q) (hX : va_X b L xs s s.heap) (hbl : b < s.heap.size) (hL : L ≤ 3072) (hi : i + 6 ≤ L) (hI : Inv C D) (hP : va_P (dC, dI) vwCl (wl ad bd cI cZ C D) H) (hS : va_S (fun q => s.heap.size ≤ q) s.heap H locs) (hl : lv_has ls 4 [(0, .ref b), (1, .ref (ad 0)), (2, .ref (bd 0)), (3, .int (nI i))]) (K : ∀ (C D : Mem) (H : Heap) (locs : List Loc) (ls : Array Slot), Inv C D → va_P (dC, dI) vwCl (wl ad bd cI cZ C D) H → va_S (fun q => s.heap.size ≤ q) s.heap H locs → lv_has ls 4 [(0, .ref b), (1, .ref (ad 0)), (2, .ref (bd 0)), (3, .int (nI i))] → W p l e room_1 s m #[Value.ref b] below meth c H locs 78 3498 (lw_Z below #[Value.ref b] s) (F0 m 1575 ls [])) : W p l e room_1 s m #[Value.ref b] below meth c H locs 78 3498 (lw_Z below #[Value.ref b] s) (F0 m 33 ls [.int 5]) := by
  have hx := X.1
  have hb := X.2.1
  have hbA : ¬ (fun q => s.heap.size ≤ q) b := Nat.not_le.mpr hbl
  obtain ⟨r, C1, e1, e2, hI1⟩ := ok_mean hI (xs (nI i + 1).toNatClampNeg) (xs (nI i + 2).toNatClampNeg) (xs (nI i + 3).toNatClampNeg)
  refine lv_tableIn (pc := 33) (x := 5) (tgt := 423) hx hb dL_law_33 (by decide) (by decide) rfl (by decide) ?_
  refine lv_aload_n (pc := 423) hx hb dL_law_423 rfl (lv_at hl 1 rfl) ?_
  refine lv_aload_n (pc := 424) hx hb dL_law_424 rfl (lv_at hl 0 rfl) ?_
  refine lv_iload_n (pc := 425) hx hb dL_law_425 rfl (lv_at hl 3 rfl) ?_
  refine lv_iconst (pc := 426) (v := 1) hx hb dL_law_426 (by decide) ?_
  refine lv_iadd (pc := 427) hx hb dL_law_427 ?_
  refine va_sld (pc := 428) hx hb hX hbl hbA hS (sc_in (n := 1) hi hL rfl (by decide)) dL_law_428 ?_
  refine lv_aload_n (pc := 429) hx hb dL_law_429 rfl (lv_at hl 0 rfl) ?_
  refine lv_iload_n (pc := 430) hx hb dL_law_430 rfl (lv_at hl 3 rfl) ?_
  refine lv_iconst (pc := 431) (v := 2) hx hb dL_law_431 (by decide) ?_
  refine lv_iadd (pc := 432) hx hb dL_law_432 ?_
  refine va_sld (pc := 433) hx hb hX hbl hbA hS (sc_in (n := 2) hi hL rfl (by decide)) dL_law_433 ?_
  refine lv_aload_n (pc := 434) hx hb dL_law_434 rfl (lv_at hl 0 rfl) ?_
  refine lv_iload_n (pc := 435) hx hb dL_law_435 rfl (lv_at hl 3 rfl) ?_
  refine lv_iconst (pc := 436) (v := 3) hx hb dL_law_436 (by decide) ?_
  refine lv_iadd (pc := 437) hx hb dL_law_437 ?_
  refine va_sld (pc := 438) hx hb hX hbl hbA hS (sc_in (n := 3) hi hL rfl (by decide)) dL_law_438 ?_
  refine lcall_l (pc := 439) (n := 3) (rest := []) [.int (xs (nI i + 1).toNatClampNeg), .int (xs (nI i + 2).toNatClampNeg), .int (xs (nI i + 3).toNatClampNeg)] X hP hS hAD (c_X11_mean (xs (nI i + 1).toNatClampNeg) (xs (nI i + 2).toNatClampNeg) (xs (nI i + 3).toNatClampNeg) e1) ⟨w_5393a95b8f, w_543a897261, w_e7edaf7143, w_96e57413b5, w_5336e56bd3, ⟨by decide, by decide, by decide +kernel⟩⟩ (rcX X hP) rfl ⟨rfl, rfl, Nat.le_of_ble_eq_true rfl, Nat.le_of_ble_eq_true rfl⟩ hl rfl (Nat.le_of_ble_eq_true rfl) dL_law_439 ⟨Nat.le_of_ble_eq_true rfl, Nat.le_of_ble_eq_true rfl⟩ (fun H locs hP hS => ?_)
  refine lv_aload_n (pc := 442) hx hb dL_law_442 rfl (lv_at hl 2 rfl) ?_
  refine lv_aload_n (pc := 443) hx hb dL_law_443 rfl (lv_at hl 0 rfl) ?_
  refine lv_iload_n (pc := 444) hx hb dL_law_444 rfl (lv_at hl 3 rfl) ?_
  refine lv_iconst (pc := 445) (v := 1) hx hb dL_law_445 (by decide) ?_
  refine lv_iadd (pc := 446) hx hb dL_law_446 ?_
  refine va_sld (pc := 447) hx hb hX hbl hbA hS (sc_in (n := 1) hi hL rfl (by decide)) dL_law_447 ?_
  refine lv_aload_n (pc := 448) hx hb dL_law_448 rfl (lv_at hl 0 rfl) ?_
  refine lv_iload_n (pc := 449) hx hb dL_law_449 rfl (lv_at hl 3 rfl) ?_
  refine lv_iconst (pc := 450) (v := 2) hx hb dL_law_450 (by decide) ?_
  refine lv_iadd (pc := 451) hx hb dL_law_451 ?_
  refine va_sld (pc := 452) hx hb hX hbl hbA hS (sc_in (n := 2) hi hL rfl (by decide)) dL_law_452 ?_
  refine lv_aload_n (pc := 453) hx hb dL_law_453 rfl (lv_at hl 0 rfl) ?_
  refine lv_iload_n (pc := 454) hx hb dL_law_454 rfl (lv_at hl 3 rfl) ?_
  refine lv_iconst (pc := 455) (v := 3) hx hb dL_law_455 (by decide) ?_
  refine lv_iadd (pc := 456) hx hb dL_law_456 ?_
  refine va_sld (pc := 457) hx hb hX hbl hbA hS (sc_in (n := 3) hi hL rfl (by decide)) dL_law_457 ?_
  refine lcall_l (pc := 458) (n := 3) (rest := [.long r]) [.int (xs (nI i + 1).toNatClampNeg), .int (xs (nI i + 2).toNatClampNeg), .int (xs (nI i + 3).toNatClampNeg)] X hP hS hAD (c_X12_mean (xs (nI i + 1).toNatClampNeg) (xs (nI i + 2).toNatClampNeg) (xs (nI i + 3).toNatClampNeg) e2) ⟨w_1c0537a7ed, w_9711522f95, w_f82d25fae7, w_4b07db92e5, w_263ba6c564, ⟨by decide, by decide, by decide +kernel⟩⟩ (rcM X hP) rfl ⟨rfl, rfl, Nat.le_of_ble_eq_true rfl, Nat.le_of_ble_eq_true rfl⟩ hl rfl (Nat.le_of_ble_eq_true rfl) dL_law_458 ⟨Nat.le_of_ble_eq_true rfl, Nat.le_of_ble_eq_true rfl⟩ (fun H locs hP hS => ?_)
  refine W.lcmp (pc := 461) hx hb dL_law_461 ?_
  refine lv_if_eq (pc := 462) (tgt := 1575) hx hb dL_law_462 (by decide) (fun _ => ?_) (fun c9 => absurd (lg_self r) c9)
  exact K _ _ H locs ls hI1 hP hS hl
set_option maxHeartbeats 4000000 in
set_option maxRecDepth 100000 in
theorem law_6 {b L i : Nat} {xs : Nat → Int32} (X : Cx p s m #[Value.ref b] meth c cL_law RL 4 (some .boolean) dC dI ad bd cI cZ) (hAD : ∀ q, AD ad bd q → s.heap.size ≤ q) (hX : va_X b L xs s s.heap) (hbl : b < s.heap.size) (hL : L ≤ 3072) (hi : i + 6 ≤ L) (hI : Inv C D) (hP : va_P (dC, dI) vwCl (wl ad bd cI cZ C D) H) (hS : va_S (fun q => s.heap.size ≤ q) s.heap H locs) (hl : lv_has ls 4 [(0, .ref b), (1, .ref (ad 0)), (2, .ref (bd 0)), (3, .int (nI i))]) (K : ∀ (C D : Mem) (H : Heap) (locs : List Loc) (ls : Array Slot), Inv C D → va_P (dC, dI) vwCl (wl ad bd cI cZ C D) H → va_S (fun q => s.heap.size ≤ q) s.heap H locs → lv_has ls 4 [(0, .ref b), (1, .ref (ad 0)), (2, .ref (bd 0)), (3, .int (nI i))] → W p l e room_1 s m #[Value.ref b] below meth c H locs 78 3498 (lw_Z below #[Value.ref b] s) (F0 m 1575 ls [])) : W p l e room_1 s m #[Value.ref b] below meth c H locs 78 3498 (lw_Z below #[Value.ref b] s) (F0 m 33 ls [.int 6]) := by
  have hx := X.1
  have hb := X.2.1
  have hbA : ¬ (fun q => s.heap.size ≤ q) b := Nat.not_le.mpr hbl
  obtain ⟨r, C1, e1, e2, hI1⟩ := ok_refused hI (xs (nI i + 1).toNatClampNeg) (xs (nI i + 2).toNatClampNeg) (xs (nI i + 3).toNatClampNeg) (xs (nI i + 4).toNatClampNeg)
  refine lv_tableIn (pc := 33) (x := 6) (tgt := 467) hx hb dL_law_33 (by decide) (by decide) rfl (by decide) ?_
  refine lv_aload_n (pc := 467) hx hb dL_law_467 rfl (lv_at hl 1 rfl) ?_
  refine lv_aload_n (pc := 468) hx hb dL_law_468 rfl (lv_at hl 0 rfl) ?_
  refine lv_iload_n (pc := 469) hx hb dL_law_469 rfl (lv_at hl 3 rfl) ?_
  refine lv_iconst (pc := 470) (v := 1) hx hb dL_law_470 (by decide) ?_
  refine lv_iadd (pc := 471) hx hb dL_law_471 ?_
  refine va_sld (pc := 472) hx hb hX hbl hbA hS (sc_in (n := 1) hi hL rfl (by decide)) dL_law_472 ?_
  refine lv_aload_n (pc := 473) hx hb dL_law_473 rfl (lv_at hl 0 rfl) ?_
  refine lv_iload_n (pc := 474) hx hb dL_law_474 rfl (lv_at hl 3 rfl) ?_
  refine lv_iconst (pc := 475) (v := 2) hx hb dL_law_475 (by decide) ?_
  refine lv_iadd (pc := 476) hx hb dL_law_476 ?_
  refine va_sld (pc := 477) hx hb hX hbl hbA hS (sc_in (n := 2) hi hL rfl (by decide)) dL_law_477 ?_
  refine lv_aload_n (pc := 478) hx hb dL_law_478 rfl (lv_at hl 0 rfl) ?_
  refine lv_iload_n (pc := 479) hx hb dL_law_479 rfl (lv_at hl 3 rfl) ?_
  refine lv_iconst (pc := 480) (v := 3) hx hb dL_law_480 (by decide) ?_
  refine lv_iadd (pc := 481) hx hb dL_law_481 ?_
  refine va_sld (pc := 482) hx hb hX hbl hbA hS (sc_in (n := 3) hi hL rfl (by decide)) dL_law_482 ?_
  refine lv_aload_n (pc := 483) hx hb dL_law_483 rfl (lv_at hl 0 rfl) ?_
  refine lv_iload_n (pc := 484) hx hb dL_law_484 rfl (lv_at hl 3 rfl) ?_
  refine lv_iconst (pc := 485) (v := 4) hx hb dL_law_485 (by decide) ?_
  refine lv_iadd (pc := 486) hx hb dL_law_486 ?_
  refine va_sld (pc := 487) hx hb hX hbl hbA hS (sc_in (n := 4) hi hL rfl (by decide)) dL_law_487 ?_
  refine lcall_l (pc := 488) (n := 4) (rest := []) [.int (xs (nI i + 1).toNatClampNeg), .int (xs (nI i + 2).toNatClampNeg), .int (xs (nI i + 3).toNatClampNeg), .int (xs (nI i + 4).toNatClampNeg)] X hP hS hAD (c_X11_refused (xs (nI i + 1).toNatClampNeg) (xs (nI i + 2).toNatClampNeg) (xs (nI i + 3).toNatClampNeg) (xs (nI i + 4).toNatClampNeg) e1) ⟨w_1375b7b262, w_be22d4f891, w_e7edaf7143, w_08c234d2ce, w_f749def9c4, ⟨by decide, by decide, by decide +kernel⟩⟩ (rcX X hP) rfl ⟨rfl, rfl, Nat.le_of_ble_eq_true rfl, Nat.le_of_ble_eq_true rfl⟩ hl rfl (Nat.le_of_ble_eq_true rfl) dL_law_488 ⟨Nat.le_of_ble_eq_true rfl, Nat.le_of_ble_eq_true rfl⟩ (fun H locs hP hS => ?_)
  refine lv_aload_n (pc := 491) hx hb dL_law_491 rfl (lv_at hl 2 rfl) ?_
  refine lv_aload_n (pc := 492) hx hb dL_law_492 rfl (lv_at hl 0 rfl) ?_
  refine lv_iload_n (pc := 493) hx hb dL_law_493 rfl (lv_at hl 3 rfl) ?_
  refine lv_iconst (pc := 494) (v := 1) hx hb dL_law_494 (by decide) ?_
  refine lv_iadd (pc := 495) hx hb dL_law_495 ?_
  refine va_sld (pc := 496) hx hb hX hbl hbA hS (sc_in (n := 1) hi hL rfl (by decide)) dL_law_496 ?_
  refine lv_aload_n (pc := 497) hx hb dL_law_497 rfl (lv_at hl 0 rfl) ?_
  refine lv_iload_n (pc := 498) hx hb dL_law_498 rfl (lv_at hl 3 rfl) ?_
  refine lv_iconst (pc := 499) (v := 2) hx hb dL_law_499 (by decide) ?_
  refine lv_iadd (pc := 500) hx hb dL_law_500 ?_
  refine va_sld (pc := 501) hx hb hX hbl hbA hS (sc_in (n := 2) hi hL rfl (by decide)) dL_law_501 ?_
  refine lv_aload_n (pc := 502) hx hb dL_law_502 rfl (lv_at hl 0 rfl) ?_
  refine lv_iload_n (pc := 503) hx hb dL_law_503 rfl (lv_at hl 3 rfl) ?_
  refine lv_iconst (pc := 504) (v := 3) hx hb dL_law_504 (by decide) ?_
  refine lv_iadd (pc := 505) hx hb dL_law_505 ?_
  refine va_sld (pc := 506) hx hb hX hbl hbA hS (sc_in (n := 3) hi hL rfl (by decide)) dL_law_506 ?_
  refine lv_aload_n (pc := 507) hx hb dL_law_507 rfl (lv_at hl 0 rfl) ?_
  refine lv_iload_n (pc := 508) hx hb dL_law_508 rfl (lv_at hl 3 rfl) ?_
  refine lv_iconst (pc := 509) (v := 4) hx hb dL_law_509 (by decide) ?_
  refine lv_iadd (pc := 510) hx hb dL_law_510 ?_
  refine va_sld (pc := 511) hx hb hX hbl hbA hS (sc_in (n := 4) hi hL rfl (by decide)) dL_law_511 ?_
  refine lcall_l (pc := 512) (n := 4) (rest := [.long r]) [.int (xs (nI i + 1).toNatClampNeg), .int (xs (nI i + 2).toNatClampNeg), .int (xs (nI i + 3).toNatClampNeg), .int (xs (nI i + 4).toNatClampNeg)] X hP hS hAD (c_X12_refused (xs (nI i + 1).toNatClampNeg) (xs (nI i + 2).toNatClampNeg) (xs (nI i + 3).toNatClampNeg) (xs (nI i + 4).toNatClampNeg) e2) ⟨w_4bf879607e, w_9e5cd01c98, w_f82d25fae7, w_77ed5478da, w_4f75001083, ⟨by decide, by decide, by decide +kernel⟩⟩ (rcM X hP) rfl ⟨rfl, rfl, Nat.le_of_ble_eq_true rfl, Nat.le_of_ble_eq_true rfl⟩ hl rfl (Nat.le_of_ble_eq_true rfl) dL_law_512 ⟨Nat.le_of_ble_eq_true rfl, Nat.le_of_ble_eq_true rfl⟩ (fun H locs hP hS => ?_)
  refine W.lcmp (pc := 515) hx hb dL_law_515 ?_
  refine lv_if_eq (pc := 516) (tgt := 1575) hx hb dL_law_516 (by decide) (fun _ => ?_) (fun c9 => absurd (lg_self r) c9)
  exact K _ _ H locs ls hI1 hP hS hl
set_option maxHeartbeats 4000000 in
set_option maxRecDepth 100000 in
theorem law_7 {b L i : Nat} {xs : Nat → Int32} (X : Cx p s m #[Value.ref b] meth c cL_law RL 4 (some .boolean) dC dI ad bd cI cZ) (hAD : ∀ q, AD ad bd q → s.heap.size ≤ q) (hX : va_X b L xs s s.heap) (hbl : b < s.heap.size) (hL : L ≤ 3072) (hi : i + 6 ≤ L) (hI : Inv C D) (hP : va_P (dC, dI) vwCl (wl ad bd cI cZ C D) H) (hS : va_S (fun q => s.heap.size ≤ q) s.heap H locs) (hl : lv_has ls 4 [(0, .ref b), (1, .ref (ad 0)), (2, .ref (bd 0)), (3, .int (nI i))]) (K : ∀ (C D : Mem) (H : Heap) (locs : List Loc) (ls : Array Slot), Inv C D → va_P (dC, dI) vwCl (wl ad bd cI cZ C D) H → va_S (fun q => s.heap.size ≤ q) s.heap H locs → lv_has ls 4 [(0, .ref b), (1, .ref (ad 0)), (2, .ref (bd 0)), (3, .int (nI i))] → W p l e room_1 s m #[Value.ref b] below meth c H locs 78 3498 (lw_Z below #[Value.ref b] s) (F0 m 1575 ls [])) : W p l e room_1 s m #[Value.ref b] below meth c H locs 78 3498 (lw_Z below #[Value.ref b] s) (F0 m 33 ls [.int 7]) := by
  have hx := X.1
  have hb := X.2.1
  have hbA : ¬ (fun q => s.heap.size ≤ q) b := Nat.not_le.mpr hbl
  obtain ⟨r, C1, e1, e2, hI1⟩ := ok_moves hI (xs (nI i + 1).toNatClampNeg) (xs (nI i + 2).toNatClampNeg) (xs (nI i + 3).toNatClampNeg)
  refine lv_tableIn (pc := 33) (x := 7) (tgt := 521) hx hb dL_law_33 (by decide) (by decide) rfl (by decide) ?_
  refine lv_aload_n (pc := 521) hx hb dL_law_521 rfl (lv_at hl 1 rfl) ?_
  refine lv_aload_n (pc := 522) hx hb dL_law_522 rfl (lv_at hl 0 rfl) ?_
  refine lv_iload_n (pc := 523) hx hb dL_law_523 rfl (lv_at hl 3 rfl) ?_
  refine lv_iconst (pc := 524) (v := 1) hx hb dL_law_524 (by decide) ?_
  refine lv_iadd (pc := 525) hx hb dL_law_525 ?_
  refine va_sld (pc := 526) hx hb hX hbl hbA hS (sc_in (n := 1) hi hL rfl (by decide)) dL_law_526 ?_
  refine lv_aload_n (pc := 527) hx hb dL_law_527 rfl (lv_at hl 0 rfl) ?_
  refine lv_iload_n (pc := 528) hx hb dL_law_528 rfl (lv_at hl 3 rfl) ?_
  refine lv_iconst (pc := 529) (v := 2) hx hb dL_law_529 (by decide) ?_
  refine lv_iadd (pc := 530) hx hb dL_law_530 ?_
  refine va_sld (pc := 531) hx hb hX hbl hbA hS (sc_in (n := 2) hi hL rfl (by decide)) dL_law_531 ?_
  refine lv_aload_n (pc := 532) hx hb dL_law_532 rfl (lv_at hl 0 rfl) ?_
  refine lv_iload_n (pc := 533) hx hb dL_law_533 rfl (lv_at hl 3 rfl) ?_
  refine lv_iconst (pc := 534) (v := 3) hx hb dL_law_534 (by decide) ?_
  refine lv_iadd (pc := 535) hx hb dL_law_535 ?_
  refine va_sld (pc := 536) hx hb hX hbl hbA hS (sc_in (n := 3) hi hL rfl (by decide)) dL_law_536 ?_
  refine lcall_l (pc := 537) (n := 3) (rest := []) [.int (xs (nI i + 1).toNatClampNeg), .int (xs (nI i + 2).toNatClampNeg), .int (xs (nI i + 3).toNatClampNeg)] X hP hS hAD (c_X11_moves (xs (nI i + 1).toNatClampNeg) (xs (nI i + 2).toNatClampNeg) (xs (nI i + 3).toNatClampNeg) e1) ⟨w_74174744cd, w_7576cdf53c, w_e7edaf7143, w_797a74a4ec, w_8695acda35, ⟨by decide, by decide, by decide +kernel⟩⟩ (rcX X hP) rfl ⟨rfl, rfl, Nat.le_of_ble_eq_true rfl, Nat.le_of_ble_eq_true rfl⟩ hl rfl (Nat.le_of_ble_eq_true rfl) dL_law_537 ⟨Nat.le_of_ble_eq_true rfl, Nat.le_of_ble_eq_true rfl⟩ (fun H locs hP hS => ?_)
  refine lv_aload_n (pc := 540) hx hb dL_law_540 rfl (lv_at hl 2 rfl) ?_
  refine lv_aload_n (pc := 541) hx hb dL_law_541 rfl (lv_at hl 0 rfl) ?_
  refine lv_iload_n (pc := 542) hx hb dL_law_542 rfl (lv_at hl 3 rfl) ?_
  refine lv_iconst (pc := 543) (v := 1) hx hb dL_law_543 (by decide) ?_
  refine lv_iadd (pc := 544) hx hb dL_law_544 ?_
  refine va_sld (pc := 545) hx hb hX hbl hbA hS (sc_in (n := 1) hi hL rfl (by decide)) dL_law_545 ?_
  refine lv_aload_n (pc := 546) hx hb dL_law_546 rfl (lv_at hl 0 rfl) ?_
  refine lv_iload_n (pc := 547) hx hb dL_law_547 rfl (lv_at hl 3 rfl) ?_
  refine lv_iconst (pc := 548) (v := 2) hx hb dL_law_548 (by decide) ?_
  refine lv_iadd (pc := 549) hx hb dL_law_549 ?_
  refine va_sld (pc := 550) hx hb hX hbl hbA hS (sc_in (n := 2) hi hL rfl (by decide)) dL_law_550 ?_
  refine lv_aload_n (pc := 551) hx hb dL_law_551 rfl (lv_at hl 0 rfl) ?_
  refine lv_iload_n (pc := 552) hx hb dL_law_552 rfl (lv_at hl 3 rfl) ?_
  refine lv_iconst (pc := 553) (v := 3) hx hb dL_law_553 (by decide) ?_
  refine lv_iadd (pc := 554) hx hb dL_law_554 ?_
  refine va_sld (pc := 555) hx hb hX hbl hbA hS (sc_in (n := 3) hi hL rfl (by decide)) dL_law_555 ?_
  refine lcall_l (pc := 556) (n := 3) (rest := [.long r]) [.int (xs (nI i + 1).toNatClampNeg), .int (xs (nI i + 2).toNatClampNeg), .int (xs (nI i + 3).toNatClampNeg)] X hP hS hAD (c_X12_moves (xs (nI i + 1).toNatClampNeg) (xs (nI i + 2).toNatClampNeg) (xs (nI i + 3).toNatClampNeg) e2) ⟨w_bd8f26930a, w_6805380c16, w_f82d25fae7, w_7451138a53, w_76c1cb4e26, ⟨by decide, by decide, by decide +kernel⟩⟩ (rcM X hP) rfl ⟨rfl, rfl, Nat.le_of_ble_eq_true rfl, Nat.le_of_ble_eq_true rfl⟩ hl rfl (Nat.le_of_ble_eq_true rfl) dL_law_556 ⟨Nat.le_of_ble_eq_true rfl, Nat.le_of_ble_eq_true rfl⟩ (fun H locs hP hS => ?_)
  refine W.lcmp (pc := 559) hx hb dL_law_559 ?_
  refine lv_if_eq (pc := 560) (tgt := 1575) hx hb dL_law_560 (by decide) (fun _ => ?_) (fun c9 => absurd (lg_self r) c9)
  exact K _ _ H locs ls hI1 hP hS hl
set_option maxHeartbeats 4000000 in
set_option maxRecDepth 100000 in
theorem law_8 {b L i : Nat} {xs : Nat → Int32} (X : Cx p s m #[Value.ref b] meth c cL_law RL 4 (some .boolean) dC dI ad bd cI cZ) (hAD : ∀ q, AD ad bd q → s.heap.size ≤ q) (hX : va_X b L xs s s.heap) (hbl : b < s.heap.size) (hL : L ≤ 3072) (hi : i + 6 ≤ L) (hI : Inv C D) (hP : va_P (dC, dI) vwCl (wl ad bd cI cZ C D) H) (hS : va_S (fun q => s.heap.size ≤ q) s.heap H locs) (hl : lv_has ls 4 [(0, .ref b), (1, .ref (ad 0)), (2, .ref (bd 0)), (3, .int (nI i))]) (K : ∀ (C D : Mem) (H : Heap) (locs : List Loc) (ls : Array Slot), Inv C D → va_P (dC, dI) vwCl (wl ad bd cI cZ C D) H → va_S (fun q => s.heap.size ≤ q) s.heap H locs → lv_has ls 4 [(0, .ref b), (1, .ref (ad 0)), (2, .ref (bd 0)), (3, .int (nI i))] → W p l e room_1 s m #[Value.ref b] below meth c H locs 78 3498 (lw_Z below #[Value.ref b] s) (F0 m 1575 ls [])) : W p l e room_1 s m #[Value.ref b] below meth c H locs 78 3498 (lw_Z below #[Value.ref b] s) (F0 m 33 ls [.int 8]) := by
  have hx := X.1
  have hb := X.2.1
  have hbA : ¬ (fun q => s.heap.size ≤ q) b := Nat.not_le.mpr hbl
  obtain ⟨r, C1, D1, e1, e2, hI1⟩ := ok_row hI (xs (nI i + 1).toNatClampNeg) (xs (nI i + 2).toNatClampNeg)
  refine lv_tableIn (pc := 33) (x := 8) (tgt := 565) hx hb dL_law_33 (by decide) (by decide) rfl (by decide) ?_
  refine lv_aload_n (pc := 565) hx hb dL_law_565 rfl (lv_at hl 1 rfl) ?_
  refine lv_aload_n (pc := 566) hx hb dL_law_566 rfl (lv_at hl 0 rfl) ?_
  refine lv_iload_n (pc := 567) hx hb dL_law_567 rfl (lv_at hl 3 rfl) ?_
  refine lv_iconst (pc := 568) (v := 1) hx hb dL_law_568 (by decide) ?_
  refine lv_iadd (pc := 569) hx hb dL_law_569 ?_
  refine va_sld (pc := 570) hx hb hX hbl hbA hS (sc_in (n := 1) hi hL rfl (by decide)) dL_law_570 ?_
  refine lv_aload_n (pc := 571) hx hb dL_law_571 rfl (lv_at hl 0 rfl) ?_
  refine lv_iload_n (pc := 572) hx hb dL_law_572 rfl (lv_at hl 3 rfl) ?_
  refine lv_iconst (pc := 573) (v := 2) hx hb dL_law_573 (by decide) ?_
  refine lv_iadd (pc := 574) hx hb dL_law_574 ?_
  refine va_sld (pc := 575) hx hb hX hbl hbA hS (sc_in (n := 2) hi hL rfl (by decide)) dL_law_575 ?_
  refine lcall_i (pc := 576) (n := 2) (rest := []) [.int (xs (nI i + 1).toNatClampNeg), .int (xs (nI i + 2).toNatClampNeg)] X hP hS hAD (c_X11_row (xs (nI i + 1).toNatClampNeg) (xs (nI i + 2).toNatClampNeg) e1) ⟨w_8ec37ce9bf, w_c7bf980cfc, w_e7edaf7143, w_3c7aa33aee, w_cdffc012b6, ⟨by decide, by decide, by decide +kernel⟩⟩ (rcX X hP) rfl ⟨rfl, rfl, Nat.le_of_ble_eq_true rfl, Nat.le_of_ble_eq_true rfl⟩ hl rfl (Nat.le_of_ble_eq_true rfl) dL_law_576 ⟨Nat.le_of_ble_eq_true rfl, Nat.le_of_ble_eq_true rfl⟩ (fun H locs hP hS => ?_)
  refine lv_aload_n (pc := 579) hx hb dL_law_579 rfl (lv_at hl 2 rfl) ?_
  refine lv_aload_n (pc := 580) hx hb dL_law_580 rfl (lv_at hl 0 rfl) ?_
  refine lv_iload_n (pc := 581) hx hb dL_law_581 rfl (lv_at hl 3 rfl) ?_
  refine lv_iconst (pc := 582) (v := 1) hx hb dL_law_582 (by decide) ?_
  refine lv_iadd (pc := 583) hx hb dL_law_583 ?_
  refine va_sld (pc := 584) hx hb hX hbl hbA hS (sc_in (n := 1) hi hL rfl (by decide)) dL_law_584 ?_
  refine lv_aload_n (pc := 585) hx hb dL_law_585 rfl (lv_at hl 0 rfl) ?_
  refine lv_iload_n (pc := 586) hx hb dL_law_586 rfl (lv_at hl 3 rfl) ?_
  refine lv_iconst (pc := 587) (v := 2) hx hb dL_law_587 (by decide) ?_
  refine lv_iadd (pc := 588) hx hb dL_law_588 ?_
  refine va_sld (pc := 589) hx hb hX hbl hbA hS (sc_in (n := 2) hi hL rfl (by decide)) dL_law_589 ?_
  refine lcall_i (pc := 590) (n := 2) (rest := [.int r]) [.int (xs (nI i + 1).toNatClampNeg), .int (xs (nI i + 2).toNatClampNeg)] X hP hS hAD (c_X12_row (xs (nI i + 1).toNatClampNeg) (xs (nI i + 2).toNatClampNeg) e2) ⟨w_b7dba7183a, w_64f2bf4128, w_f82d25fae7, w_3b24b5da3f, w_63411851da, ⟨by decide, by decide, by decide +kernel⟩⟩ (rcM X hP) rfl ⟨rfl, rfl, Nat.le_of_ble_eq_true rfl, Nat.le_of_ble_eq_true rfl⟩ hl rfl (Nat.le_of_ble_eq_true rfl) dL_law_590 ⟨Nat.le_of_ble_eq_true rfl, Nat.le_of_ble_eq_true rfl⟩ (fun H locs hP hS => ?_)
  refine lv_icmp_eq (pc := 593) (tgt := 1575) hx hb dL_law_593 (by decide) (fun _ => ?_) (fun c9 => absurd rfl c9)
  exact K _ _ H locs ls hI1 hP hS hl
set_option maxHeartbeats 4000000 in
set_option maxRecDepth 100000 in
theorem law_9 {b L i : Nat} {xs : Nat → Int32} (X : Cx p s m #[Value.ref b] meth c cL_law RL 4 (some .boolean) dC dI ad bd cI cZ) (hAD : ∀ q, AD ad bd q → s.heap.size ≤ q) (hX : va_X b L xs s s.heap) (hbl : b < s.heap.size) (hL : L ≤ 3072) (hi : i + 6 ≤ L) (hI : Inv C D) (hP : va_P (dC, dI) vwCl (wl ad bd cI cZ C D) H) (hS : va_S (fun q => s.heap.size ≤ q) s.heap H locs) (hl : lv_has ls 4 [(0, .ref b), (1, .ref (ad 0)), (2, .ref (bd 0)), (3, .int (nI i))]) (K : ∀ (C D : Mem) (H : Heap) (locs : List Loc) (ls : Array Slot), Inv C D → va_P (dC, dI) vwCl (wl ad bd cI cZ C D) H → va_S (fun q => s.heap.size ≤ q) s.heap H locs → lv_has ls 4 [(0, .ref b), (1, .ref (ad 0)), (2, .ref (bd 0)), (3, .int (nI i))] → W p l e room_1 s m #[Value.ref b] below meth c H locs 78 3498 (lw_Z below #[Value.ref b] s) (F0 m 1575 ls [])) : W p l e room_1 s m #[Value.ref b] below meth c H locs 78 3498 (lw_Z below #[Value.ref b] s) (F0 m 33 ls [.int 9]) := by
  have hx := X.1
  have hb := X.2.1
  have hbA : ¬ (fun q => s.heap.size ≤ q) b := Nat.not_le.mpr hbl
  obtain ⟨r, C1, e1, e2, hI1⟩ := ok_line hI (xs (nI i + 1).toNatClampNeg) (xs (nI i + 2).toNatClampNeg)
  refine lv_tableIn (pc := 33) (x := 9) (tgt := 598) hx hb dL_law_33 (by decide) (by decide) rfl (by decide) ?_
  refine lv_aload_n (pc := 598) hx hb dL_law_598 rfl (lv_at hl 1 rfl) ?_
  refine lv_aload_n (pc := 599) hx hb dL_law_599 rfl (lv_at hl 0 rfl) ?_
  refine lv_iload_n (pc := 600) hx hb dL_law_600 rfl (lv_at hl 3 rfl) ?_
  refine lv_iconst (pc := 601) (v := 1) hx hb dL_law_601 (by decide) ?_
  refine lv_iadd (pc := 602) hx hb dL_law_602 ?_
  refine va_sld (pc := 603) hx hb hX hbl hbA hS (sc_in (n := 1) hi hL rfl (by decide)) dL_law_603 ?_
  refine lv_aload_n (pc := 604) hx hb dL_law_604 rfl (lv_at hl 0 rfl) ?_
  refine lv_iload_n (pc := 605) hx hb dL_law_605 rfl (lv_at hl 3 rfl) ?_
  refine lv_iconst (pc := 606) (v := 2) hx hb dL_law_606 (by decide) ?_
  refine lv_iadd (pc := 607) hx hb dL_law_607 ?_
  refine va_sld (pc := 608) hx hb hX hbl hbA hS (sc_in (n := 2) hi hL rfl (by decide)) dL_law_608 ?_
  refine lcall_i (pc := 609) (n := 2) (rest := []) [.int (xs (nI i + 1).toNatClampNeg), .int (xs (nI i + 2).toNatClampNeg)] X hP hS hAD (c_X11_line (xs (nI i + 1).toNatClampNeg) (xs (nI i + 2).toNatClampNeg) e1) ⟨w_a6042584f4, w_e1b71ab35b, w_e7edaf7143, w_351b9d0970, w_7763e42489, ⟨by decide, by decide, by decide +kernel⟩⟩ (rcX X hP) rfl ⟨rfl, rfl, Nat.le_of_ble_eq_true rfl, Nat.le_of_ble_eq_true rfl⟩ hl rfl (Nat.le_of_ble_eq_true rfl) dL_law_609 ⟨Nat.le_of_ble_eq_true rfl, Nat.le_of_ble_eq_true rfl⟩ (fun H locs hP hS => ?_)
  refine lv_aload_n (pc := 612) hx hb dL_law_612 rfl (lv_at hl 2 rfl) ?_
  refine lv_aload_n (pc := 613) hx hb dL_law_613 rfl (lv_at hl 0 rfl) ?_
  refine lv_iload_n (pc := 614) hx hb dL_law_614 rfl (lv_at hl 3 rfl) ?_
  refine lv_iconst (pc := 615) (v := 1) hx hb dL_law_615 (by decide) ?_
  refine lv_iadd (pc := 616) hx hb dL_law_616 ?_
  refine va_sld (pc := 617) hx hb hX hbl hbA hS (sc_in (n := 1) hi hL rfl (by decide)) dL_law_617 ?_
  refine lv_aload_n (pc := 618) hx hb dL_law_618 rfl (lv_at hl 0 rfl) ?_
  refine lv_iload_n (pc := 619) hx hb dL_law_619 rfl (lv_at hl 3 rfl) ?_
  refine lv_iconst (pc := 620) (v := 2) hx hb dL_law_620 (by decide) ?_
  refine lv_iadd (pc := 621) hx hb dL_law_621 ?_
  refine va_sld (pc := 622) hx hb hX hbl hbA hS (sc_in (n := 2) hi hL rfl (by decide)) dL_law_622 ?_
  refine lcall_i (pc := 623) (n := 2) (rest := [.int r]) [.int (xs (nI i + 1).toNatClampNeg), .int (xs (nI i + 2).toNatClampNeg)] X hP hS hAD (c_X12_line (xs (nI i + 1).toNatClampNeg) (xs (nI i + 2).toNatClampNeg) e2) ⟨w_90bfcfb1f4, w_b7c30aa9c6, w_f82d25fae7, w_a02bb12ef6, w_4cf5fc446c, ⟨by decide, by decide, by decide +kernel⟩⟩ (rcM X hP) rfl ⟨rfl, rfl, Nat.le_of_ble_eq_true rfl, Nat.le_of_ble_eq_true rfl⟩ hl rfl (Nat.le_of_ble_eq_true rfl) dL_law_623 ⟨Nat.le_of_ble_eq_true rfl, Nat.le_of_ble_eq_true rfl⟩ (fun H locs hP hS => ?_)
  refine lv_icmp_eq (pc := 626) (tgt := 1575) hx hb dL_law_626 (by decide) (fun _ => ?_) (fun c9 => absurd rfl c9)
  exact K _ _ H locs ls hI1 hP hS hl
set_option maxHeartbeats 4000000 in
set_option maxRecDepth 100000 in
theorem law_10 {b L i : Nat} {xs : Nat → Int32} (X : Cx p s m #[Value.ref b] meth c cL_law RL 4 (some .boolean) dC dI ad bd cI cZ) (hAD : ∀ q, AD ad bd q → s.heap.size ≤ q) (hX : va_X b L xs s s.heap) (hbl : b < s.heap.size) (hL : L ≤ 3072) (hi : i + 6 ≤ L) (hI : Inv C D) (hP : va_P (dC, dI) vwCl (wl ad bd cI cZ C D) H) (hS : va_S (fun q => s.heap.size ≤ q) s.heap H locs) (hl : lv_has ls 4 [(0, .ref b), (1, .ref (ad 0)), (2, .ref (bd 0)), (3, .int (nI i))]) (K : ∀ (C D : Mem) (H : Heap) (locs : List Loc) (ls : Array Slot), Inv C D → va_P (dC, dI) vwCl (wl ad bd cI cZ C D) H → va_S (fun q => s.heap.size ≤ q) s.heap H locs → lv_has ls 4 [(0, .ref b), (1, .ref (ad 0)), (2, .ref (bd 0)), (3, .int (nI i))] → W p l e room_1 s m #[Value.ref b] below meth c H locs 78 3498 (lw_Z below #[Value.ref b] s) (F0 m 1575 ls [])) : W p l e room_1 s m #[Value.ref b] below meth c H locs 78 3498 (lw_Z below #[Value.ref b] s) (F0 m 33 ls [.int 10]) := by
  have hx := X.1
  have hb := X.2.1
  have hbA : ¬ (fun q => s.heap.size ≤ q) b := Nat.not_le.mpr hbl
  obtain ⟨r, e1, e2, hI1⟩ := ok_taken hI (xs (nI i + 1).toNatClampNeg) (xs (nI i + 2).toNatClampNeg) (xs (nI i + 3).toNatClampNeg)
  refine lv_tableIn (pc := 33) (x := 10) (tgt := 631) hx hb dL_law_33 (by decide) (by decide) rfl (by decide) ?_
  refine lv_aload_n (pc := 631) hx hb dL_law_631 rfl (lv_at hl 1 rfl) ?_
  refine lv_aload_n (pc := 632) hx hb dL_law_632 rfl (lv_at hl 0 rfl) ?_
  refine lv_iload_n (pc := 633) hx hb dL_law_633 rfl (lv_at hl 3 rfl) ?_
  refine lv_iconst (pc := 634) (v := 1) hx hb dL_law_634 (by decide) ?_
  refine lv_iadd (pc := 635) hx hb dL_law_635 ?_
  refine va_sld (pc := 636) hx hb hX hbl hbA hS (sc_in (n := 1) hi hL rfl (by decide)) dL_law_636 ?_
  refine lv_aload_n (pc := 637) hx hb dL_law_637 rfl (lv_at hl 0 rfl) ?_
  refine lv_iload_n (pc := 638) hx hb dL_law_638 rfl (lv_at hl 3 rfl) ?_
  refine lv_iconst (pc := 639) (v := 2) hx hb dL_law_639 (by decide) ?_
  refine lv_iadd (pc := 640) hx hb dL_law_640 ?_
  refine va_sld (pc := 641) hx hb hX hbl hbA hS (sc_in (n := 2) hi hL rfl (by decide)) dL_law_641 ?_
  refine lv_aload_n (pc := 642) hx hb dL_law_642 rfl (lv_at hl 0 rfl) ?_
  refine lv_iload_n (pc := 643) hx hb dL_law_643 rfl (lv_at hl 3 rfl) ?_
  refine lv_iconst (pc := 644) (v := 3) hx hb dL_law_644 (by decide) ?_
  refine lv_iadd (pc := 645) hx hb dL_law_645 ?_
  refine va_sld (pc := 646) hx hb hX hbl hbA hS (sc_in (n := 3) hi hL rfl (by decide)) dL_law_646 ?_
  refine lcall_l (pc := 647) (n := 3) (rest := []) [.int (xs (nI i + 1).toNatClampNeg), .int (xs (nI i + 2).toNatClampNeg), .int (xs (nI i + 3).toNatClampNeg)] X hP hS hAD (c_X11_taken (xs (nI i + 1).toNatClampNeg) (xs (nI i + 2).toNatClampNeg) (xs (nI i + 3).toNatClampNeg) e1) ⟨w_480aa029de, w_28280a1bb1, w_e7edaf7143, w_cbb057d30a, w_e18b75e1ca, ⟨by decide, by decide, by decide +kernel⟩⟩ (rcX X hP) rfl ⟨rfl, rfl, Nat.le_of_ble_eq_true rfl, Nat.le_of_ble_eq_true rfl⟩ hl rfl (Nat.le_of_ble_eq_true rfl) dL_law_647 ⟨Nat.le_of_ble_eq_true rfl, Nat.le_of_ble_eq_true rfl⟩ (fun H locs hP hS => ?_)
  refine lv_aload_n (pc := 650) hx hb dL_law_650 rfl (lv_at hl 2 rfl) ?_
  refine lv_aload_n (pc := 651) hx hb dL_law_651 rfl (lv_at hl 0 rfl) ?_
  refine lv_iload_n (pc := 652) hx hb dL_law_652 rfl (lv_at hl 3 rfl) ?_
  refine lv_iconst (pc := 653) (v := 1) hx hb dL_law_653 (by decide) ?_
  refine lv_iadd (pc := 654) hx hb dL_law_654 ?_
  refine va_sld (pc := 655) hx hb hX hbl hbA hS (sc_in (n := 1) hi hL rfl (by decide)) dL_law_655 ?_
  refine lv_aload_n (pc := 656) hx hb dL_law_656 rfl (lv_at hl 0 rfl) ?_
  refine lv_iload_n (pc := 657) hx hb dL_law_657 rfl (lv_at hl 3 rfl) ?_
  refine lv_iconst (pc := 658) (v := 2) hx hb dL_law_658 (by decide) ?_
  refine lv_iadd (pc := 659) hx hb dL_law_659 ?_
  refine va_sld (pc := 660) hx hb hX hbl hbA hS (sc_in (n := 2) hi hL rfl (by decide)) dL_law_660 ?_
  refine lv_aload_n (pc := 661) hx hb dL_law_661 rfl (lv_at hl 0 rfl) ?_
  refine lv_iload_n (pc := 662) hx hb dL_law_662 rfl (lv_at hl 3 rfl) ?_
  refine lv_iconst (pc := 663) (v := 3) hx hb dL_law_663 (by decide) ?_
  refine lv_iadd (pc := 664) hx hb dL_law_664 ?_
  refine va_sld (pc := 665) hx hb hX hbl hbA hS (sc_in (n := 3) hi hL rfl (by decide)) dL_law_665 ?_
  refine lcall_l (pc := 666) (n := 3) (rest := [.long r]) [.int (xs (nI i + 1).toNatClampNeg), .int (xs (nI i + 2).toNatClampNeg), .int (xs (nI i + 3).toNatClampNeg)] X hP hS hAD (c_X12_taken (xs (nI i + 1).toNatClampNeg) (xs (nI i + 2).toNatClampNeg) (xs (nI i + 3).toNatClampNeg) e2) ⟨w_64fc2ef4ef, w_524dc5ae2d, w_f82d25fae7, w_3ea2bd77ff, w_fc824b6343, ⟨by decide, by decide, by decide +kernel⟩⟩ (rcM X hP) rfl ⟨rfl, rfl, Nat.le_of_ble_eq_true rfl, Nat.le_of_ble_eq_true rfl⟩ hl rfl (Nat.le_of_ble_eq_true rfl) dL_law_666 ⟨Nat.le_of_ble_eq_true rfl, Nat.le_of_ble_eq_true rfl⟩ (fun H locs hP hS => ?_)
  refine W.lcmp (pc := 669) hx hb dL_law_669 ?_
  refine lv_if_eq (pc := 670) (tgt := 1575) hx hb dL_law_670 (by decide) (fun _ => ?_) (fun c9 => absurd (lg_self r) c9)
  exact K _ _ H locs ls hI1 hP hS hl
set_option maxHeartbeats 4000000 in
set_option maxRecDepth 100000 in
theorem law_11 {b L i : Nat} {xs : Nat → Int32} (X : Cx p s m #[Value.ref b] meth c cL_law RL 4 (some .boolean) dC dI ad bd cI cZ) (hAD : ∀ q, AD ad bd q → s.heap.size ≤ q) (hX : va_X b L xs s s.heap) (hbl : b < s.heap.size) (hL : L ≤ 3072) (hi : i + 6 ≤ L) (hI : Inv C D) (hP : va_P (dC, dI) vwCl (wl ad bd cI cZ C D) H) (hS : va_S (fun q => s.heap.size ≤ q) s.heap H locs) (hl : lv_has ls 4 [(0, .ref b), (1, .ref (ad 0)), (2, .ref (bd 0)), (3, .int (nI i))]) (K : ∀ (C D : Mem) (H : Heap) (locs : List Loc) (ls : Array Slot), Inv C D → va_P (dC, dI) vwCl (wl ad bd cI cZ C D) H → va_S (fun q => s.heap.size ≤ q) s.heap H locs → lv_has ls 4 [(0, .ref b), (1, .ref (ad 0)), (2, .ref (bd 0)), (3, .int (nI i))] → W p l e room_1 s m #[Value.ref b] below meth c H locs 78 3498 (lw_Z below #[Value.ref b] s) (F0 m 1575 ls [])) : W p l e room_1 s m #[Value.ref b] below meth c H locs 78 3498 (lw_Z below #[Value.ref b] s) (F0 m 33 ls [.int 11]) := by
  have hx := X.1
  have hb := X.2.1
  have hbA : ¬ (fun q => s.heap.size ≤ q) b := Nat.not_le.mpr hbl
  obtain ⟨r, C1, e1, e2, hI1⟩ := ok_best hI (xs (nI i + 1).toNatClampNeg)
  refine lv_tableIn (pc := 33) (x := 11) (tgt := 675) hx hb dL_law_33 (by decide) (by decide) rfl (by decide) ?_
  refine lv_aload_n (pc := 675) hx hb dL_law_675 rfl (lv_at hl 1 rfl) ?_
  refine lv_aload_n (pc := 676) hx hb dL_law_676 rfl (lv_at hl 0 rfl) ?_
  refine lv_iload_n (pc := 677) hx hb dL_law_677 rfl (lv_at hl 3 rfl) ?_
  refine lv_iconst (pc := 678) (v := 1) hx hb dL_law_678 (by decide) ?_
  refine lv_iadd (pc := 679) hx hb dL_law_679 ?_
  refine va_sld (pc := 680) hx hb hX hbl hbA hS (sc_in (n := 1) hi hL rfl (by decide)) dL_law_680 ?_
  refine lcall_i (pc := 681) (n := 1) (rest := []) [.int (xs (nI i + 1).toNatClampNeg)] X hP hS hAD (c_X11_best (xs (nI i + 1).toNatClampNeg) e1) ⟨w_5d44a0ac74, w_28fe305c9e, w_e7edaf7143, w_dee04aac18, w_d43161f23c, ⟨by decide, by decide, by decide +kernel⟩⟩ (rcX X hP) rfl ⟨rfl, rfl, Nat.le_of_ble_eq_true rfl, Nat.le_of_ble_eq_true rfl⟩ hl rfl (Nat.le_of_ble_eq_true rfl) dL_law_681 ⟨Nat.le_of_ble_eq_true rfl, Nat.le_of_ble_eq_true rfl⟩ (fun H locs hP hS => ?_)
  refine lv_aload_n (pc := 684) hx hb dL_law_684 rfl (lv_at hl 2 rfl) ?_
  refine lv_aload_n (pc := 685) hx hb dL_law_685 rfl (lv_at hl 0 rfl) ?_
  refine lv_iload_n (pc := 686) hx hb dL_law_686 rfl (lv_at hl 3 rfl) ?_
  refine lv_iconst (pc := 687) (v := 1) hx hb dL_law_687 (by decide) ?_
  refine lv_iadd (pc := 688) hx hb dL_law_688 ?_
  refine va_sld (pc := 689) hx hb hX hbl hbA hS (sc_in (n := 1) hi hL rfl (by decide)) dL_law_689 ?_
  refine lcall_i (pc := 690) (n := 1) (rest := [.int r]) [.int (xs (nI i + 1).toNatClampNeg)] X hP hS hAD (c_X12_best (xs (nI i + 1).toNatClampNeg) e2) ⟨w_deef3287c5, w_74389481f9, w_f82d25fae7, w_a781b38541, w_cc3c4253a9, ⟨by decide, by decide, by decide +kernel⟩⟩ (rcM X hP) rfl ⟨rfl, rfl, Nat.le_of_ble_eq_true rfl, Nat.le_of_ble_eq_true rfl⟩ hl rfl (Nat.le_of_ble_eq_true rfl) dL_law_690 ⟨Nat.le_of_ble_eq_true rfl, Nat.le_of_ble_eq_true rfl⟩ (fun H locs hP hS => ?_)
  refine lv_icmp_eq (pc := 693) (tgt := 1575) hx hb dL_law_693 (by decide) (fun _ => ?_) (fun c9 => absurd rfl c9)
  exact K _ _ H locs ls hI1 hP hS hl
set_option maxHeartbeats 4000000 in
set_option maxRecDepth 100000 in
theorem law_12 {b L i : Nat} {xs : Nat → Int32} (X : Cx p s m #[Value.ref b] meth c cL_law RL 4 (some .boolean) dC dI ad bd cI cZ) (hAD : ∀ q, AD ad bd q → s.heap.size ≤ q) (hX : va_X b L xs s s.heap) (hbl : b < s.heap.size) (hL : L ≤ 3072) (hi : i + 6 ≤ L) (hI : Inv C D) (hP : va_P (dC, dI) vwCl (wl ad bd cI cZ C D) H) (hS : va_S (fun q => s.heap.size ≤ q) s.heap H locs) (hl : lv_has ls 4 [(0, .ref b), (1, .ref (ad 0)), (2, .ref (bd 0)), (3, .int (nI i))]) (K : ∀ (C D : Mem) (H : Heap) (locs : List Loc) (ls : Array Slot), Inv C D → va_P (dC, dI) vwCl (wl ad bd cI cZ C D) H → va_S (fun q => s.heap.size ≤ q) s.heap H locs → lv_has ls 4 [(0, .ref b), (1, .ref (ad 0)), (2, .ref (bd 0)), (3, .int (nI i))] → W p l e room_1 s m #[Value.ref b] below meth c H locs 78 3498 (lw_Z below #[Value.ref b] s) (F0 m 1575 ls [])) : W p l e room_1 s m #[Value.ref b] below meth c H locs 78 3498 (lw_Z below #[Value.ref b] s) (F0 m 33 ls [.int 12]) := by
  have hx := X.1
  have hb := X.2.1
  have hbA : ¬ (fun q => s.heap.size ≤ q) b := Nat.not_le.mpr hbl
  obtain ⟨r, C1, D1, e1, e2, hI1⟩ := ok_belief hI (xs (nI i + 1).toNatClampNeg)
  refine lv_tableIn (pc := 33) (x := 12) (tgt := 698) hx hb dL_law_33 (by decide) (by decide) rfl (by decide) ?_
  refine lv_aload_n (pc := 698) hx hb dL_law_698 rfl (lv_at hl 1 rfl) ?_
  refine lv_aload_n (pc := 699) hx hb dL_law_699 rfl (lv_at hl 0 rfl) ?_
  refine lv_iload_n (pc := 700) hx hb dL_law_700 rfl (lv_at hl 3 rfl) ?_
  refine lv_iconst (pc := 701) (v := 1) hx hb dL_law_701 (by decide) ?_
  refine lv_iadd (pc := 702) hx hb dL_law_702 ?_
  refine va_sld (pc := 703) hx hb hX hbl hbA hS (sc_in (n := 1) hi hL rfl (by decide)) dL_law_703 ?_
  refine lcall_i (pc := 704) (n := 1) (rest := []) [.int (xs (nI i + 1).toNatClampNeg)] X hP hS hAD (c_X11_belief (xs (nI i + 1).toNatClampNeg) e1) ⟨w_fa5cb248a4, w_7add2bf9c6, w_e7edaf7143, w_ba968ead67, w_55a52d65b1, ⟨by decide, by decide, by decide +kernel⟩⟩ (rcX X hP) rfl ⟨rfl, rfl, Nat.le_of_ble_eq_true rfl, Nat.le_of_ble_eq_true rfl⟩ hl rfl (Nat.le_of_ble_eq_true rfl) dL_law_704 ⟨Nat.le_of_ble_eq_true rfl, Nat.le_of_ble_eq_true rfl⟩ (fun H locs hP hS => ?_)
  refine lv_aload_n (pc := 707) hx hb dL_law_707 rfl (lv_at hl 2 rfl) ?_
  refine lv_aload_n (pc := 708) hx hb dL_law_708 rfl (lv_at hl 0 rfl) ?_
  refine lv_iload_n (pc := 709) hx hb dL_law_709 rfl (lv_at hl 3 rfl) ?_
  refine lv_iconst (pc := 710) (v := 1) hx hb dL_law_710 (by decide) ?_
  refine lv_iadd (pc := 711) hx hb dL_law_711 ?_
  refine va_sld (pc := 712) hx hb hX hbl hbA hS (sc_in (n := 1) hi hL rfl (by decide)) dL_law_712 ?_
  refine lcall_i (pc := 713) (n := 1) (rest := [.int r]) [.int (xs (nI i + 1).toNatClampNeg)] X hP hS hAD (c_X12_belief (xs (nI i + 1).toNatClampNeg) e2) ⟨w_850ebce385, w_0858617f74, w_f82d25fae7, w_1f5edde15a, w_a41c902743, ⟨by decide, by decide, by decide +kernel⟩⟩ (rcM X hP) rfl ⟨rfl, rfl, Nat.le_of_ble_eq_true rfl, Nat.le_of_ble_eq_true rfl⟩ hl rfl (Nat.le_of_ble_eq_true rfl) dL_law_713 ⟨Nat.le_of_ble_eq_true rfl, Nat.le_of_ble_eq_true rfl⟩ (fun H locs hP hS => ?_)
  refine lv_icmp_eq (pc := 716) (tgt := 1575) hx hb dL_law_716 (by decide) (fun _ => ?_) (fun c9 => absurd rfl c9)
  exact K _ _ H locs ls hI1 hP hS hl
set_option maxHeartbeats 4000000 in
set_option maxRecDepth 100000 in
theorem law_13 {b L i : Nat} {xs : Nat → Int32} (X : Cx p s m #[Value.ref b] meth c cL_law RL 4 (some .boolean) dC dI ad bd cI cZ) (hAD : ∀ q, AD ad bd q → s.heap.size ≤ q) (hX : va_X b L xs s s.heap) (hbl : b < s.heap.size) (hL : L ≤ 3072) (hi : i + 6 ≤ L) (hI : Inv C D) (hP : va_P (dC, dI) vwCl (wl ad bd cI cZ C D) H) (hS : va_S (fun q => s.heap.size ≤ q) s.heap H locs) (hl : lv_has ls 4 [(0, .ref b), (1, .ref (ad 0)), (2, .ref (bd 0)), (3, .int (nI i))]) (K : ∀ (C D : Mem) (H : Heap) (locs : List Loc) (ls : Array Slot), Inv C D → va_P (dC, dI) vwCl (wl ad bd cI cZ C D) H → va_S (fun q => s.heap.size ≤ q) s.heap H locs → lv_has ls 4 [(0, .ref b), (1, .ref (ad 0)), (2, .ref (bd 0)), (3, .int (nI i))] → W p l e room_1 s m #[Value.ref b] below meth c H locs 78 3498 (lw_Z below #[Value.ref b] s) (F0 m 1575 ls [])) : W p l e room_1 s m #[Value.ref b] below meth c H locs 78 3498 (lw_Z below #[Value.ref b] s) (F0 m 33 ls [.int 13]) := by
  have hx := X.1
  have hb := X.2.1
  have hbA : ¬ (fun q => s.heap.size ≤ q) b := Nat.not_le.mpr hbl
  obtain ⟨r, C1, D1, e1, e2, hI1⟩ := ok_believe hI (xs (nI i + 1).toNatClampNeg) (xs (nI i + 2).toNatClampNeg) (xs (nI i + 3).toNatClampNeg)
  refine lv_tableIn (pc := 33) (x := 13) (tgt := 721) hx hb dL_law_33 (by decide) (by decide) rfl (by decide) ?_
  refine lv_aload_n (pc := 721) hx hb dL_law_721 rfl (lv_at hl 1 rfl) ?_
  refine lv_aload_n (pc := 722) hx hb dL_law_722 rfl (lv_at hl 0 rfl) ?_
  refine lv_iload_n (pc := 723) hx hb dL_law_723 rfl (lv_at hl 3 rfl) ?_
  refine lv_iconst (pc := 724) (v := 1) hx hb dL_law_724 (by decide) ?_
  refine lv_iadd (pc := 725) hx hb dL_law_725 ?_
  refine va_sld (pc := 726) hx hb hX hbl hbA hS (sc_in (n := 1) hi hL rfl (by decide)) dL_law_726 ?_
  refine lv_aload_n (pc := 727) hx hb dL_law_727 rfl (lv_at hl 0 rfl) ?_
  refine lv_iload_n (pc := 728) hx hb dL_law_728 rfl (lv_at hl 3 rfl) ?_
  refine lv_iconst (pc := 729) (v := 2) hx hb dL_law_729 (by decide) ?_
  refine lv_iadd (pc := 730) hx hb dL_law_730 ?_
  refine va_sld (pc := 731) hx hb hX hbl hbA hS (sc_in (n := 2) hi hL rfl (by decide)) dL_law_731 ?_
  refine lv_aload_n (pc := 732) hx hb dL_law_732 rfl (lv_at hl 0 rfl) ?_
  refine lv_iload_n (pc := 733) hx hb dL_law_733 rfl (lv_at hl 3 rfl) ?_
  refine lv_iconst (pc := 734) (v := 3) hx hb dL_law_734 (by decide) ?_
  refine lv_iadd (pc := 735) hx hb dL_law_735 ?_
  refine va_sld (pc := 736) hx hb hX hbl hbA hS (sc_in (n := 3) hi hL rfl (by decide)) dL_law_736 ?_
  refine lcall_i (pc := 737) (n := 3) (rest := []) [.int (xs (nI i + 1).toNatClampNeg), .int (xs (nI i + 2).toNatClampNeg), .int (xs (nI i + 3).toNatClampNeg)] X hP hS hAD (c_X11_believe (xs (nI i + 1).toNatClampNeg) (xs (nI i + 2).toNatClampNeg) (xs (nI i + 3).toNatClampNeg) e1) ⟨w_2b08b4d56d, w_a02ffbffb4, w_e7edaf7143, w_514d4adcb2, w_00f779a1e2, ⟨by decide, by decide, by decide +kernel⟩⟩ (rcX X hP) rfl ⟨rfl, rfl, Nat.le_of_ble_eq_true rfl, Nat.le_of_ble_eq_true rfl⟩ hl rfl (Nat.le_of_ble_eq_true rfl) dL_law_737 ⟨Nat.le_of_ble_eq_true rfl, Nat.le_of_ble_eq_true rfl⟩ (fun H locs hP hS => ?_)
  refine lv_aload_n (pc := 740) hx hb dL_law_740 rfl (lv_at hl 2 rfl) ?_
  refine lv_aload_n (pc := 741) hx hb dL_law_741 rfl (lv_at hl 0 rfl) ?_
  refine lv_iload_n (pc := 742) hx hb dL_law_742 rfl (lv_at hl 3 rfl) ?_
  refine lv_iconst (pc := 743) (v := 1) hx hb dL_law_743 (by decide) ?_
  refine lv_iadd (pc := 744) hx hb dL_law_744 ?_
  refine va_sld (pc := 745) hx hb hX hbl hbA hS (sc_in (n := 1) hi hL rfl (by decide)) dL_law_745 ?_
  refine lv_aload_n (pc := 746) hx hb dL_law_746 rfl (lv_at hl 0 rfl) ?_
  refine lv_iload_n (pc := 747) hx hb dL_law_747 rfl (lv_at hl 3 rfl) ?_
  refine lv_iconst (pc := 748) (v := 2) hx hb dL_law_748 (by decide) ?_
  refine lv_iadd (pc := 749) hx hb dL_law_749 ?_
  refine va_sld (pc := 750) hx hb hX hbl hbA hS (sc_in (n := 2) hi hL rfl (by decide)) dL_law_750 ?_
  refine lv_aload_n (pc := 751) hx hb dL_law_751 rfl (lv_at hl 0 rfl) ?_
  refine lv_iload_n (pc := 752) hx hb dL_law_752 rfl (lv_at hl 3 rfl) ?_
  refine lv_iconst (pc := 753) (v := 3) hx hb dL_law_753 (by decide) ?_
  refine lv_iadd (pc := 754) hx hb dL_law_754 ?_
  refine va_sld (pc := 755) hx hb hX hbl hbA hS (sc_in (n := 3) hi hL rfl (by decide)) dL_law_755 ?_
  refine lcall_i (pc := 756) (n := 3) (rest := [.int r]) [.int (xs (nI i + 1).toNatClampNeg), .int (xs (nI i + 2).toNatClampNeg), .int (xs (nI i + 3).toNatClampNeg)] X hP hS hAD (c_X12_believe (xs (nI i + 1).toNatClampNeg) (xs (nI i + 2).toNatClampNeg) (xs (nI i + 3).toNatClampNeg) e2) ⟨w_2271c2d6e2, w_a6446a04c4, w_f82d25fae7, w_5b064bc07e, w_08a9b46898, ⟨by decide, by decide, by decide +kernel⟩⟩ (rcM X hP) rfl ⟨rfl, rfl, Nat.le_of_ble_eq_true rfl, Nat.le_of_ble_eq_true rfl⟩ hl rfl (Nat.le_of_ble_eq_true rfl) dL_law_756 ⟨Nat.le_of_ble_eq_true rfl, Nat.le_of_ble_eq_true rfl⟩ (fun H locs hP hS => ?_)
  refine lv_icmp_eq (pc := 759) (tgt := 1575) hx hb dL_law_759 (by decide) (fun _ => ?_) (fun c9 => absurd rfl c9)
  exact K _ _ H locs ls hI1 hP hS hl
set_option maxHeartbeats 4000000 in
set_option maxRecDepth 100000 in
theorem law_14 {b L i : Nat} {xs : Nat → Int32} (X : Cx p s m #[Value.ref b] meth c cL_law RL 4 (some .boolean) dC dI ad bd cI cZ) (hAD : ∀ q, AD ad bd q → s.heap.size ≤ q) (hX : va_X b L xs s s.heap) (hbl : b < s.heap.size) (hL : L ≤ 3072) (hi : i + 6 ≤ L) (hI : Inv C D) (hP : va_P (dC, dI) vwCl (wl ad bd cI cZ C D) H) (hS : va_S (fun q => s.heap.size ≤ q) s.heap H locs) (hl : lv_has ls 4 [(0, .ref b), (1, .ref (ad 0)), (2, .ref (bd 0)), (3, .int (nI i))]) (K : ∀ (C D : Mem) (H : Heap) (locs : List Loc) (ls : Array Slot), Inv C D → va_P (dC, dI) vwCl (wl ad bd cI cZ C D) H → va_S (fun q => s.heap.size ≤ q) s.heap H locs → lv_has ls 4 [(0, .ref b), (1, .ref (ad 0)), (2, .ref (bd 0)), (3, .int (nI i))] → W p l e room_1 s m #[Value.ref b] below meth c H locs 78 3498 (lw_Z below #[Value.ref b] s) (F0 m 1575 ls [])) : W p l e room_1 s m #[Value.ref b] below meth c H locs 78 3498 (lw_Z below #[Value.ref b] s) (F0 m 33 ls [.int 14]) := by
  have hx := X.1
  have hb := X.2.1
  have hbA : ¬ (fun q => s.heap.size ≤ q) b := Nat.not_le.mpr hbl
  obtain ⟨r, C1, e1, e2, hI1⟩ := ok_hisBest hI (xs (nI i + 1).toNatClampNeg)
  refine lv_tableIn (pc := 33) (x := 14) (tgt := 764) hx hb dL_law_33 (by decide) (by decide) rfl (by decide) ?_
  refine lv_aload_n (pc := 764) hx hb dL_law_764 rfl (lv_at hl 1 rfl) ?_
  refine lv_aload_n (pc := 765) hx hb dL_law_765 rfl (lv_at hl 0 rfl) ?_
  refine lv_iload_n (pc := 766) hx hb dL_law_766 rfl (lv_at hl 3 rfl) ?_
  refine lv_iconst (pc := 767) (v := 1) hx hb dL_law_767 (by decide) ?_
  refine lv_iadd (pc := 768) hx hb dL_law_768 ?_
  refine va_sld (pc := 769) hx hb hX hbl hbA hS (sc_in (n := 1) hi hL rfl (by decide)) dL_law_769 ?_
  refine lcall_i (pc := 770) (n := 1) (rest := []) [.int (xs (nI i + 1).toNatClampNeg)] X hP hS hAD (c_X11_hisBest (xs (nI i + 1).toNatClampNeg) e1) ⟨w_2232d93e16, w_03ddd65944, w_e7edaf7143, w_30cae9a185, w_96a263642c, ⟨by decide, by decide, by decide +kernel⟩⟩ (rcX X hP) rfl ⟨rfl, rfl, Nat.le_of_ble_eq_true rfl, Nat.le_of_ble_eq_true rfl⟩ hl rfl (Nat.le_of_ble_eq_true rfl) dL_law_770 ⟨Nat.le_of_ble_eq_true rfl, Nat.le_of_ble_eq_true rfl⟩ (fun H locs hP hS => ?_)
  refine lv_aload_n (pc := 773) hx hb dL_law_773 rfl (lv_at hl 2 rfl) ?_
  refine lv_aload_n (pc := 774) hx hb dL_law_774 rfl (lv_at hl 0 rfl) ?_
  refine lv_iload_n (pc := 775) hx hb dL_law_775 rfl (lv_at hl 3 rfl) ?_
  refine lv_iconst (pc := 776) (v := 1) hx hb dL_law_776 (by decide) ?_
  refine lv_iadd (pc := 777) hx hb dL_law_777 ?_
  refine va_sld (pc := 778) hx hb hX hbl hbA hS (sc_in (n := 1) hi hL rfl (by decide)) dL_law_778 ?_
  refine lcall_i (pc := 779) (n := 1) (rest := [.int r]) [.int (xs (nI i + 1).toNatClampNeg)] X hP hS hAD (c_X12_hisBest (xs (nI i + 1).toNatClampNeg) e2) ⟨w_b095a7448a, w_7c85cb370a, w_f82d25fae7, w_da0fca991c, w_2269d5ff20, ⟨by decide, by decide, by decide +kernel⟩⟩ (rcM X hP) rfl ⟨rfl, rfl, Nat.le_of_ble_eq_true rfl, Nat.le_of_ble_eq_true rfl⟩ hl rfl (Nat.le_of_ble_eq_true rfl) dL_law_779 ⟨Nat.le_of_ble_eq_true rfl, Nat.le_of_ble_eq_true rfl⟩ (fun H locs hP hS => ?_)
  refine lv_icmp_eq (pc := 782) (tgt := 1575) hx hb dL_law_782 (by decide) (fun _ => ?_) (fun c9 => absurd rfl c9)
  exact K _ _ H locs ls hI1 hP hS hl
set_option maxHeartbeats 4000000 in
set_option maxRecDepth 100000 in
theorem law_15 {b L i : Nat} {xs : Nat → Int32} (X : Cx p s m #[Value.ref b] meth c cL_law RL 4 (some .boolean) dC dI ad bd cI cZ) (hAD : ∀ q, AD ad bd q → s.heap.size ≤ q) (hX : va_X b L xs s s.heap) (hbl : b < s.heap.size) (hL : L ≤ 3072) (hi : i + 6 ≤ L) (hI : Inv C D) (hP : va_P (dC, dI) vwCl (wl ad bd cI cZ C D) H) (hS : va_S (fun q => s.heap.size ≤ q) s.heap H locs) (hl : lv_has ls 4 [(0, .ref b), (1, .ref (ad 0)), (2, .ref (bd 0)), (3, .int (nI i))]) (K : ∀ (C D : Mem) (H : Heap) (locs : List Loc) (ls : Array Slot), Inv C D → va_P (dC, dI) vwCl (wl ad bd cI cZ C D) H → va_S (fun q => s.heap.size ≤ q) s.heap H locs → lv_has ls 4 [(0, .ref b), (1, .ref (ad 0)), (2, .ref (bd 0)), (3, .int (nI i))] → W p l e room_1 s m #[Value.ref b] below meth c H locs 78 3498 (lw_Z below #[Value.ref b] s) (F0 m 1575 ls [])) : W p l e room_1 s m #[Value.ref b] below meth c H locs 78 3498 (lw_Z below #[Value.ref b] s) (F0 m 33 ls [.int 15]) := by
  have hx := X.1
  have hb := X.2.1
  have hbA : ¬ (fun q => s.heap.size ≤ q) b := Nat.not_le.mpr hbl
  obtain ⟨r, C1, e1, e2, hI1⟩ := ok_off hI (xs (nI i + 1).toNatClampNeg) (xs (nI i + 2).toNatClampNeg) (xs (nI i + 3).toNatClampNeg)
  refine lv_tableIn (pc := 33) (x := 15) (tgt := 787) hx hb dL_law_33 (by decide) (by decide) rfl (by decide) ?_
  refine lv_aload_n (pc := 787) hx hb dL_law_787 rfl (lv_at hl 1 rfl) ?_
  refine lv_aload_n (pc := 788) hx hb dL_law_788 rfl (lv_at hl 0 rfl) ?_
  refine lv_iload_n (pc := 789) hx hb dL_law_789 rfl (lv_at hl 3 rfl) ?_
  refine lv_iconst (pc := 790) (v := 1) hx hb dL_law_790 (by decide) ?_
  refine lv_iadd (pc := 791) hx hb dL_law_791 ?_
  refine va_sld (pc := 792) hx hb hX hbl hbA hS (sc_in (n := 1) hi hL rfl (by decide)) dL_law_792 ?_
  refine lv_aload_n (pc := 793) hx hb dL_law_793 rfl (lv_at hl 0 rfl) ?_
  refine lv_iload_n (pc := 794) hx hb dL_law_794 rfl (lv_at hl 3 rfl) ?_
  refine lv_iconst (pc := 795) (v := 2) hx hb dL_law_795 (by decide) ?_
  refine lv_iadd (pc := 796) hx hb dL_law_796 ?_
  refine va_sld (pc := 797) hx hb hX hbl hbA hS (sc_in (n := 2) hi hL rfl (by decide)) dL_law_797 ?_
  refine lv_aload_n (pc := 798) hx hb dL_law_798 rfl (lv_at hl 0 rfl) ?_
  refine lv_iload_n (pc := 799) hx hb dL_law_799 rfl (lv_at hl 3 rfl) ?_
  refine lv_iconst (pc := 800) (v := 3) hx hb dL_law_800 (by decide) ?_
  refine lv_iadd (pc := 801) hx hb dL_law_801 ?_
  refine va_sld (pc := 802) hx hb hX hbl hbA hS (sc_in (n := 3) hi hL rfl (by decide)) dL_law_802 ?_
  refine lcall_l (pc := 803) (n := 3) (rest := []) [.int (xs (nI i + 1).toNatClampNeg), .int (xs (nI i + 2).toNatClampNeg), .int (xs (nI i + 3).toNatClampNeg)] X hP hS hAD (c_X11_off (xs (nI i + 1).toNatClampNeg) (xs (nI i + 2).toNatClampNeg) (xs (nI i + 3).toNatClampNeg) e1) ⟨w_0bd804eb25, w_dfa733e5cd, w_e7edaf7143, w_16b4268513, w_ce8e705d02, ⟨by decide, by decide, by decide +kernel⟩⟩ (rcX X hP) rfl ⟨rfl, rfl, Nat.le_of_ble_eq_true rfl, Nat.le_of_ble_eq_true rfl⟩ hl rfl (Nat.le_of_ble_eq_true rfl) dL_law_803 ⟨Nat.le_of_ble_eq_true rfl, Nat.le_of_ble_eq_true rfl⟩ (fun H locs hP hS => ?_)
  refine lv_aload_n (pc := 806) hx hb dL_law_806 rfl (lv_at hl 2 rfl) ?_
  refine lv_aload_n (pc := 807) hx hb dL_law_807 rfl (lv_at hl 0 rfl) ?_
  refine lv_iload_n (pc := 808) hx hb dL_law_808 rfl (lv_at hl 3 rfl) ?_
  refine lv_iconst (pc := 809) (v := 1) hx hb dL_law_809 (by decide) ?_
  refine lv_iadd (pc := 810) hx hb dL_law_810 ?_
  refine va_sld (pc := 811) hx hb hX hbl hbA hS (sc_in (n := 1) hi hL rfl (by decide)) dL_law_811 ?_
  refine lv_aload_n (pc := 812) hx hb dL_law_812 rfl (lv_at hl 0 rfl) ?_
  refine lv_iload_n (pc := 813) hx hb dL_law_813 rfl (lv_at hl 3 rfl) ?_
  refine lv_iconst (pc := 814) (v := 2) hx hb dL_law_814 (by decide) ?_
  refine lv_iadd (pc := 815) hx hb dL_law_815 ?_
  refine va_sld (pc := 816) hx hb hX hbl hbA hS (sc_in (n := 2) hi hL rfl (by decide)) dL_law_816 ?_
  refine lv_aload_n (pc := 817) hx hb dL_law_817 rfl (lv_at hl 0 rfl) ?_
  refine lv_iload_n (pc := 818) hx hb dL_law_818 rfl (lv_at hl 3 rfl) ?_
  refine lv_iconst (pc := 819) (v := 3) hx hb dL_law_819 (by decide) ?_
  refine lv_iadd (pc := 820) hx hb dL_law_820 ?_
  refine va_sld (pc := 821) hx hb hX hbl hbA hS (sc_in (n := 3) hi hL rfl (by decide)) dL_law_821 ?_
  refine lcall_l (pc := 822) (n := 3) (rest := [.long r]) [.int (xs (nI i + 1).toNatClampNeg), .int (xs (nI i + 2).toNatClampNeg), .int (xs (nI i + 3).toNatClampNeg)] X hP hS hAD (c_X12_off (xs (nI i + 1).toNatClampNeg) (xs (nI i + 2).toNatClampNeg) (xs (nI i + 3).toNatClampNeg) e2) ⟨w_ff5240e57f, w_224a3f34ba, w_f82d25fae7, w_f9fa53350e, w_e3bd06b927, ⟨by decide, by decide, by decide +kernel⟩⟩ (rcM X hP) rfl ⟨rfl, rfl, Nat.le_of_ble_eq_true rfl, Nat.le_of_ble_eq_true rfl⟩ hl rfl (Nat.le_of_ble_eq_true rfl) dL_law_822 ⟨Nat.le_of_ble_eq_true rfl, Nat.le_of_ble_eq_true rfl⟩ (fun H locs hP hS => ?_)
  refine W.lcmp (pc := 825) hx hb dL_law_825 ?_
  refine lv_if_eq (pc := 826) (tgt := 1575) hx hb dL_law_826 (by decide) (fun _ => ?_) (fun c9 => absurd (lg_self r) c9)
  exact K _ _ H locs ls hI1 hP hS hl
set_option maxHeartbeats 4000000 in
set_option maxRecDepth 100000 in
theorem law_16 {b L i : Nat} {xs : Nat → Int32} (X : Cx p s m #[Value.ref b] meth c cL_law RL 4 (some .boolean) dC dI ad bd cI cZ) (hAD : ∀ q, AD ad bd q → s.heap.size ≤ q) (hX : va_X b L xs s s.heap) (hbl : b < s.heap.size) (hL : L ≤ 3072) (hi : i + 6 ≤ L) (hI : Inv C D) (hP : va_P (dC, dI) vwCl (wl ad bd cI cZ C D) H) (hS : va_S (fun q => s.heap.size ≤ q) s.heap H locs) (hl : lv_has ls 4 [(0, .ref b), (1, .ref (ad 0)), (2, .ref (bd 0)), (3, .int (nI i))]) (K : ∀ (C D : Mem) (H : Heap) (locs : List Loc) (ls : Array Slot), Inv C D → va_P (dC, dI) vwCl (wl ad bd cI cZ C D) H → va_S (fun q => s.heap.size ≤ q) s.heap H locs → lv_has ls 4 [(0, .ref b), (1, .ref (ad 0)), (2, .ref (bd 0)), (3, .int (nI i))] → W p l e room_1 s m #[Value.ref b] below meth c H locs 78 3498 (lw_Z below #[Value.ref b] s) (F0 m 1575 ls [])) : W p l e room_1 s m #[Value.ref b] below meth c H locs 78 3498 (lw_Z below #[Value.ref b] s) (F0 m 33 ls [.int 16]) := by
  have hx := X.1
  have hb := X.2.1
  have hbA : ¬ (fun q => s.heap.size ≤ q) b := Nat.not_le.mpr hbl
  obtain ⟨r, C1, D1, e1, e2, hI1⟩ := ok_type hI (xs (nI i + 1).toNatClampNeg)
  refine lv_tableIn (pc := 33) (x := 16) (tgt := 831) hx hb dL_law_33 (by decide) (by decide) rfl (by decide) ?_
  refine lv_aload_n (pc := 831) hx hb dL_law_831 rfl (lv_at hl 1 rfl) ?_
  refine lv_aload_n (pc := 832) hx hb dL_law_832 rfl (lv_at hl 0 rfl) ?_
  refine lv_iload_n (pc := 833) hx hb dL_law_833 rfl (lv_at hl 3 rfl) ?_
  refine lv_iconst (pc := 834) (v := 1) hx hb dL_law_834 (by decide) ?_
  refine lv_iadd (pc := 835) hx hb dL_law_835 ?_
  refine va_sld (pc := 836) hx hb hX hbl hbA hS (sc_in (n := 1) hi hL rfl (by decide)) dL_law_836 ?_
  refine lcall_i (pc := 837) (n := 1) (rest := []) [.int (xs (nI i + 1).toNatClampNeg)] X hP hS hAD (c_X11_type (xs (nI i + 1).toNatClampNeg) e1) ⟨w_046f36ab4d, w_079b1d5696, w_e7edaf7143, w_af3e6d4bc9, w_20408a17b4, ⟨by decide, by decide, by decide +kernel⟩⟩ (rcX X hP) rfl ⟨rfl, rfl, Nat.le_of_ble_eq_true rfl, Nat.le_of_ble_eq_true rfl⟩ hl rfl (Nat.le_of_ble_eq_true rfl) dL_law_837 ⟨Nat.le_of_ble_eq_true rfl, Nat.le_of_ble_eq_true rfl⟩ (fun H locs hP hS => ?_)
  refine lv_aload_n (pc := 840) hx hb dL_law_840 rfl (lv_at hl 2 rfl) ?_
  refine lv_aload_n (pc := 841) hx hb dL_law_841 rfl (lv_at hl 0 rfl) ?_
  refine lv_iload_n (pc := 842) hx hb dL_law_842 rfl (lv_at hl 3 rfl) ?_
  refine lv_iconst (pc := 843) (v := 1) hx hb dL_law_843 (by decide) ?_
  refine lv_iadd (pc := 844) hx hb dL_law_844 ?_
  refine va_sld (pc := 845) hx hb hX hbl hbA hS (sc_in (n := 1) hi hL rfl (by decide)) dL_law_845 ?_
  refine lcall_i (pc := 846) (n := 1) (rest := [.int r]) [.int (xs (nI i + 1).toNatClampNeg)] X hP hS hAD (c_X12_type (xs (nI i + 1).toNatClampNeg) e2) ⟨w_fa8c0a3eac, w_6d1f927310, w_f82d25fae7, w_94cfddaf44, w_c127f4f807, ⟨by decide, by decide, by decide +kernel⟩⟩ (rcM X hP) rfl ⟨rfl, rfl, Nat.le_of_ble_eq_true rfl, Nat.le_of_ble_eq_true rfl⟩ hl rfl (Nat.le_of_ble_eq_true rfl) dL_law_846 ⟨Nat.le_of_ble_eq_true rfl, Nat.le_of_ble_eq_true rfl⟩ (fun H locs hP hS => ?_)
  refine lv_icmp_eq (pc := 849) (tgt := 1575) hx hb dL_law_849 (by decide) (fun _ => ?_) (fun c9 => absurd rfl c9)
  exact K _ _ H locs ls hI1 hP hS hl
set_option maxHeartbeats 4000000 in
set_option maxRecDepth 100000 in
theorem law_17 {b L i : Nat} {xs : Nat → Int32} (X : Cx p s m #[Value.ref b] meth c cL_law RL 4 (some .boolean) dC dI ad bd cI cZ) (hAD : ∀ q, AD ad bd q → s.heap.size ≤ q) (hX : va_X b L xs s s.heap) (hbl : b < s.heap.size) (hL : L ≤ 3072) (hi : i + 6 ≤ L) (hI : Inv C D) (hP : va_P (dC, dI) vwCl (wl ad bd cI cZ C D) H) (hS : va_S (fun q => s.heap.size ≤ q) s.heap H locs) (hl : lv_has ls 4 [(0, .ref b), (1, .ref (ad 0)), (2, .ref (bd 0)), (3, .int (nI i))]) (K : ∀ (C D : Mem) (H : Heap) (locs : List Loc) (ls : Array Slot), Inv C D → va_P (dC, dI) vwCl (wl ad bd cI cZ C D) H → va_S (fun q => s.heap.size ≤ q) s.heap H locs → lv_has ls 4 [(0, .ref b), (1, .ref (ad 0)), (2, .ref (bd 0)), (3, .int (nI i))] → W p l e room_1 s m #[Value.ref b] below meth c H locs 78 3498 (lw_Z below #[Value.ref b] s) (F0 m 1575 ls [])) : W p l e room_1 s m #[Value.ref b] below meth c H locs 78 3498 (lw_Z below #[Value.ref b] s) (F0 m 33 ls [.int 17]) := by
  have hx := X.1
  have hb := X.2.1
  have hbA : ¬ (fun q => s.heap.size ≤ q) b := Nat.not_le.mpr hbl
  obtain ⟨r, C1, D1, e1, e2, hI1⟩ := ok_wipe hI
  refine lv_tableIn (pc := 33) (x := 17) (tgt := 854) hx hb dL_law_33 (by decide) (by decide) rfl (by decide) ?_
  refine lv_aload_n (pc := 854) hx hb dL_law_854 rfl (lv_at hl 1 rfl) ?_
  refine lcall_i (pc := 855) (n := 0) (rest := []) [] X hP hS hAD (c_X11_wipe e1) ⟨w_31123e5540, w_ff65854a91, w_e7edaf7143, w_652ec120bd, w_ebe5bb6170, ⟨by decide, by decide, by decide +kernel⟩⟩ (rcX X hP) rfl ⟨rfl, rfl, Nat.le_of_ble_eq_true rfl, Nat.le_of_ble_eq_true rfl⟩ hl rfl (Nat.le_of_ble_eq_true rfl) dL_law_855 ⟨Nat.le_of_ble_eq_true rfl, Nat.le_of_ble_eq_true rfl⟩ (fun H locs hP hS => ?_)
  refine lv_aload_n (pc := 858) hx hb dL_law_858 rfl (lv_at hl 2 rfl) ?_
  refine lcall_i (pc := 859) (n := 0) (rest := [.int r]) [] X hP hS hAD (c_X12_wipe e2) ⟨w_4707236bc5, w_cf6329cd02, w_f82d25fae7, w_727043bf22, w_c7b6e11bb1, ⟨by decide, by decide, by decide +kernel⟩⟩ (rcM X hP) rfl ⟨rfl, rfl, Nat.le_of_ble_eq_true rfl, Nat.le_of_ble_eq_true rfl⟩ hl rfl (Nat.le_of_ble_eq_true rfl) dL_law_859 ⟨Nat.le_of_ble_eq_true rfl, Nat.le_of_ble_eq_true rfl⟩ (fun H locs hP hS => ?_)
  refine lv_icmp_eq (pc := 862) (tgt := 1575) hx hb dL_law_862 (by decide) (fun _ => ?_) (fun c9 => absurd rfl c9)
  exact K _ _ H locs ls hI1 hP hS hl
set_option maxHeartbeats 4000000 in
set_option maxRecDepth 100000 in
theorem law_18 {b L i : Nat} {xs : Nat → Int32} (X : Cx p s m #[Value.ref b] meth c cL_law RL 4 (some .boolean) dC dI ad bd cI cZ) (hAD : ∀ q, AD ad bd q → s.heap.size ≤ q) (hX : va_X b L xs s s.heap) (hbl : b < s.heap.size) (hL : L ≤ 3072) (hi : i + 6 ≤ L) (hI : Inv C D) (hP : va_P (dC, dI) vwCl (wl ad bd cI cZ C D) H) (hS : va_S (fun q => s.heap.size ≤ q) s.heap H locs) (hl : lv_has ls 4 [(0, .ref b), (1, .ref (ad 0)), (2, .ref (bd 0)), (3, .int (nI i))]) (K : ∀ (C D : Mem) (H : Heap) (locs : List Loc) (ls : Array Slot), Inv C D → va_P (dC, dI) vwCl (wl ad bd cI cZ C D) H → va_S (fun q => s.heap.size ≤ q) s.heap H locs → lv_has ls 4 [(0, .ref b), (1, .ref (ad 0)), (2, .ref (bd 0)), (3, .int (nI i))] → W p l e room_1 s m #[Value.ref b] below meth c H locs 78 3498 (lw_Z below #[Value.ref b] s) (F0 m 1575 ls [])) : W p l e room_1 s m #[Value.ref b] below meth c H locs 78 3498 (lw_Z below #[Value.ref b] s) (F0 m 33 ls [.int 18]) := by
  have hx := X.1
  have hb := X.2.1
  have hbA : ¬ (fun q => s.heap.size ≤ q) b := Nat.not_le.mpr hbl
  obtain ⟨r, D1, e1, e2, hI1⟩ := ok_fault hI
  refine lv_tableIn (pc := 33) (x := 18) (tgt := 867) hx hb dL_law_33 (by decide) (by decide) rfl (by decide) ?_
  refine lv_aload_n (pc := 867) hx hb dL_law_867 rfl (lv_at hl 1 rfl) ?_
  refine lcall_i (pc := 868) (n := 0) (rest := []) [] X hP hS hAD (c_X11_fault) ⟨w_acc687082e, w_e0f4f2beec, w_e7edaf7143, w_3fdf624a03, w_48646485cd, ⟨by decide, by decide, by decide +kernel⟩⟩ (rcX X hP) rfl ⟨rfl, rfl, Nat.le_of_ble_eq_true rfl, Nat.le_of_ble_eq_true rfl⟩ hl rfl (Nat.le_of_ble_eq_true rfl) dL_law_868 ⟨Nat.le_of_ble_eq_true rfl, Nat.le_of_ble_eq_true rfl⟩ (fun H locs hP hS => ?_)
  rw [e1]
  refine lv_aload_n (pc := 871) hx hb dL_law_871 rfl (lv_at hl 2 rfl) ?_
  refine lcall_i (pc := 872) (n := 0) (rest := [.int r]) [] X hP hS hAD (c_X12_fault e2) ⟨w_f9f2553652, w_ddb2419b2c, w_f82d25fae7, w_8a1cf7f89f, w_e4eeff1f8d, ⟨by decide, by decide, by decide +kernel⟩⟩ (rcM X hP) rfl ⟨rfl, rfl, Nat.le_of_ble_eq_true rfl, Nat.le_of_ble_eq_true rfl⟩ hl rfl (Nat.le_of_ble_eq_true rfl) dL_law_872 ⟨Nat.le_of_ble_eq_true rfl, Nat.le_of_ble_eq_true rfl⟩ (fun H locs hP hS => ?_)
  refine lv_icmp_eq (pc := 875) (tgt := 1575) hx hb dL_law_875 (by decide) (fun _ => ?_) (fun c9 => absurd rfl c9)
  exact K _ _ H locs ls hI1 hP hS hl
set_option maxHeartbeats 4000000 in
set_option maxRecDepth 100000 in
theorem law_19 {b L i : Nat} {xs : Nat → Int32} (X : Cx p s m #[Value.ref b] meth c cL_law RL 4 (some .boolean) dC dI ad bd cI cZ) (hAD : ∀ q, AD ad bd q → s.heap.size ≤ q) (hX : va_X b L xs s s.heap) (hbl : b < s.heap.size) (hL : L ≤ 3072) (hi : i + 6 ≤ L) (hI : Inv C D) (hP : va_P (dC, dI) vwCl (wl ad bd cI cZ C D) H) (hS : va_S (fun q => s.heap.size ≤ q) s.heap H locs) (hl : lv_has ls 4 [(0, .ref b), (1, .ref (ad 0)), (2, .ref (bd 0)), (3, .int (nI i))]) (K : ∀ (C D : Mem) (H : Heap) (locs : List Loc) (ls : Array Slot), Inv C D → va_P (dC, dI) vwCl (wl ad bd cI cZ C D) H → va_S (fun q => s.heap.size ≤ q) s.heap H locs → lv_has ls 4 [(0, .ref b), (1, .ref (ad 0)), (2, .ref (bd 0)), (3, .int (nI i))] → W p l e room_1 s m #[Value.ref b] below meth c H locs 78 3498 (lw_Z below #[Value.ref b] s) (F0 m 1575 ls [])) : W p l e room_1 s m #[Value.ref b] below meth c H locs 78 3498 (lw_Z below #[Value.ref b] s) (F0 m 33 ls [.int 19]) := by
  have hx := X.1
  have hb := X.2.1
  have hbA : ¬ (fun q => s.heap.size ≤ q) b := Nat.not_le.mpr hbl
  obtain ⟨r, C1, D1, e1, e2, hI1⟩ := ok_reckon hI (xs (nI i + 1).toNatClampNeg) (xs (nI i + 2).toNatClampNeg)
  refine lv_tableIn (pc := 33) (x := 19) (tgt := 880) hx hb dL_law_33 (by decide) (by decide) rfl (by decide) ?_
  refine lv_aload_n (pc := 880) hx hb dL_law_880 rfl (lv_at hl 1 rfl) ?_
  refine lv_aload_n (pc := 881) hx hb dL_law_881 rfl (lv_at hl 0 rfl) ?_
  refine lv_iload_n (pc := 882) hx hb dL_law_882 rfl (lv_at hl 3 rfl) ?_
  refine lv_iconst (pc := 883) (v := 1) hx hb dL_law_883 (by decide) ?_
  refine lv_iadd (pc := 884) hx hb dL_law_884 ?_
  refine va_sld (pc := 885) hx hb hX hbl hbA hS (sc_in (n := 1) hi hL rfl (by decide)) dL_law_885 ?_
  refine lv_aload_n (pc := 886) hx hb dL_law_886 rfl (lv_at hl 0 rfl) ?_
  refine lv_iload_n (pc := 887) hx hb dL_law_887 rfl (lv_at hl 3 rfl) ?_
  refine lv_iconst (pc := 888) (v := 2) hx hb dL_law_888 (by decide) ?_
  refine lv_iadd (pc := 889) hx hb dL_law_889 ?_
  refine va_sld (pc := 890) hx hb hX hbl hbA hS (sc_in (n := 2) hi hL rfl (by decide)) dL_law_890 ?_
  refine lcall_i (pc := 891) (n := 2) (rest := []) [.int (xs (nI i + 1).toNatClampNeg), .int (xs (nI i + 2).toNatClampNeg)] X hP hS hAD (c_X11_reckon (xs (nI i + 1).toNatClampNeg) (xs (nI i + 2).toNatClampNeg) e1) ⟨w_0c96e50d88, w_8c8e09289c, w_e7edaf7143, w_d43b1853e5, w_1a37553006, ⟨by decide, by decide, by decide +kernel⟩⟩ (rcX X hP) rfl ⟨rfl, rfl, Nat.le_of_ble_eq_true rfl, Nat.le_of_ble_eq_true rfl⟩ hl rfl (Nat.le_of_ble_eq_true rfl) dL_law_891 ⟨Nat.le_of_ble_eq_true rfl, Nat.le_of_ble_eq_true rfl⟩ (fun H locs hP hS => ?_)
  refine lv_aload_n (pc := 894) hx hb dL_law_894 rfl (lv_at hl 2 rfl) ?_
  refine lv_aload_n (pc := 895) hx hb dL_law_895 rfl (lv_at hl 0 rfl) ?_
  refine lv_iload_n (pc := 896) hx hb dL_law_896 rfl (lv_at hl 3 rfl) ?_
  refine lv_iconst (pc := 897) (v := 1) hx hb dL_law_897 (by decide) ?_
  refine lv_iadd (pc := 898) hx hb dL_law_898 ?_
  refine va_sld (pc := 899) hx hb hX hbl hbA hS (sc_in (n := 1) hi hL rfl (by decide)) dL_law_899 ?_
  refine lv_aload_n (pc := 900) hx hb dL_law_900 rfl (lv_at hl 0 rfl) ?_
  refine lv_iload_n (pc := 901) hx hb dL_law_901 rfl (lv_at hl 3 rfl) ?_
  refine lv_iconst (pc := 902) (v := 2) hx hb dL_law_902 (by decide) ?_
  refine lv_iadd (pc := 903) hx hb dL_law_903 ?_
  refine va_sld (pc := 904) hx hb hX hbl hbA hS (sc_in (n := 2) hi hL rfl (by decide)) dL_law_904 ?_
  refine lcall_i (pc := 905) (n := 2) (rest := [.int r]) [.int (xs (nI i + 1).toNatClampNeg), .int (xs (nI i + 2).toNatClampNeg)] X hP hS hAD (c_X12_reckon (xs (nI i + 1).toNatClampNeg) (xs (nI i + 2).toNatClampNeg) e2) ⟨w_b2d854a3d8, w_8a46ea3642, w_f82d25fae7, w_1f23b11e48, w_25b249f6e6, ⟨by decide, by decide, by decide +kernel⟩⟩ (rcM X hP) rfl ⟨rfl, rfl, Nat.le_of_ble_eq_true rfl, Nat.le_of_ble_eq_true rfl⟩ hl rfl (Nat.le_of_ble_eq_true rfl) dL_law_905 ⟨Nat.le_of_ble_eq_true rfl, Nat.le_of_ble_eq_true rfl⟩ (fun H locs hP hS => ?_)
  refine lv_icmp_eq (pc := 908) (tgt := 1575) hx hb dL_law_908 (by decide) (fun _ => ?_) (fun c9 => absurd rfl c9)
  exact K _ _ H locs ls hI1 hP hS hl
set_option maxHeartbeats 4000000 in
set_option maxRecDepth 100000 in
theorem law_20 {b L i : Nat} {xs : Nat → Int32} (X : Cx p s m #[Value.ref b] meth c cL_law RL 4 (some .boolean) dC dI ad bd cI cZ) (hAD : ∀ q, AD ad bd q → s.heap.size ≤ q) (hX : va_X b L xs s s.heap) (hbl : b < s.heap.size) (hL : L ≤ 3072) (hi : i + 6 ≤ L) (hI : Inv C D) (hP : va_P (dC, dI) vwCl (wl ad bd cI cZ C D) H) (hS : va_S (fun q => s.heap.size ≤ q) s.heap H locs) (hl : lv_has ls 4 [(0, .ref b), (1, .ref (ad 0)), (2, .ref (bd 0)), (3, .int (nI i))]) (K : ∀ (C D : Mem) (H : Heap) (locs : List Loc) (ls : Array Slot), Inv C D → va_P (dC, dI) vwCl (wl ad bd cI cZ C D) H → va_S (fun q => s.heap.size ≤ q) s.heap H locs → lv_has ls 4 [(0, .ref b), (1, .ref (ad 0)), (2, .ref (bd 0)), (3, .int (nI i))] → W p l e room_1 s m #[Value.ref b] below meth c H locs 78 3498 (lw_Z below #[Value.ref b] s) (F0 m 1575 ls [])) : W p l e room_1 s m #[Value.ref b] below meth c H locs 78 3498 (lw_Z below #[Value.ref b] s) (F0 m 33 ls [.int 20]) := by
  have hx := X.1
  have hb := X.2.1
  have hbA : ¬ (fun q => s.heap.size ≤ q) b := Nat.not_le.mpr hbl
  obtain ⟨r, C1, D1, e1, e2, hI1⟩ := ok_how hI (xs (nI i + 1).toNatClampNeg) (xs (nI i + 2).toNatClampNeg)
  refine lv_tableIn (pc := 33) (x := 20) (tgt := 913) hx hb dL_law_33 (by decide) (by decide) rfl (by decide) ?_
  refine lv_aload_n (pc := 913) hx hb dL_law_913 rfl (lv_at hl 1 rfl) ?_
  refine lv_aload_n (pc := 914) hx hb dL_law_914 rfl (lv_at hl 0 rfl) ?_
  refine lv_iload_n (pc := 915) hx hb dL_law_915 rfl (lv_at hl 3 rfl) ?_
  refine lv_iconst (pc := 916) (v := 1) hx hb dL_law_916 (by decide) ?_
  refine lv_iadd (pc := 917) hx hb dL_law_917 ?_
  refine va_sld (pc := 918) hx hb hX hbl hbA hS (sc_in (n := 1) hi hL rfl (by decide)) dL_law_918 ?_
  refine lv_aload_n (pc := 919) hx hb dL_law_919 rfl (lv_at hl 0 rfl) ?_
  refine lv_iload_n (pc := 920) hx hb dL_law_920 rfl (lv_at hl 3 rfl) ?_
  refine lv_iconst (pc := 921) (v := 2) hx hb dL_law_921 (by decide) ?_
  refine lv_iadd (pc := 922) hx hb dL_law_922 ?_
  refine va_sld (pc := 923) hx hb hX hbl hbA hS (sc_in (n := 2) hi hL rfl (by decide)) dL_law_923 ?_
  refine lcall_i (pc := 924) (n := 2) (rest := []) [.int (xs (nI i + 1).toNatClampNeg), .int (xs (nI i + 2).toNatClampNeg)] X hP hS hAD (c_X11_how (xs (nI i + 1).toNatClampNeg) (xs (nI i + 2).toNatClampNeg) e1) ⟨w_c8d5ec7152, w_95bd7f79f0, w_e7edaf7143, w_0a8e37490f, w_34f3b39a8f, ⟨by decide, by decide, by decide +kernel⟩⟩ (rcX X hP) rfl ⟨rfl, rfl, Nat.le_of_ble_eq_true rfl, Nat.le_of_ble_eq_true rfl⟩ hl rfl (Nat.le_of_ble_eq_true rfl) dL_law_924 ⟨Nat.le_of_ble_eq_true rfl, Nat.le_of_ble_eq_true rfl⟩ (fun H locs hP hS => ?_)
  refine lv_aload_n (pc := 927) hx hb dL_law_927 rfl (lv_at hl 2 rfl) ?_
  refine lv_aload_n (pc := 928) hx hb dL_law_928 rfl (lv_at hl 0 rfl) ?_
  refine lv_iload_n (pc := 929) hx hb dL_law_929 rfl (lv_at hl 3 rfl) ?_
  refine lv_iconst (pc := 930) (v := 1) hx hb dL_law_930 (by decide) ?_
  refine lv_iadd (pc := 931) hx hb dL_law_931 ?_
  refine va_sld (pc := 932) hx hb hX hbl hbA hS (sc_in (n := 1) hi hL rfl (by decide)) dL_law_932 ?_
  refine lv_aload_n (pc := 933) hx hb dL_law_933 rfl (lv_at hl 0 rfl) ?_
  refine lv_iload_n (pc := 934) hx hb dL_law_934 rfl (lv_at hl 3 rfl) ?_
  refine lv_iconst (pc := 935) (v := 2) hx hb dL_law_935 (by decide) ?_
  refine lv_iadd (pc := 936) hx hb dL_law_936 ?_
  refine va_sld (pc := 937) hx hb hX hbl hbA hS (sc_in (n := 2) hi hL rfl (by decide)) dL_law_937 ?_
  refine lcall_i (pc := 938) (n := 2) (rest := [.int r]) [.int (xs (nI i + 1).toNatClampNeg), .int (xs (nI i + 2).toNatClampNeg)] X hP hS hAD (c_X12_how (xs (nI i + 1).toNatClampNeg) (xs (nI i + 2).toNatClampNeg) e2) ⟨w_aff544bc40, w_95acadbcf2, w_f82d25fae7, w_f2d124be81, w_ae8d767829, ⟨by decide, by decide, by decide +kernel⟩⟩ (rcM X hP) rfl ⟨rfl, rfl, Nat.le_of_ble_eq_true rfl, Nat.le_of_ble_eq_true rfl⟩ hl rfl (Nat.le_of_ble_eq_true rfl) dL_law_938 ⟨Nat.le_of_ble_eq_true rfl, Nat.le_of_ble_eq_true rfl⟩ (fun H locs hP hS => ?_)
  refine lv_icmp_eq (pc := 941) (tgt := 1575) hx hb dL_law_941 (by decide) (fun _ => ?_) (fun c9 => absurd rfl c9)
  exact K _ _ H locs ls hI1 hP hS hl
set_option maxHeartbeats 4000000 in
set_option maxRecDepth 100000 in
theorem law_21 {b L i : Nat} {xs : Nat → Int32} (X : Cx p s m #[Value.ref b] meth c cL_law RL 4 (some .boolean) dC dI ad bd cI cZ) (hAD : ∀ q, AD ad bd q → s.heap.size ≤ q) (hX : va_X b L xs s s.heap) (hbl : b < s.heap.size) (hL : L ≤ 3072) (hi : i + 6 ≤ L) (hI : Inv C D) (hP : va_P (dC, dI) vwCl (wl ad bd cI cZ C D) H) (hS : va_S (fun q => s.heap.size ≤ q) s.heap H locs) (hl : lv_has ls 4 [(0, .ref b), (1, .ref (ad 0)), (2, .ref (bd 0)), (3, .int (nI i))]) (K : ∀ (C D : Mem) (H : Heap) (locs : List Loc) (ls : Array Slot), Inv C D → va_P (dC, dI) vwCl (wl ad bd cI cZ C D) H → va_S (fun q => s.heap.size ≤ q) s.heap H locs → lv_has ls 4 [(0, .ref b), (1, .ref (ad 0)), (2, .ref (bd 0)), (3, .int (nI i))] → W p l e room_1 s m #[Value.ref b] below meth c H locs 78 3498 (lw_Z below #[Value.ref b] s) (F0 m 1575 ls [])) : W p l e room_1 s m #[Value.ref b] below meth c H locs 78 3498 (lw_Z below #[Value.ref b] s) (F0 m 33 ls [.int 21]) := by
  have hx := X.1
  have hb := X.2.1
  have hbA : ¬ (fun q => s.heap.size ≤ q) b := Nat.not_le.mpr hbl
  obtain ⟨r, C1, D1, e1, e2, hI1⟩ := ok_temper hI
  refine lv_tableIn (pc := 33) (x := 21) (tgt := 946) hx hb dL_law_33 (by decide) (by decide) rfl (by decide) ?_
  refine lv_aload_n (pc := 946) hx hb dL_law_946 rfl (lv_at hl 1 rfl) ?_
  refine lcall_i (pc := 947) (n := 0) (rest := []) [] X hP hS hAD (c_X11_temper e1) ⟨w_da16f8f8cb, w_57386db427, w_e7edaf7143, w_5fa38c5d14, w_f760ff9e46, ⟨by decide, by decide, by decide +kernel⟩⟩ (rcX X hP) rfl ⟨rfl, rfl, Nat.le_of_ble_eq_true rfl, Nat.le_of_ble_eq_true rfl⟩ hl rfl (Nat.le_of_ble_eq_true rfl) dL_law_947 ⟨Nat.le_of_ble_eq_true rfl, Nat.le_of_ble_eq_true rfl⟩ (fun H locs hP hS => ?_)
  refine lv_aload_n (pc := 950) hx hb dL_law_950 rfl (lv_at hl 2 rfl) ?_
  refine lcall_i (pc := 951) (n := 0) (rest := [.int r]) [] X hP hS hAD (c_X12_temper e2) ⟨w_2b4eb83b39, w_83c0643ed9, w_f82d25fae7, w_0572e64aab, w_fb8eedfa06, ⟨by decide, by decide, by decide +kernel⟩⟩ (rcM X hP) rfl ⟨rfl, rfl, Nat.le_of_ble_eq_true rfl, Nat.le_of_ble_eq_true rfl⟩ hl rfl (Nat.le_of_ble_eq_true rfl) dL_law_951 ⟨Nat.le_of_ble_eq_true rfl, Nat.le_of_ble_eq_true rfl⟩ (fun H locs hP hS => ?_)
  refine lv_icmp_eq (pc := 954) (tgt := 1575) hx hb dL_law_954 (by decide) (fun _ => ?_) (fun c9 => absurd rfl c9)
  exact K _ _ H locs ls hI1 hP hS hl
set_option maxHeartbeats 4000000 in
set_option maxRecDepth 100000 in
theorem law_22 {b L i : Nat} {xs : Nat → Int32} (X : Cx p s m #[Value.ref b] meth c cL_law RL 4 (some .boolean) dC dI ad bd cI cZ) (hAD : ∀ q, AD ad bd q → s.heap.size ≤ q) (hX : va_X b L xs s s.heap) (hbl : b < s.heap.size) (hL : L ≤ 3072) (hi : i + 6 ≤ L) (hI : Inv C D) (hP : va_P (dC, dI) vwCl (wl ad bd cI cZ C D) H) (hS : va_S (fun q => s.heap.size ≤ q) s.heap H locs) (hl : lv_has ls 4 [(0, .ref b), (1, .ref (ad 0)), (2, .ref (bd 0)), (3, .int (nI i))]) (K : ∀ (C D : Mem) (H : Heap) (locs : List Loc) (ls : Array Slot), Inv C D → va_P (dC, dI) vwCl (wl ad bd cI cZ C D) H → va_S (fun q => s.heap.size ≤ q) s.heap H locs → lv_has ls 4 [(0, .ref b), (1, .ref (ad 0)), (2, .ref (bd 0)), (3, .int (nI i))] → W p l e room_1 s m #[Value.ref b] below meth c H locs 78 3498 (lw_Z below #[Value.ref b] s) (F0 m 1575 ls [])) : W p l e room_1 s m #[Value.ref b] below meth c H locs 78 3498 (lw_Z below #[Value.ref b] s) (F0 m 33 ls [.int 22]) := by
  have hx := X.1
  have hb := X.2.1
  have hbA : ¬ (fun q => s.heap.size ≤ q) b := Nat.not_le.mpr hbl
  obtain ⟨r, C1, D1, e1, e2, hI1⟩ := ok_two hI (xs (nI i + 1).toNatClampNeg) (xs (nI i + 2).toNatClampNeg)
  refine lv_tableIn (pc := 33) (x := 22) (tgt := 959) hx hb dL_law_33 (by decide) (by decide) rfl (by decide) ?_
  refine lv_aload_n (pc := 959) hx hb dL_law_959 rfl (lv_at hl 1 rfl) ?_
  refine lv_aload_n (pc := 960) hx hb dL_law_960 rfl (lv_at hl 0 rfl) ?_
  refine lv_iload_n (pc := 961) hx hb dL_law_961 rfl (lv_at hl 3 rfl) ?_
  refine lv_iconst (pc := 962) (v := 1) hx hb dL_law_962 (by decide) ?_
  refine lv_iadd (pc := 963) hx hb dL_law_963 ?_
  refine va_sld (pc := 964) hx hb hX hbl hbA hS (sc_in (n := 1) hi hL rfl (by decide)) dL_law_964 ?_
  refine lv_aload_n (pc := 965) hx hb dL_law_965 rfl (lv_at hl 0 rfl) ?_
  refine lv_iload_n (pc := 966) hx hb dL_law_966 rfl (lv_at hl 3 rfl) ?_
  refine lv_iconst (pc := 967) (v := 2) hx hb dL_law_967 (by decide) ?_
  refine lv_iadd (pc := 968) hx hb dL_law_968 ?_
  refine va_sld (pc := 969) hx hb hX hbl hbA hS (sc_in (n := 2) hi hL rfl (by decide)) dL_law_969 ?_
  refine lcall_i (pc := 970) (n := 2) (rest := []) [.int (xs (nI i + 1).toNatClampNeg), .int (xs (nI i + 2).toNatClampNeg)] X hP hS hAD (c_X11_two (xs (nI i + 1).toNatClampNeg) (xs (nI i + 2).toNatClampNeg) e1) ⟨w_cf7a4ee408, w_983645c86a, w_e7edaf7143, w_49aa9c5b25, w_6e0808d5d7, ⟨by decide, by decide, by decide +kernel⟩⟩ (rcX X hP) rfl ⟨rfl, rfl, Nat.le_of_ble_eq_true rfl, Nat.le_of_ble_eq_true rfl⟩ hl rfl (Nat.le_of_ble_eq_true rfl) dL_law_970 ⟨Nat.le_of_ble_eq_true rfl, Nat.le_of_ble_eq_true rfl⟩ (fun H locs hP hS => ?_)
  refine lv_aload_n (pc := 973) hx hb dL_law_973 rfl (lv_at hl 2 rfl) ?_
  refine lv_aload_n (pc := 974) hx hb dL_law_974 rfl (lv_at hl 0 rfl) ?_
  refine lv_iload_n (pc := 975) hx hb dL_law_975 rfl (lv_at hl 3 rfl) ?_
  refine lv_iconst (pc := 976) (v := 1) hx hb dL_law_976 (by decide) ?_
  refine lv_iadd (pc := 977) hx hb dL_law_977 ?_
  refine va_sld (pc := 978) hx hb hX hbl hbA hS (sc_in (n := 1) hi hL rfl (by decide)) dL_law_978 ?_
  refine lv_aload_n (pc := 979) hx hb dL_law_979 rfl (lv_at hl 0 rfl) ?_
  refine lv_iload_n (pc := 980) hx hb dL_law_980 rfl (lv_at hl 3 rfl) ?_
  refine lv_iconst (pc := 981) (v := 2) hx hb dL_law_981 (by decide) ?_
  refine lv_iadd (pc := 982) hx hb dL_law_982 ?_
  refine va_sld (pc := 983) hx hb hX hbl hbA hS (sc_in (n := 2) hi hL rfl (by decide)) dL_law_983 ?_
  refine lcall_i (pc := 984) (n := 2) (rest := [.int r]) [.int (xs (nI i + 1).toNatClampNeg), .int (xs (nI i + 2).toNatClampNeg)] X hP hS hAD (c_X12_two (xs (nI i + 1).toNatClampNeg) (xs (nI i + 2).toNatClampNeg) e2) ⟨w_9f9b9d0290, w_4659fe337d, w_f82d25fae7, w_4bd4440b82, w_8aefeb9465, ⟨by decide, by decide, by decide +kernel⟩⟩ (rcM X hP) rfl ⟨rfl, rfl, Nat.le_of_ble_eq_true rfl, Nat.le_of_ble_eq_true rfl⟩ hl rfl (Nat.le_of_ble_eq_true rfl) dL_law_984 ⟨Nat.le_of_ble_eq_true rfl, Nat.le_of_ble_eq_true rfl⟩ (fun H locs hP hS => ?_)
  refine lv_icmp_eq (pc := 987) (tgt := 1575) hx hb dL_law_987 (by decide) (fun _ => ?_) (fun c9 => absurd rfl c9)
  exact K _ _ H locs ls hI1 hP hS hl
set_option maxHeartbeats 4000000 in
set_option maxRecDepth 100000 in
theorem law_23 {b L i : Nat} {xs : Nat → Int32} (X : Cx p s m #[Value.ref b] meth c cL_law RL 4 (some .boolean) dC dI ad bd cI cZ) (hAD : ∀ q, AD ad bd q → s.heap.size ≤ q) (hX : va_X b L xs s s.heap) (hbl : b < s.heap.size) (hL : L ≤ 3072) (hi : i + 6 ≤ L) (hI : Inv C D) (hP : va_P (dC, dI) vwCl (wl ad bd cI cZ C D) H) (hS : va_S (fun q => s.heap.size ≤ q) s.heap H locs) (hl : lv_has ls 4 [(0, .ref b), (1, .ref (ad 0)), (2, .ref (bd 0)), (3, .int (nI i))]) (K : ∀ (C D : Mem) (H : Heap) (locs : List Loc) (ls : Array Slot), Inv C D → va_P (dC, dI) vwCl (wl ad bd cI cZ C D) H → va_S (fun q => s.heap.size ≤ q) s.heap H locs → lv_has ls 4 [(0, .ref b), (1, .ref (ad 0)), (2, .ref (bd 0)), (3, .int (nI i))] → W p l e room_1 s m #[Value.ref b] below meth c H locs 78 3498 (lw_Z below #[Value.ref b] s) (F0 m 1575 ls [])) : W p l e room_1 s m #[Value.ref b] below meth c H locs 78 3498 (lw_Z below #[Value.ref b] s) (F0 m 33 ls [.int 23]) := by
  have hx := X.1
  have hb := X.2.1
  have hbA : ¬ (fun q => s.heap.size ≤ q) b := Nat.not_le.mpr hbl
  obtain ⟨r, C1, D1, e1, e2, hI1⟩ := ok_thing hI (xs (nI i + 1).toNatClampNeg) (xs (nI i + 2).toNatClampNeg) (xs (nI i + 3).toNatClampNeg) (xs (nI i + 4).toNatClampNeg)
  refine lv_tableIn (pc := 33) (x := 23) (tgt := 992) hx hb dL_law_33 (by decide) (by decide) rfl (by decide) ?_
  refine lv_aload_n (pc := 992) hx hb dL_law_992 rfl (lv_at hl 1 rfl) ?_
  refine lv_aload_n (pc := 993) hx hb dL_law_993 rfl (lv_at hl 0 rfl) ?_
  refine lv_iload_n (pc := 994) hx hb dL_law_994 rfl (lv_at hl 3 rfl) ?_
  refine lv_iconst (pc := 995) (v := 1) hx hb dL_law_995 (by decide) ?_
  refine lv_iadd (pc := 996) hx hb dL_law_996 ?_
  refine va_sld (pc := 997) hx hb hX hbl hbA hS (sc_in (n := 1) hi hL rfl (by decide)) dL_law_997 ?_
  refine lv_aload_n (pc := 998) hx hb dL_law_998 rfl (lv_at hl 0 rfl) ?_
  refine lv_iload_n (pc := 999) hx hb dL_law_999 rfl (lv_at hl 3 rfl) ?_
  refine lv_iconst (pc := 1000) (v := 2) hx hb dL_law_1000 (by decide) ?_
  refine lv_iadd (pc := 1001) hx hb dL_law_1001 ?_
  refine va_sld (pc := 1002) hx hb hX hbl hbA hS (sc_in (n := 2) hi hL rfl (by decide)) dL_law_1002 ?_
  refine lv_aload_n (pc := 1003) hx hb dL_law_1003 rfl (lv_at hl 0 rfl) ?_
  refine lv_iload_n (pc := 1004) hx hb dL_law_1004 rfl (lv_at hl 3 rfl) ?_
  refine lv_iconst (pc := 1005) (v := 3) hx hb dL_law_1005 (by decide) ?_
  refine lv_iadd (pc := 1006) hx hb dL_law_1006 ?_
  refine va_sld (pc := 1007) hx hb hX hbl hbA hS (sc_in (n := 3) hi hL rfl (by decide)) dL_law_1007 ?_
  refine lv_aload_n (pc := 1008) hx hb dL_law_1008 rfl (lv_at hl 0 rfl) ?_
  refine lv_iload_n (pc := 1009) hx hb dL_law_1009 rfl (lv_at hl 3 rfl) ?_
  refine lv_iconst (pc := 1010) (v := 4) hx hb dL_law_1010 (by decide) ?_
  refine lv_iadd (pc := 1011) hx hb dL_law_1011 ?_
  refine va_sld (pc := 1012) hx hb hX hbl hbA hS (sc_in (n := 4) hi hL rfl (by decide)) dL_law_1012 ?_
  refine lcall_i (pc := 1013) (n := 4) (rest := []) [.int (xs (nI i + 1).toNatClampNeg), .int (xs (nI i + 2).toNatClampNeg), .int (xs (nI i + 3).toNatClampNeg), .int (xs (nI i + 4).toNatClampNeg)] X hP hS hAD (c_X11_thing (xs (nI i + 1).toNatClampNeg) (xs (nI i + 2).toNatClampNeg) (xs (nI i + 3).toNatClampNeg) (xs (nI i + 4).toNatClampNeg) e1) ⟨w_a079098b7d, w_9dda7d0df3, w_e7edaf7143, w_383e97eb83, w_3e7b56314f, ⟨by decide, by decide, by decide +kernel⟩⟩ (rcX X hP) rfl ⟨rfl, rfl, Nat.le_of_ble_eq_true rfl, Nat.le_of_ble_eq_true rfl⟩ hl rfl (Nat.le_of_ble_eq_true rfl) dL_law_1013 ⟨Nat.le_of_ble_eq_true rfl, Nat.le_of_ble_eq_true rfl⟩ (fun H locs hP hS => ?_)
  refine lv_aload_n (pc := 1016) hx hb dL_law_1016 rfl (lv_at hl 2 rfl) ?_
  refine lv_aload_n (pc := 1017) hx hb dL_law_1017 rfl (lv_at hl 0 rfl) ?_
  refine lv_iload_n (pc := 1018) hx hb dL_law_1018 rfl (lv_at hl 3 rfl) ?_
  refine lv_iconst (pc := 1019) (v := 1) hx hb dL_law_1019 (by decide) ?_
  refine lv_iadd (pc := 1020) hx hb dL_law_1020 ?_
  refine va_sld (pc := 1021) hx hb hX hbl hbA hS (sc_in (n := 1) hi hL rfl (by decide)) dL_law_1021 ?_
  refine lv_aload_n (pc := 1022) hx hb dL_law_1022 rfl (lv_at hl 0 rfl) ?_
  refine lv_iload_n (pc := 1023) hx hb dL_law_1023 rfl (lv_at hl 3 rfl) ?_
  refine lv_iconst (pc := 1024) (v := 2) hx hb dL_law_1024 (by decide) ?_
  refine lv_iadd (pc := 1025) hx hb dL_law_1025 ?_
  refine va_sld (pc := 1026) hx hb hX hbl hbA hS (sc_in (n := 2) hi hL rfl (by decide)) dL_law_1026 ?_
  refine lv_aload_n (pc := 1027) hx hb dL_law_1027 rfl (lv_at hl 0 rfl) ?_
  refine lv_iload_n (pc := 1028) hx hb dL_law_1028 rfl (lv_at hl 3 rfl) ?_
  refine lv_iconst (pc := 1029) (v := 3) hx hb dL_law_1029 (by decide) ?_
  refine lv_iadd (pc := 1030) hx hb dL_law_1030 ?_
  refine va_sld (pc := 1031) hx hb hX hbl hbA hS (sc_in (n := 3) hi hL rfl (by decide)) dL_law_1031 ?_
  refine lv_aload_n (pc := 1032) hx hb dL_law_1032 rfl (lv_at hl 0 rfl) ?_
  refine lv_iload_n (pc := 1033) hx hb dL_law_1033 rfl (lv_at hl 3 rfl) ?_
  refine lv_iconst (pc := 1034) (v := 4) hx hb dL_law_1034 (by decide) ?_
  refine lv_iadd (pc := 1035) hx hb dL_law_1035 ?_
  refine va_sld (pc := 1036) hx hb hX hbl hbA hS (sc_in (n := 4) hi hL rfl (by decide)) dL_law_1036 ?_
  refine lcall_i (pc := 1037) (n := 4) (rest := [.int r]) [.int (xs (nI i + 1).toNatClampNeg), .int (xs (nI i + 2).toNatClampNeg), .int (xs (nI i + 3).toNatClampNeg), .int (xs (nI i + 4).toNatClampNeg)] X hP hS hAD (c_X12_thing (xs (nI i + 1).toNatClampNeg) (xs (nI i + 2).toNatClampNeg) (xs (nI i + 3).toNatClampNeg) (xs (nI i + 4).toNatClampNeg) e2) ⟨w_2ea1c4cdc9, w_76c54c5657, w_f82d25fae7, w_1b3402ba1e, w_ecd3a4ebe5, ⟨by decide, by decide, by decide +kernel⟩⟩ (rcM X hP) rfl ⟨rfl, rfl, Nat.le_of_ble_eq_true rfl, Nat.le_of_ble_eq_true rfl⟩ hl rfl (Nat.le_of_ble_eq_true rfl) dL_law_1037 ⟨Nat.le_of_ble_eq_true rfl, Nat.le_of_ble_eq_true rfl⟩ (fun H locs hP hS => ?_)
  refine lv_icmp_eq (pc := 1040) (tgt := 1575) hx hb dL_law_1040 (by decide) (fun _ => ?_) (fun c9 => absurd rfl c9)
  exact K _ _ H locs ls hI1 hP hS hl
set_option maxHeartbeats 4000000 in
set_option maxRecDepth 100000 in
theorem law_24 {b L i : Nat} {xs : Nat → Int32} (X : Cx p s m #[Value.ref b] meth c cL_law RL 4 (some .boolean) dC dI ad bd cI cZ) (hAD : ∀ q, AD ad bd q → s.heap.size ≤ q) (hX : va_X b L xs s s.heap) (hbl : b < s.heap.size) (hL : L ≤ 3072) (hi : i + 6 ≤ L) (hI : Inv C D) (hP : va_P (dC, dI) vwCl (wl ad bd cI cZ C D) H) (hS : va_S (fun q => s.heap.size ≤ q) s.heap H locs) (hl : lv_has ls 4 [(0, .ref b), (1, .ref (ad 0)), (2, .ref (bd 0)), (3, .int (nI i))]) (K : ∀ (C D : Mem) (H : Heap) (locs : List Loc) (ls : Array Slot), Inv C D → va_P (dC, dI) vwCl (wl ad bd cI cZ C D) H → va_S (fun q => s.heap.size ≤ q) s.heap H locs → lv_has ls 4 [(0, .ref b), (1, .ref (ad 0)), (2, .ref (bd 0)), (3, .int (nI i))] → W p l e room_1 s m #[Value.ref b] below meth c H locs 78 3498 (lw_Z below #[Value.ref b] s) (F0 m 1575 ls [])) : W p l e room_1 s m #[Value.ref b] below meth c H locs 78 3498 (lw_Z below #[Value.ref b] s) (F0 m 33 ls [.int 24]) := by
  have hx := X.1
  have hb := X.2.1
  have hbA : ¬ (fun q => s.heap.size ≤ q) b := Nat.not_le.mpr hbl
  obtain ⟨r, C1, D1, e1, e2, hI1⟩ := ok_goes hI (xs (nI i + 1).toNatClampNeg)
  refine lv_tableIn (pc := 33) (x := 24) (tgt := 1045) hx hb dL_law_33 (by decide) (by decide) rfl (by decide) ?_
  refine lv_aload_n (pc := 1045) hx hb dL_law_1045 rfl (lv_at hl 1 rfl) ?_
  refine lv_aload_n (pc := 1046) hx hb dL_law_1046 rfl (lv_at hl 0 rfl) ?_
  refine lv_iload_n (pc := 1047) hx hb dL_law_1047 rfl (lv_at hl 3 rfl) ?_
  refine lv_iconst (pc := 1048) (v := 1) hx hb dL_law_1048 (by decide) ?_
  refine lv_iadd (pc := 1049) hx hb dL_law_1049 ?_
  refine va_sld (pc := 1050) hx hb hX hbl hbA hS (sc_in (n := 1) hi hL rfl (by decide)) dL_law_1050 ?_
  refine lcall_i (pc := 1051) (n := 1) (rest := []) [.int (xs (nI i + 1).toNatClampNeg)] X hP hS hAD (c_X11_goes (xs (nI i + 1).toNatClampNeg) e1) ⟨w_84985d6bf7, w_eb2b62eb06, w_e7edaf7143, w_f51d8037b7, w_f7408b38fd, ⟨by decide, by decide, by decide +kernel⟩⟩ (rcX X hP) rfl ⟨rfl, rfl, Nat.le_of_ble_eq_true rfl, Nat.le_of_ble_eq_true rfl⟩ hl rfl (Nat.le_of_ble_eq_true rfl) dL_law_1051 ⟨Nat.le_of_ble_eq_true rfl, Nat.le_of_ble_eq_true rfl⟩ (fun H locs hP hS => ?_)
  refine lv_aload_n (pc := 1054) hx hb dL_law_1054 rfl (lv_at hl 2 rfl) ?_
  refine lv_aload_n (pc := 1055) hx hb dL_law_1055 rfl (lv_at hl 0 rfl) ?_
  refine lv_iload_n (pc := 1056) hx hb dL_law_1056 rfl (lv_at hl 3 rfl) ?_
  refine lv_iconst (pc := 1057) (v := 1) hx hb dL_law_1057 (by decide) ?_
  refine lv_iadd (pc := 1058) hx hb dL_law_1058 ?_
  refine va_sld (pc := 1059) hx hb hX hbl hbA hS (sc_in (n := 1) hi hL rfl (by decide)) dL_law_1059 ?_
  refine lcall_i (pc := 1060) (n := 1) (rest := [.int r]) [.int (xs (nI i + 1).toNatClampNeg)] X hP hS hAD (c_X12_goes (xs (nI i + 1).toNatClampNeg) e2) ⟨w_9d7d964129, w_fc1c5730c5, w_f82d25fae7, w_021dd779e0, w_1f32142fa0, ⟨by decide, by decide, by decide +kernel⟩⟩ (rcM X hP) rfl ⟨rfl, rfl, Nat.le_of_ble_eq_true rfl, Nat.le_of_ble_eq_true rfl⟩ hl rfl (Nat.le_of_ble_eq_true rfl) dL_law_1060 ⟨Nat.le_of_ble_eq_true rfl, Nat.le_of_ble_eq_true rfl⟩ (fun H locs hP hS => ?_)
  refine lv_icmp_eq (pc := 1063) (tgt := 1575) hx hb dL_law_1063 (by decide) (fun _ => ?_) (fun c9 => absurd rfl c9)
  exact K _ _ H locs ls hI1 hP hS hl
set_option maxHeartbeats 4000000 in
set_option maxRecDepth 100000 in
theorem law_25 {b L i : Nat} {xs : Nat → Int32} (X : Cx p s m #[Value.ref b] meth c cL_law RL 4 (some .boolean) dC dI ad bd cI cZ) (hAD : ∀ q, AD ad bd q → s.heap.size ≤ q) (hX : va_X b L xs s s.heap) (hbl : b < s.heap.size) (hL : L ≤ 3072) (hi : i + 6 ≤ L) (hI : Inv C D) (hP : va_P (dC, dI) vwCl (wl ad bd cI cZ C D) H) (hS : va_S (fun q => s.heap.size ≤ q) s.heap H locs) (hl : lv_has ls 4 [(0, .ref b), (1, .ref (ad 0)), (2, .ref (bd 0)), (3, .int (nI i))]) (K : ∀ (C D : Mem) (H : Heap) (locs : List Loc) (ls : Array Slot), Inv C D → va_P (dC, dI) vwCl (wl ad bd cI cZ C D) H → va_S (fun q => s.heap.size ≤ q) s.heap H locs → lv_has ls 4 [(0, .ref b), (1, .ref (ad 0)), (2, .ref (bd 0)), (3, .int (nI i))] → W p l e room_1 s m #[Value.ref b] below meth c H locs 78 3498 (lw_Z below #[Value.ref b] s) (F0 m 1575 ls [])) : W p l e room_1 s m #[Value.ref b] below meth c H locs 78 3498 (lw_Z below #[Value.ref b] s) (F0 m 33 ls [.int 25]) := by
  have hx := X.1
  have hb := X.2.1
  have hbA : ¬ (fun q => s.heap.size ≤ q) b := Nat.not_le.mpr hbl
  obtain ⟨r, C1, D1, e1, e2, hI1⟩ := ok_looked hI
  refine lv_tableIn (pc := 33) (x := 25) (tgt := 1068) hx hb dL_law_33 (by decide) (by decide) rfl (by decide) ?_
  refine lv_aload_n (pc := 1068) hx hb dL_law_1068 rfl (lv_at hl 1 rfl) ?_
  refine lcall_i (pc := 1069) (n := 0) (rest := []) [] X hP hS hAD (c_X11_looked e1) ⟨w_72c195c174, w_32636e2701, w_e7edaf7143, w_b10a1732e5, w_aed672bdc3, ⟨by decide, by decide, by decide +kernel⟩⟩ (rcX X hP) rfl ⟨rfl, rfl, Nat.le_of_ble_eq_true rfl, Nat.le_of_ble_eq_true rfl⟩ hl rfl (Nat.le_of_ble_eq_true rfl) dL_law_1069 ⟨Nat.le_of_ble_eq_true rfl, Nat.le_of_ble_eq_true rfl⟩ (fun H locs hP hS => ?_)
  refine lv_aload_n (pc := 1072) hx hb dL_law_1072 rfl (lv_at hl 2 rfl) ?_
  refine lcall_i (pc := 1073) (n := 0) (rest := [.int r]) [] X hP hS hAD (c_X12_looked e2) ⟨w_0e13901c18, w_a27a2504e6, w_f82d25fae7, w_d59366a529, w_cff22e9936, ⟨by decide, by decide, by decide +kernel⟩⟩ (rcM X hP) rfl ⟨rfl, rfl, Nat.le_of_ble_eq_true rfl, Nat.le_of_ble_eq_true rfl⟩ hl rfl (Nat.le_of_ble_eq_true rfl) dL_law_1073 ⟨Nat.le_of_ble_eq_true rfl, Nat.le_of_ble_eq_true rfl⟩ (fun H locs hP hS => ?_)
  refine lv_icmp_eq (pc := 1076) (tgt := 1575) hx hb dL_law_1076 (by decide) (fun _ => ?_) (fun c9 => absurd rfl c9)
  exact K _ _ H locs ls hI1 hP hS hl
set_option maxHeartbeats 4000000 in
set_option maxRecDepth 100000 in
theorem law_26 {b L i : Nat} {xs : Nat → Int32} (X : Cx p s m #[Value.ref b] meth c cL_law RL 4 (some .boolean) dC dI ad bd cI cZ) (hAD : ∀ q, AD ad bd q → s.heap.size ≤ q) (hX : va_X b L xs s s.heap) (hbl : b < s.heap.size) (hL : L ≤ 3072) (hi : i + 6 ≤ L) (hI : Inv C D) (hP : va_P (dC, dI) vwCl (wl ad bd cI cZ C D) H) (hS : va_S (fun q => s.heap.size ≤ q) s.heap H locs) (hl : lv_has ls 4 [(0, .ref b), (1, .ref (ad 0)), (2, .ref (bd 0)), (3, .int (nI i))]) (K : ∀ (C D : Mem) (H : Heap) (locs : List Loc) (ls : Array Slot), Inv C D → va_P (dC, dI) vwCl (wl ad bd cI cZ C D) H → va_S (fun q => s.heap.size ≤ q) s.heap H locs → lv_has ls 4 [(0, .ref b), (1, .ref (ad 0)), (2, .ref (bd 0)), (3, .int (nI i))] → W p l e room_1 s m #[Value.ref b] below meth c H locs 78 3498 (lw_Z below #[Value.ref b] s) (F0 m 1575 ls [])) : W p l e room_1 s m #[Value.ref b] below meth c H locs 78 3498 (lw_Z below #[Value.ref b] s) (F0 m 33 ls [.int 26]) := by
  have hx := X.1
  have hb := X.2.1
  have hbA : ¬ (fun q => s.heap.size ≤ q) b := Nat.not_le.mpr hbl
  obtain ⟨r, C1, D1, e1, e2, hI1⟩ := ok_story hI (xs (nI i + 1).toNatClampNeg) (xs (nI i + 2).toNatClampNeg) (xs (nI i + 3).toNatClampNeg)
  refine lv_tableIn (pc := 33) (x := 26) (tgt := 1081) hx hb dL_law_33 (by decide) (by decide) rfl (by decide) ?_
  refine lv_aload_n (pc := 1081) hx hb dL_law_1081 rfl (lv_at hl 1 rfl) ?_
  refine lv_aload_n (pc := 1082) hx hb dL_law_1082 rfl (lv_at hl 0 rfl) ?_
  refine lv_iload_n (pc := 1083) hx hb dL_law_1083 rfl (lv_at hl 3 rfl) ?_
  refine lv_iconst (pc := 1084) (v := 1) hx hb dL_law_1084 (by decide) ?_
  refine lv_iadd (pc := 1085) hx hb dL_law_1085 ?_
  refine va_sld (pc := 1086) hx hb hX hbl hbA hS (sc_in (n := 1) hi hL rfl (by decide)) dL_law_1086 ?_
  refine lv_aload_n (pc := 1087) hx hb dL_law_1087 rfl (lv_at hl 0 rfl) ?_
  refine lv_iload_n (pc := 1088) hx hb dL_law_1088 rfl (lv_at hl 3 rfl) ?_
  refine lv_iconst (pc := 1089) (v := 2) hx hb dL_law_1089 (by decide) ?_
  refine lv_iadd (pc := 1090) hx hb dL_law_1090 ?_
  refine va_sld (pc := 1091) hx hb hX hbl hbA hS (sc_in (n := 2) hi hL rfl (by decide)) dL_law_1091 ?_
  refine lv_aload_n (pc := 1092) hx hb dL_law_1092 rfl (lv_at hl 0 rfl) ?_
  refine lv_iload_n (pc := 1093) hx hb dL_law_1093 rfl (lv_at hl 3 rfl) ?_
  refine lv_iconst (pc := 1094) (v := 3) hx hb dL_law_1094 (by decide) ?_
  refine lv_iadd (pc := 1095) hx hb dL_law_1095 ?_
  refine va_sld (pc := 1096) hx hb hX hbl hbA hS (sc_in (n := 3) hi hL rfl (by decide)) dL_law_1096 ?_
  refine lcall_i (pc := 1097) (n := 3) (rest := []) [.int (xs (nI i + 1).toNatClampNeg), .int (xs (nI i + 2).toNatClampNeg), .int (xs (nI i + 3).toNatClampNeg)] X hP hS hAD (c_X11_story (xs (nI i + 1).toNatClampNeg) (xs (nI i + 2).toNatClampNeg) (xs (nI i + 3).toNatClampNeg) e1) ⟨w_e70700288b, w_15e1b3409f, w_e7edaf7143, w_9a3f55dffa, w_25811c714f, ⟨by decide, by decide, by decide +kernel⟩⟩ (rcX X hP) rfl ⟨rfl, rfl, Nat.le_of_ble_eq_true rfl, Nat.le_of_ble_eq_true rfl⟩ hl rfl (Nat.le_of_ble_eq_true rfl) dL_law_1097 ⟨Nat.le_of_ble_eq_true rfl, Nat.le_of_ble_eq_true rfl⟩ (fun H locs hP hS => ?_)
  refine lv_aload_n (pc := 1100) hx hb dL_law_1100 rfl (lv_at hl 2 rfl) ?_
  refine lv_aload_n (pc := 1101) hx hb dL_law_1101 rfl (lv_at hl 0 rfl) ?_
  refine lv_iload_n (pc := 1102) hx hb dL_law_1102 rfl (lv_at hl 3 rfl) ?_
  refine lv_iconst (pc := 1103) (v := 1) hx hb dL_law_1103 (by decide) ?_
  refine lv_iadd (pc := 1104) hx hb dL_law_1104 ?_
  refine va_sld (pc := 1105) hx hb hX hbl hbA hS (sc_in (n := 1) hi hL rfl (by decide)) dL_law_1105 ?_
  refine lv_aload_n (pc := 1106) hx hb dL_law_1106 rfl (lv_at hl 0 rfl) ?_
  refine lv_iload_n (pc := 1107) hx hb dL_law_1107 rfl (lv_at hl 3 rfl) ?_
  refine lv_iconst (pc := 1108) (v := 2) hx hb dL_law_1108 (by decide) ?_
  refine lv_iadd (pc := 1109) hx hb dL_law_1109 ?_
  refine va_sld (pc := 1110) hx hb hX hbl hbA hS (sc_in (n := 2) hi hL rfl (by decide)) dL_law_1110 ?_
  refine lv_aload_n (pc := 1111) hx hb dL_law_1111 rfl (lv_at hl 0 rfl) ?_
  refine lv_iload_n (pc := 1112) hx hb dL_law_1112 rfl (lv_at hl 3 rfl) ?_
  refine lv_iconst (pc := 1113) (v := 3) hx hb dL_law_1113 (by decide) ?_
  refine lv_iadd (pc := 1114) hx hb dL_law_1114 ?_
  refine va_sld (pc := 1115) hx hb hX hbl hbA hS (sc_in (n := 3) hi hL rfl (by decide)) dL_law_1115 ?_
  refine lcall_i (pc := 1116) (n := 3) (rest := [.int r]) [.int (xs (nI i + 1).toNatClampNeg), .int (xs (nI i + 2).toNatClampNeg), .int (xs (nI i + 3).toNatClampNeg)] X hP hS hAD (c_X12_story (xs (nI i + 1).toNatClampNeg) (xs (nI i + 2).toNatClampNeg) (xs (nI i + 3).toNatClampNeg) e2) ⟨w_8eabdca293, w_93b62e443a, w_f82d25fae7, w_eb983173e0, w_ee4f2ec734, ⟨by decide, by decide, by decide +kernel⟩⟩ (rcM X hP) rfl ⟨rfl, rfl, Nat.le_of_ble_eq_true rfl, Nat.le_of_ble_eq_true rfl⟩ hl rfl (Nat.le_of_ble_eq_true rfl) dL_law_1116 ⟨Nat.le_of_ble_eq_true rfl, Nat.le_of_ble_eq_true rfl⟩ (fun H locs hP hS => ?_)
  refine lv_icmp_eq (pc := 1119) (tgt := 1575) hx hb dL_law_1119 (by decide) (fun _ => ?_) (fun c9 => absurd rfl c9)
  exact K _ _ H locs ls hI1 hP hS hl
set_option maxHeartbeats 4000000 in
set_option maxRecDepth 100000 in
theorem law_27 {b L i : Nat} {xs : Nat → Int32} (X : Cx p s m #[Value.ref b] meth c cL_law RL 4 (some .boolean) dC dI ad bd cI cZ) (hAD : ∀ q, AD ad bd q → s.heap.size ≤ q) (hX : va_X b L xs s s.heap) (hbl : b < s.heap.size) (hL : L ≤ 3072) (hi : i + 6 ≤ L) (hI : Inv C D) (hP : va_P (dC, dI) vwCl (wl ad bd cI cZ C D) H) (hS : va_S (fun q => s.heap.size ≤ q) s.heap H locs) (hl : lv_has ls 4 [(0, .ref b), (1, .ref (ad 0)), (2, .ref (bd 0)), (3, .int (nI i))]) (K : ∀ (C D : Mem) (H : Heap) (locs : List Loc) (ls : Array Slot), Inv C D → va_P (dC, dI) vwCl (wl ad bd cI cZ C D) H → va_S (fun q => s.heap.size ≤ q) s.heap H locs → lv_has ls 4 [(0, .ref b), (1, .ref (ad 0)), (2, .ref (bd 0)), (3, .int (nI i))] → W p l e room_1 s m #[Value.ref b] below meth c H locs 78 3498 (lw_Z below #[Value.ref b] s) (F0 m 1575 ls [])) : W p l e room_1 s m #[Value.ref b] below meth c H locs 78 3498 (lw_Z below #[Value.ref b] s) (F0 m 33 ls [.int 27]) := by
  have hx := X.1
  have hb := X.2.1
  have hbA : ¬ (fun q => s.heap.size ≤ q) b := Nat.not_le.mpr hbl
  obtain ⟨r, C1, e1, e2, hI1⟩ := ok_odds hI (xs (nI i + 1).toNatClampNeg) (xs (nI i + 2).toNatClampNeg) (xs (nI i + 3).toNatClampNeg)
  refine lv_tableIn (pc := 33) (x := 27) (tgt := 1124) hx hb dL_law_33 (by decide) (by decide) rfl (by decide) ?_
  refine lv_aload_n (pc := 1124) hx hb dL_law_1124 rfl (lv_at hl 1 rfl) ?_
  refine lv_aload_n (pc := 1125) hx hb dL_law_1125 rfl (lv_at hl 0 rfl) ?_
  refine lv_iload_n (pc := 1126) hx hb dL_law_1126 rfl (lv_at hl 3 rfl) ?_
  refine lv_iconst (pc := 1127) (v := 1) hx hb dL_law_1127 (by decide) ?_
  refine lv_iadd (pc := 1128) hx hb dL_law_1128 ?_
  refine va_sld (pc := 1129) hx hb hX hbl hbA hS (sc_in (n := 1) hi hL rfl (by decide)) dL_law_1129 ?_
  refine lv_aload_n (pc := 1130) hx hb dL_law_1130 rfl (lv_at hl 0 rfl) ?_
  refine lv_iload_n (pc := 1131) hx hb dL_law_1131 rfl (lv_at hl 3 rfl) ?_
  refine lv_iconst (pc := 1132) (v := 2) hx hb dL_law_1132 (by decide) ?_
  refine lv_iadd (pc := 1133) hx hb dL_law_1133 ?_
  refine va_sld (pc := 1134) hx hb hX hbl hbA hS (sc_in (n := 2) hi hL rfl (by decide)) dL_law_1134 ?_
  refine lv_aload_n (pc := 1135) hx hb dL_law_1135 rfl (lv_at hl 0 rfl) ?_
  refine lv_iload_n (pc := 1136) hx hb dL_law_1136 rfl (lv_at hl 3 rfl) ?_
  refine lv_iconst (pc := 1137) (v := 3) hx hb dL_law_1137 (by decide) ?_
  refine lv_iadd (pc := 1138) hx hb dL_law_1138 ?_
  refine va_sld (pc := 1139) hx hb hX hbl hbA hS (sc_in (n := 3) hi hL rfl (by decide)) dL_law_1139 ?_
  refine lcall_l (pc := 1140) (n := 3) (rest := []) [.int (xs (nI i + 1).toNatClampNeg), .int (xs (nI i + 2).toNatClampNeg), .int (xs (nI i + 3).toNatClampNeg)] X hP hS hAD (c_X11_odds (xs (nI i + 1).toNatClampNeg) (xs (nI i + 2).toNatClampNeg) (xs (nI i + 3).toNatClampNeg) e1) ⟨w_c0bf8aaf4e, w_2b126a6118, w_e7edaf7143, w_3868cfb6e0, w_018e3656ba, ⟨by decide, by decide, by decide +kernel⟩⟩ (rcX X hP) rfl ⟨rfl, rfl, Nat.le_of_ble_eq_true rfl, Nat.le_of_ble_eq_true rfl⟩ hl rfl (Nat.le_of_ble_eq_true rfl) dL_law_1140 ⟨Nat.le_of_ble_eq_true rfl, Nat.le_of_ble_eq_true rfl⟩ (fun H locs hP hS => ?_)
  refine lv_aload_n (pc := 1143) hx hb dL_law_1143 rfl (lv_at hl 2 rfl) ?_
  refine lv_aload_n (pc := 1144) hx hb dL_law_1144 rfl (lv_at hl 0 rfl) ?_
  refine lv_iload_n (pc := 1145) hx hb dL_law_1145 rfl (lv_at hl 3 rfl) ?_
  refine lv_iconst (pc := 1146) (v := 1) hx hb dL_law_1146 (by decide) ?_
  refine lv_iadd (pc := 1147) hx hb dL_law_1147 ?_
  refine va_sld (pc := 1148) hx hb hX hbl hbA hS (sc_in (n := 1) hi hL rfl (by decide)) dL_law_1148 ?_
  refine lv_aload_n (pc := 1149) hx hb dL_law_1149 rfl (lv_at hl 0 rfl) ?_
  refine lv_iload_n (pc := 1150) hx hb dL_law_1150 rfl (lv_at hl 3 rfl) ?_
  refine lv_iconst (pc := 1151) (v := 2) hx hb dL_law_1151 (by decide) ?_
  refine lv_iadd (pc := 1152) hx hb dL_law_1152 ?_
  refine va_sld (pc := 1153) hx hb hX hbl hbA hS (sc_in (n := 2) hi hL rfl (by decide)) dL_law_1153 ?_
  refine lv_aload_n (pc := 1154) hx hb dL_law_1154 rfl (lv_at hl 0 rfl) ?_
  refine lv_iload_n (pc := 1155) hx hb dL_law_1155 rfl (lv_at hl 3 rfl) ?_
  refine lv_iconst (pc := 1156) (v := 3) hx hb dL_law_1156 (by decide) ?_
  refine lv_iadd (pc := 1157) hx hb dL_law_1157 ?_
  refine va_sld (pc := 1158) hx hb hX hbl hbA hS (sc_in (n := 3) hi hL rfl (by decide)) dL_law_1158 ?_
  refine lcall_l (pc := 1159) (n := 3) (rest := [.long r]) [.int (xs (nI i + 1).toNatClampNeg), .int (xs (nI i + 2).toNatClampNeg), .int (xs (nI i + 3).toNatClampNeg)] X hP hS hAD (c_X12_odds (xs (nI i + 1).toNatClampNeg) (xs (nI i + 2).toNatClampNeg) (xs (nI i + 3).toNatClampNeg) e2) ⟨w_3ce9ef03ce, w_fd8da19b15, w_f82d25fae7, w_18eff65bcc, w_0d86d72d21, ⟨by decide, by decide, by decide +kernel⟩⟩ (rcM X hP) rfl ⟨rfl, rfl, Nat.le_of_ble_eq_true rfl, Nat.le_of_ble_eq_true rfl⟩ hl rfl (Nat.le_of_ble_eq_true rfl) dL_law_1159 ⟨Nat.le_of_ble_eq_true rfl, Nat.le_of_ble_eq_true rfl⟩ (fun H locs hP hS => ?_)
  refine W.lcmp (pc := 1162) hx hb dL_law_1162 ?_
  refine lv_if_eq (pc := 1163) (tgt := 1575) hx hb dL_law_1163 (by decide) (fun _ => ?_) (fun c9 => absurd (lg_self r) c9)
  exact K _ _ H locs ls hI1 hP hS hl
set_option maxHeartbeats 4000000 in
set_option maxRecDepth 100000 in
theorem law_28 {b L i : Nat} {xs : Nat → Int32} (X : Cx p s m #[Value.ref b] meth c cL_law RL 4 (some .boolean) dC dI ad bd cI cZ) (hAD : ∀ q, AD ad bd q → s.heap.size ≤ q) (hX : va_X b L xs s s.heap) (hbl : b < s.heap.size) (hL : L ≤ 3072) (hi : i + 6 ≤ L) (hI : Inv C D) (hP : va_P (dC, dI) vwCl (wl ad bd cI cZ C D) H) (hS : va_S (fun q => s.heap.size ≤ q) s.heap H locs) (hl : lv_has ls 4 [(0, .ref b), (1, .ref (ad 0)), (2, .ref (bd 0)), (3, .int (nI i))]) (K : ∀ (C D : Mem) (H : Heap) (locs : List Loc) (ls : Array Slot), Inv C D → va_P (dC, dI) vwCl (wl ad bd cI cZ C D) H → va_S (fun q => s.heap.size ≤ q) s.heap H locs → lv_has ls 4 [(0, .ref b), (1, .ref (ad 0)), (2, .ref (bd 0)), (3, .int (nI i))] → W p l e room_1 s m #[Value.ref b] below meth c H locs 78 3498 (lw_Z below #[Value.ref b] s) (F0 m 1575 ls [])) : W p l e room_1 s m #[Value.ref b] below meth c H locs 78 3498 (lw_Z below #[Value.ref b] s) (F0 m 33 ls [.int 28]) := by
  have hx := X.1
  have hb := X.2.1
  have hbA : ¬ (fun q => s.heap.size ≤ q) b := Nat.not_le.mpr hbl
  obtain ⟨r, C1, D1, e1, e2, hI1⟩ := ok_round hI (xs (nI i + 1).toNatClampNeg) (xs (nI i + 2).toNatClampNeg)
  refine lv_tableIn (pc := 33) (x := 28) (tgt := 1168) hx hb dL_law_33 (by decide) (by decide) rfl (by decide) ?_
  refine lv_aload_n (pc := 1168) hx hb dL_law_1168 rfl (lv_at hl 1 rfl) ?_
  refine lv_aload_n (pc := 1169) hx hb dL_law_1169 rfl (lv_at hl 0 rfl) ?_
  refine lv_iload_n (pc := 1170) hx hb dL_law_1170 rfl (lv_at hl 3 rfl) ?_
  refine lv_iconst (pc := 1171) (v := 1) hx hb dL_law_1171 (by decide) ?_
  refine lv_iadd (pc := 1172) hx hb dL_law_1172 ?_
  refine va_sld (pc := 1173) hx hb hX hbl hbA hS (sc_in (n := 1) hi hL rfl (by decide)) dL_law_1173 ?_
  refine lv_aload_n (pc := 1174) hx hb dL_law_1174 rfl (lv_at hl 0 rfl) ?_
  refine lv_iload_n (pc := 1175) hx hb dL_law_1175 rfl (lv_at hl 3 rfl) ?_
  refine lv_iconst (pc := 1176) (v := 2) hx hb dL_law_1176 (by decide) ?_
  refine lv_iadd (pc := 1177) hx hb dL_law_1177 ?_
  refine va_sld (pc := 1178) hx hb hX hbl hbA hS (sc_in (n := 2) hi hL rfl (by decide)) dL_law_1178 ?_
  refine lcall_i (pc := 1179) (n := 2) (rest := []) [.int (xs (nI i + 1).toNatClampNeg), .int (xs (nI i + 2).toNatClampNeg)] X hP hS hAD (c_X11_round (xs (nI i + 1).toNatClampNeg) (xs (nI i + 2).toNatClampNeg) e1) ⟨w_cb7890727d, w_bf39ade713, w_e7edaf7143, w_944e4671cb, w_52ecb61e05, ⟨by decide, by decide, by decide +kernel⟩⟩ (rcX X hP) rfl ⟨rfl, rfl, Nat.le_of_ble_eq_true rfl, Nat.le_of_ble_eq_true rfl⟩ hl rfl (Nat.le_of_ble_eq_true rfl) dL_law_1179 ⟨Nat.le_of_ble_eq_true rfl, Nat.le_of_ble_eq_true rfl⟩ (fun H locs hP hS => ?_)
  refine lv_aload_n (pc := 1182) hx hb dL_law_1182 rfl (lv_at hl 2 rfl) ?_
  refine lv_aload_n (pc := 1183) hx hb dL_law_1183 rfl (lv_at hl 0 rfl) ?_
  refine lv_iload_n (pc := 1184) hx hb dL_law_1184 rfl (lv_at hl 3 rfl) ?_
  refine lv_iconst (pc := 1185) (v := 1) hx hb dL_law_1185 (by decide) ?_
  refine lv_iadd (pc := 1186) hx hb dL_law_1186 ?_
  refine va_sld (pc := 1187) hx hb hX hbl hbA hS (sc_in (n := 1) hi hL rfl (by decide)) dL_law_1187 ?_
  refine lv_aload_n (pc := 1188) hx hb dL_law_1188 rfl (lv_at hl 0 rfl) ?_
  refine lv_iload_n (pc := 1189) hx hb dL_law_1189 rfl (lv_at hl 3 rfl) ?_
  refine lv_iconst (pc := 1190) (v := 2) hx hb dL_law_1190 (by decide) ?_
  refine lv_iadd (pc := 1191) hx hb dL_law_1191 ?_
  refine va_sld (pc := 1192) hx hb hX hbl hbA hS (sc_in (n := 2) hi hL rfl (by decide)) dL_law_1192 ?_
  refine lcall_i (pc := 1193) (n := 2) (rest := [.int r]) [.int (xs (nI i + 1).toNatClampNeg), .int (xs (nI i + 2).toNatClampNeg)] X hP hS hAD (c_X12_round (xs (nI i + 1).toNatClampNeg) (xs (nI i + 2).toNatClampNeg) e2) ⟨w_379163f2cd, w_bf2e24e266, w_f82d25fae7, w_595248936a, w_98de555831, ⟨by decide, by decide, by decide +kernel⟩⟩ (rcM X hP) rfl ⟨rfl, rfl, Nat.le_of_ble_eq_true rfl, Nat.le_of_ble_eq_true rfl⟩ hl rfl (Nat.le_of_ble_eq_true rfl) dL_law_1193 ⟨Nat.le_of_ble_eq_true rfl, Nat.le_of_ble_eq_true rfl⟩ (fun H locs hP hS => ?_)
  refine lv_icmp_eq (pc := 1196) (tgt := 1575) hx hb dL_law_1196 (by decide) (fun _ => ?_) (fun c9 => absurd rfl c9)
  exact K _ _ H locs ls hI1 hP hS hl
set_option maxHeartbeats 4000000 in
set_option maxRecDepth 100000 in
theorem law_29 {b L i : Nat} {xs : Nat → Int32} (X : Cx p s m #[Value.ref b] meth c cL_law RL 4 (some .boolean) dC dI ad bd cI cZ) (hAD : ∀ q, AD ad bd q → s.heap.size ≤ q) (hX : va_X b L xs s s.heap) (hbl : b < s.heap.size) (hL : L ≤ 3072) (hi : i + 6 ≤ L) (hI : Inv C D) (hP : va_P (dC, dI) vwCl (wl ad bd cI cZ C D) H) (hS : va_S (fun q => s.heap.size ≤ q) s.heap H locs) (hl : lv_has ls 4 [(0, .ref b), (1, .ref (ad 0)), (2, .ref (bd 0)), (3, .int (nI i))]) (K : ∀ (C D : Mem) (H : Heap) (locs : List Loc) (ls : Array Slot), Inv C D → va_P (dC, dI) vwCl (wl ad bd cI cZ C D) H → va_S (fun q => s.heap.size ≤ q) s.heap H locs → lv_has ls 4 [(0, .ref b), (1, .ref (ad 0)), (2, .ref (bd 0)), (3, .int (nI i))] → W p l e room_1 s m #[Value.ref b] below meth c H locs 78 3498 (lw_Z below #[Value.ref b] s) (F0 m 1575 ls [])) : W p l e room_1 s m #[Value.ref b] below meth c H locs 78 3498 (lw_Z below #[Value.ref b] s) (F0 m 33 ls [.int 29]) := by
  have hx := X.1
  have hb := X.2.1
  have hbA : ¬ (fun q => s.heap.size ≤ q) b := Nat.not_le.mpr hbl
  obtain ⟨r, C1, D1, e1, e2, hI1⟩ := ok_forget hI
  refine lv_tableIn (pc := 33) (x := 29) (tgt := 1201) hx hb dL_law_33 (by decide) (by decide) rfl (by decide) ?_
  refine lv_aload_n (pc := 1201) hx hb dL_law_1201 rfl (lv_at hl 1 rfl) ?_
  refine lcall_i (pc := 1202) (n := 0) (rest := []) [] X hP hS hAD (c_X11_forget e1) ⟨w_23cf449e72, w_03f7b679c3, w_e7edaf7143, w_89f14d23d2, w_ca89c660b9, ⟨by decide, by decide, by decide +kernel⟩⟩ (rcX X hP) rfl ⟨rfl, rfl, Nat.le_of_ble_eq_true rfl, Nat.le_of_ble_eq_true rfl⟩ hl rfl (Nat.le_of_ble_eq_true rfl) dL_law_1202 ⟨Nat.le_of_ble_eq_true rfl, Nat.le_of_ble_eq_true rfl⟩ (fun H locs hP hS => ?_)
  refine lv_aload_n (pc := 1205) hx hb dL_law_1205 rfl (lv_at hl 2 rfl) ?_
  refine lcall_i (pc := 1206) (n := 0) (rest := [.int r]) [] X hP hS hAD (c_X12_forget e2) ⟨w_26e2f791cd, w_23fd71ff77, w_f82d25fae7, w_ad209f6774, w_476389b522, ⟨by decide, by decide, by decide +kernel⟩⟩ (rcM X hP) rfl ⟨rfl, rfl, Nat.le_of_ble_eq_true rfl, Nat.le_of_ble_eq_true rfl⟩ hl rfl (Nat.le_of_ble_eq_true rfl) dL_law_1206 ⟨Nat.le_of_ble_eq_true rfl, Nat.le_of_ble_eq_true rfl⟩ (fun H locs hP hS => ?_)
  refine lv_icmp_eq (pc := 1209) (tgt := 1575) hx hb dL_law_1209 (by decide) (fun _ => ?_) (fun c9 => absurd rfl c9)
  exact K _ _ H locs ls hI1 hP hS hl
set_option maxHeartbeats 4000000 in
set_option maxRecDepth 100000 in
theorem law_30 {b L i : Nat} {xs : Nat → Int32} (X : Cx p s m #[Value.ref b] meth c cL_law RL 4 (some .boolean) dC dI ad bd cI cZ) (hAD : ∀ q, AD ad bd q → s.heap.size ≤ q) (hX : va_X b L xs s s.heap) (hbl : b < s.heap.size) (hL : L ≤ 3072) (hi : i + 6 ≤ L) (hI : Inv C D) (hP : va_P (dC, dI) vwCl (wl ad bd cI cZ C D) H) (hS : va_S (fun q => s.heap.size ≤ q) s.heap H locs) (hl : lv_has ls 4 [(0, .ref b), (1, .ref (ad 0)), (2, .ref (bd 0)), (3, .int (nI i))]) (K : ∀ (C D : Mem) (H : Heap) (locs : List Loc) (ls : Array Slot), Inv C D → va_P (dC, dI) vwCl (wl ad bd cI cZ C D) H → va_S (fun q => s.heap.size ≤ q) s.heap H locs → lv_has ls 4 [(0, .ref b), (1, .ref (ad 0)), (2, .ref (bd 0)), (3, .int (nI i))] → W p l e room_1 s m #[Value.ref b] below meth c H locs 78 3498 (lw_Z below #[Value.ref b] s) (F0 m 1575 ls [])) : W p l e room_1 s m #[Value.ref b] below meth c H locs 78 3498 (lw_Z below #[Value.ref b] s) (F0 m 33 ls [.int 30]) := by
  have hx := X.1
  have hb := X.2.1
  have hbA : ¬ (fun q => s.heap.size ≤ q) b := Nat.not_le.mpr hbl
  obtain ⟨r, e1, e2, hI1⟩ := ok_misses hI (xs (nI i + 1).toNatClampNeg) (xs (nI i + 2).toNatClampNeg)
  refine lv_tableIn (pc := 33) (x := 30) (tgt := 1214) hx hb dL_law_33 (by decide) (by decide) rfl (by decide) ?_
  refine lv_aload_n (pc := 1214) hx hb dL_law_1214 rfl (lv_at hl 1 rfl) ?_
  refine lv_aload_n (pc := 1215) hx hb dL_law_1215 rfl (lv_at hl 0 rfl) ?_
  refine lv_iload_n (pc := 1216) hx hb dL_law_1216 rfl (lv_at hl 3 rfl) ?_
  refine lv_iconst (pc := 1217) (v := 1) hx hb dL_law_1217 (by decide) ?_
  refine lv_iadd (pc := 1218) hx hb dL_law_1218 ?_
  refine va_sld (pc := 1219) hx hb hX hbl hbA hS (sc_in (n := 1) hi hL rfl (by decide)) dL_law_1219 ?_
  refine lv_aload_n (pc := 1220) hx hb dL_law_1220 rfl (lv_at hl 0 rfl) ?_
  refine lv_iload_n (pc := 1221) hx hb dL_law_1221 rfl (lv_at hl 3 rfl) ?_
  refine lv_iconst (pc := 1222) (v := 2) hx hb dL_law_1222 (by decide) ?_
  refine lv_iadd (pc := 1223) hx hb dL_law_1223 ?_
  refine va_sld (pc := 1224) hx hb hX hbl hbA hS (sc_in (n := 2) hi hL rfl (by decide)) dL_law_1224 ?_
  refine lcall_i (pc := 1225) (n := 2) (rest := []) [.int (xs (nI i + 1).toNatClampNeg), .int (xs (nI i + 2).toNatClampNeg)] X hP hS hAD (c_X11_misses (xs (nI i + 1).toNatClampNeg) (xs (nI i + 2).toNatClampNeg) e1) ⟨w_3a12887d74, w_0e2416bc08, w_e7edaf7143, w_e7f11539d6, w_0ac35658f1, ⟨by decide, by decide, by decide +kernel⟩⟩ (rcX X hP) rfl ⟨rfl, rfl, Nat.le_of_ble_eq_true rfl, Nat.le_of_ble_eq_true rfl⟩ hl rfl (Nat.le_of_ble_eq_true rfl) dL_law_1225 ⟨Nat.le_of_ble_eq_true rfl, Nat.le_of_ble_eq_true rfl⟩ (fun H locs hP hS => ?_)
  refine lv_aload_n (pc := 1228) hx hb dL_law_1228 rfl (lv_at hl 2 rfl) ?_
  refine lv_aload_n (pc := 1229) hx hb dL_law_1229 rfl (lv_at hl 0 rfl) ?_
  refine lv_iload_n (pc := 1230) hx hb dL_law_1230 rfl (lv_at hl 3 rfl) ?_
  refine lv_iconst (pc := 1231) (v := 1) hx hb dL_law_1231 (by decide) ?_
  refine lv_iadd (pc := 1232) hx hb dL_law_1232 ?_
  refine va_sld (pc := 1233) hx hb hX hbl hbA hS (sc_in (n := 1) hi hL rfl (by decide)) dL_law_1233 ?_
  refine lv_aload_n (pc := 1234) hx hb dL_law_1234 rfl (lv_at hl 0 rfl) ?_
  refine lv_iload_n (pc := 1235) hx hb dL_law_1235 rfl (lv_at hl 3 rfl) ?_
  refine lv_iconst (pc := 1236) (v := 2) hx hb dL_law_1236 (by decide) ?_
  refine lv_iadd (pc := 1237) hx hb dL_law_1237 ?_
  refine va_sld (pc := 1238) hx hb hX hbl hbA hS (sc_in (n := 2) hi hL rfl (by decide)) dL_law_1238 ?_
  refine lcall_i (pc := 1239) (n := 2) (rest := [.int r]) [.int (xs (nI i + 1).toNatClampNeg), .int (xs (nI i + 2).toNatClampNeg)] X hP hS hAD (c_X12_misses (xs (nI i + 1).toNatClampNeg) (xs (nI i + 2).toNatClampNeg) e2) ⟨w_b3d205f119, w_25495b9539, w_f82d25fae7, w_8b4d7b4637, w_58d9ba83a2, ⟨by decide, by decide, by decide +kernel⟩⟩ (rcM X hP) rfl ⟨rfl, rfl, Nat.le_of_ble_eq_true rfl, Nat.le_of_ble_eq_true rfl⟩ hl rfl (Nat.le_of_ble_eq_true rfl) dL_law_1239 ⟨Nat.le_of_ble_eq_true rfl, Nat.le_of_ble_eq_true rfl⟩ (fun H locs hP hS => ?_)
  refine lv_icmp_eq (pc := 1242) (tgt := 1575) hx hb dL_law_1242 (by decide) (fun _ => ?_) (fun c9 => absurd rfl c9)
  exact K _ _ H locs ls hI1 hP hS hl
set_option maxHeartbeats 4000000 in
set_option maxRecDepth 100000 in
theorem law_31 {b L i : Nat} {xs : Nat → Int32} (X : Cx p s m #[Value.ref b] meth c cL_law RL 4 (some .boolean) dC dI ad bd cI cZ) (hAD : ∀ q, AD ad bd q → s.heap.size ≤ q) (hX : va_X b L xs s s.heap) (hbl : b < s.heap.size) (hL : L ≤ 3072) (hi : i + 6 ≤ L) (hI : Inv C D) (hP : va_P (dC, dI) vwCl (wl ad bd cI cZ C D) H) (hS : va_S (fun q => s.heap.size ≤ q) s.heap H locs) (hl : lv_has ls 4 [(0, .ref b), (1, .ref (ad 0)), (2, .ref (bd 0)), (3, .int (nI i))]) (K : ∀ (C D : Mem) (H : Heap) (locs : List Loc) (ls : Array Slot), Inv C D → va_P (dC, dI) vwCl (wl ad bd cI cZ C D) H → va_S (fun q => s.heap.size ≤ q) s.heap H locs → lv_has ls 4 [(0, .ref b), (1, .ref (ad 0)), (2, .ref (bd 0)), (3, .int (nI i))] → W p l e room_1 s m #[Value.ref b] below meth c H locs 78 3498 (lw_Z below #[Value.ref b] s) (F0 m 1575 ls [])) : W p l e room_1 s m #[Value.ref b] below meth c H locs 78 3498 (lw_Z below #[Value.ref b] s) (F0 m 33 ls [.int 31]) := by
  have hx := X.1
  have hb := X.2.1
  have hbA : ¬ (fun q => s.heap.size ≤ q) b := Nat.not_le.mpr hbl
  obtain ⟨r, C1, e1, e2, hI1⟩ := ok_learnt hI (xs (nI i + 1).toNatClampNeg)
  refine lv_tableIn (pc := 33) (x := 31) (tgt := 1247) hx hb dL_law_33 (by decide) (by decide) rfl (by decide) ?_
  refine lv_aload_n (pc := 1247) hx hb dL_law_1247 rfl (lv_at hl 1 rfl) ?_
  refine lv_aload_n (pc := 1248) hx hb dL_law_1248 rfl (lv_at hl 0 rfl) ?_
  refine lv_iload_n (pc := 1249) hx hb dL_law_1249 rfl (lv_at hl 3 rfl) ?_
  refine lv_iconst (pc := 1250) (v := 1) hx hb dL_law_1250 (by decide) ?_
  refine lv_iadd (pc := 1251) hx hb dL_law_1251 ?_
  refine va_sld (pc := 1252) hx hb hX hbl hbA hS (sc_in (n := 1) hi hL rfl (by decide)) dL_law_1252 ?_
  refine lcall_i (pc := 1253) (n := 1) (rest := []) [.int (xs (nI i + 1).toNatClampNeg)] X hP hS hAD (c_X11_learnt (xs (nI i + 1).toNatClampNeg) e1) ⟨w_7c7c2cd836, w_4cc13676f3, w_e7edaf7143, w_29c0156778, w_fff5eab2ba, ⟨by decide, by decide, by decide +kernel⟩⟩ (rcX X hP) rfl ⟨rfl, rfl, Nat.le_of_ble_eq_true rfl, Nat.le_of_ble_eq_true rfl⟩ hl rfl (Nat.le_of_ble_eq_true rfl) dL_law_1253 ⟨Nat.le_of_ble_eq_true rfl, Nat.le_of_ble_eq_true rfl⟩ (fun H locs hP hS => ?_)
  refine lv_aload_n (pc := 1256) hx hb dL_law_1256 rfl (lv_at hl 2 rfl) ?_
  refine lv_aload_n (pc := 1257) hx hb dL_law_1257 rfl (lv_at hl 0 rfl) ?_
  refine lv_iload_n (pc := 1258) hx hb dL_law_1258 rfl (lv_at hl 3 rfl) ?_
  refine lv_iconst (pc := 1259) (v := 1) hx hb dL_law_1259 (by decide) ?_
  refine lv_iadd (pc := 1260) hx hb dL_law_1260 ?_
  refine va_sld (pc := 1261) hx hb hX hbl hbA hS (sc_in (n := 1) hi hL rfl (by decide)) dL_law_1261 ?_
  refine lcall_i (pc := 1262) (n := 1) (rest := [.int r]) [.int (xs (nI i + 1).toNatClampNeg)] X hP hS hAD (c_X12_learnt (xs (nI i + 1).toNatClampNeg) e2) ⟨w_e86ff3df8b, w_051e7979c7, w_f82d25fae7, w_08f4a66be9, w_1dbdeba7d4, ⟨by decide, by decide, by decide +kernel⟩⟩ (rcM X hP) rfl ⟨rfl, rfl, Nat.le_of_ble_eq_true rfl, Nat.le_of_ble_eq_true rfl⟩ hl rfl (Nat.le_of_ble_eq_true rfl) dL_law_1262 ⟨Nat.le_of_ble_eq_true rfl, Nat.le_of_ble_eq_true rfl⟩ (fun H locs hP hS => ?_)
  refine lv_icmp_eq (pc := 1265) (tgt := 1575) hx hb dL_law_1265 (by decide) (fun _ => ?_) (fun c9 => absurd rfl c9)
  exact K _ _ H locs ls hI1 hP hS hl
set_option maxHeartbeats 4000000 in
set_option maxRecDepth 100000 in
theorem law_32 {b L i : Nat} {xs : Nat → Int32} (X : Cx p s m #[Value.ref b] meth c cL_law RL 4 (some .boolean) dC dI ad bd cI cZ) (hAD : ∀ q, AD ad bd q → s.heap.size ≤ q) (hX : va_X b L xs s s.heap) (hbl : b < s.heap.size) (hL : L ≤ 3072) (hi : i + 6 ≤ L) (hI : Inv C D) (hP : va_P (dC, dI) vwCl (wl ad bd cI cZ C D) H) (hS : va_S (fun q => s.heap.size ≤ q) s.heap H locs) (hl : lv_has ls 4 [(0, .ref b), (1, .ref (ad 0)), (2, .ref (bd 0)), (3, .int (nI i))]) (K : ∀ (C D : Mem) (H : Heap) (locs : List Loc) (ls : Array Slot), Inv C D → va_P (dC, dI) vwCl (wl ad bd cI cZ C D) H → va_S (fun q => s.heap.size ≤ q) s.heap H locs → lv_has ls 4 [(0, .ref b), (1, .ref (ad 0)), (2, .ref (bd 0)), (3, .int (nI i))] → W p l e room_1 s m #[Value.ref b] below meth c H locs 78 3498 (lw_Z below #[Value.ref b] s) (F0 m 1575 ls [])) : W p l e room_1 s m #[Value.ref b] below meth c H locs 78 3498 (lw_Z below #[Value.ref b] s) (F0 m 33 ls [.int 32]) := by
  have hx := X.1
  have hb := X.2.1
  have hbA : ¬ (fun q => s.heap.size ≤ q) b := Nat.not_le.mpr hbl
  obtain ⟨r, C1, D1, e1, e2, hI1⟩ := ok_sheet hI (xs (nI i + 1).toNatClampNeg) (xs (nI i + 2).toNatClampNeg) (xs (nI i + 3).toNatClampNeg)
  refine lv_tableIn (pc := 33) (x := 32) (tgt := 1270) hx hb dL_law_33 (by decide) (by decide) rfl (by decide) ?_
  refine lv_aload_n (pc := 1270) hx hb dL_law_1270 rfl (lv_at hl 1 rfl) ?_
  refine lv_aload_n (pc := 1271) hx hb dL_law_1271 rfl (lv_at hl 0 rfl) ?_
  refine lv_iload_n (pc := 1272) hx hb dL_law_1272 rfl (lv_at hl 3 rfl) ?_
  refine lv_iconst (pc := 1273) (v := 1) hx hb dL_law_1273 (by decide) ?_
  refine lv_iadd (pc := 1274) hx hb dL_law_1274 ?_
  refine va_sld (pc := 1275) hx hb hX hbl hbA hS (sc_in (n := 1) hi hL rfl (by decide)) dL_law_1275 ?_
  refine lv_aload_n (pc := 1276) hx hb dL_law_1276 rfl (lv_at hl 0 rfl) ?_
  refine lv_iload_n (pc := 1277) hx hb dL_law_1277 rfl (lv_at hl 3 rfl) ?_
  refine lv_iconst (pc := 1278) (v := 2) hx hb dL_law_1278 (by decide) ?_
  refine lv_iadd (pc := 1279) hx hb dL_law_1279 ?_
  refine va_sld (pc := 1280) hx hb hX hbl hbA hS (sc_in (n := 2) hi hL rfl (by decide)) dL_law_1280 ?_
  refine lv_aload_n (pc := 1281) hx hb dL_law_1281 rfl (lv_at hl 0 rfl) ?_
  refine lv_iload_n (pc := 1282) hx hb dL_law_1282 rfl (lv_at hl 3 rfl) ?_
  refine lv_iconst (pc := 1283) (v := 3) hx hb dL_law_1283 (by decide) ?_
  refine lv_iadd (pc := 1284) hx hb dL_law_1284 ?_
  refine va_sld (pc := 1285) hx hb hX hbl hbA hS (sc_in (n := 3) hi hL rfl (by decide)) dL_law_1285 ?_
  refine lcall_i (pc := 1286) (n := 3) (rest := []) [.int (xs (nI i + 1).toNatClampNeg), .int (xs (nI i + 2).toNatClampNeg), .int (xs (nI i + 3).toNatClampNeg)] X hP hS hAD (c_X11_sheet (xs (nI i + 1).toNatClampNeg) (xs (nI i + 2).toNatClampNeg) (xs (nI i + 3).toNatClampNeg) e1) ⟨w_24c759c84e, w_24dbf2db5a, w_e7edaf7143, w_6a501878ee, w_5abeb01b14, ⟨by decide, by decide, by decide +kernel⟩⟩ (rcX X hP) rfl ⟨rfl, rfl, Nat.le_of_ble_eq_true rfl, Nat.le_of_ble_eq_true rfl⟩ hl rfl (Nat.le_of_ble_eq_true rfl) dL_law_1286 ⟨Nat.le_of_ble_eq_true rfl, Nat.le_of_ble_eq_true rfl⟩ (fun H locs hP hS => ?_)
  refine lv_aload_n (pc := 1289) hx hb dL_law_1289 rfl (lv_at hl 2 rfl) ?_
  refine lv_aload_n (pc := 1290) hx hb dL_law_1290 rfl (lv_at hl 0 rfl) ?_
  refine lv_iload_n (pc := 1291) hx hb dL_law_1291 rfl (lv_at hl 3 rfl) ?_
  refine lv_iconst (pc := 1292) (v := 1) hx hb dL_law_1292 (by decide) ?_
  refine lv_iadd (pc := 1293) hx hb dL_law_1293 ?_
  refine va_sld (pc := 1294) hx hb hX hbl hbA hS (sc_in (n := 1) hi hL rfl (by decide)) dL_law_1294 ?_
  refine lv_aload_n (pc := 1295) hx hb dL_law_1295 rfl (lv_at hl 0 rfl) ?_
  refine lv_iload_n (pc := 1296) hx hb dL_law_1296 rfl (lv_at hl 3 rfl) ?_
  refine lv_iconst (pc := 1297) (v := 2) hx hb dL_law_1297 (by decide) ?_
  refine lv_iadd (pc := 1298) hx hb dL_law_1298 ?_
  refine va_sld (pc := 1299) hx hb hX hbl hbA hS (sc_in (n := 2) hi hL rfl (by decide)) dL_law_1299 ?_
  refine lv_aload_n (pc := 1300) hx hb dL_law_1300 rfl (lv_at hl 0 rfl) ?_
  refine lv_iload_n (pc := 1301) hx hb dL_law_1301 rfl (lv_at hl 3 rfl) ?_
  refine lv_iconst (pc := 1302) (v := 3) hx hb dL_law_1302 (by decide) ?_
  refine lv_iadd (pc := 1303) hx hb dL_law_1303 ?_
  refine va_sld (pc := 1304) hx hb hX hbl hbA hS (sc_in (n := 3) hi hL rfl (by decide)) dL_law_1304 ?_
  refine lcall_i (pc := 1305) (n := 3) (rest := [.int r]) [.int (xs (nI i + 1).toNatClampNeg), .int (xs (nI i + 2).toNatClampNeg), .int (xs (nI i + 3).toNatClampNeg)] X hP hS hAD (c_X12_sheet (xs (nI i + 1).toNatClampNeg) (xs (nI i + 2).toNatClampNeg) (xs (nI i + 3).toNatClampNeg) e2) ⟨w_913e49bdb8, w_9704b19a42, w_f82d25fae7, w_71ab0a9288, w_e289096ab4, ⟨by decide, by decide, by decide +kernel⟩⟩ (rcM X hP) rfl ⟨rfl, rfl, Nat.le_of_ble_eq_true rfl, Nat.le_of_ble_eq_true rfl⟩ hl rfl (Nat.le_of_ble_eq_true rfl) dL_law_1305 ⟨Nat.le_of_ble_eq_true rfl, Nat.le_of_ble_eq_true rfl⟩ (fun H locs hP hS => ?_)
  refine lv_icmp_eq (pc := 1308) (tgt := 1575) hx hb dL_law_1308 (by decide) (fun _ => ?_) (fun c9 => absurd rfl c9)
  exact K _ _ H locs ls hI1 hP hS hl
set_option maxHeartbeats 4000000 in
set_option maxRecDepth 100000 in
theorem law_33 {b L i : Nat} {xs : Nat → Int32} (X : Cx p s m #[Value.ref b] meth c cL_law RL 4 (some .boolean) dC dI ad bd cI cZ) (hAD : ∀ q, AD ad bd q → s.heap.size ≤ q) (hX : va_X b L xs s s.heap) (hbl : b < s.heap.size) (hL : L ≤ 3072) (hi : i + 6 ≤ L) (hI : Inv C D) (hP : va_P (dC, dI) vwCl (wl ad bd cI cZ C D) H) (hS : va_S (fun q => s.heap.size ≤ q) s.heap H locs) (hl : lv_has ls 4 [(0, .ref b), (1, .ref (ad 0)), (2, .ref (bd 0)), (3, .int (nI i))]) (K : ∀ (C D : Mem) (H : Heap) (locs : List Loc) (ls : Array Slot), Inv C D → va_P (dC, dI) vwCl (wl ad bd cI cZ C D) H → va_S (fun q => s.heap.size ≤ q) s.heap H locs → lv_has ls 4 [(0, .ref b), (1, .ref (ad 0)), (2, .ref (bd 0)), (3, .int (nI i))] → W p l e room_1 s m #[Value.ref b] below meth c H locs 78 3498 (lw_Z below #[Value.ref b] s) (F0 m 1575 ls [])) : W p l e room_1 s m #[Value.ref b] below meth c H locs 78 3498 (lw_Z below #[Value.ref b] s) (F0 m 33 ls [.int 33]) := by
  have hx := X.1
  have hb := X.2.1
  have hbA : ¬ (fun q => s.heap.size ≤ q) b := Nat.not_le.mpr hbl
  obtain ⟨r, C1, D1, e1, e2, hI1⟩ := ok_lose hI (xs (nI i + 1).toNatClampNeg)
  refine lv_tableIn (pc := 33) (x := 33) (tgt := 1313) hx hb dL_law_33 (by decide) (by decide) rfl (by decide) ?_
  refine lv_aload_n (pc := 1313) hx hb dL_law_1313 rfl (lv_at hl 1 rfl) ?_
  refine lv_aload_n (pc := 1314) hx hb dL_law_1314 rfl (lv_at hl 0 rfl) ?_
  refine lv_iload_n (pc := 1315) hx hb dL_law_1315 rfl (lv_at hl 3 rfl) ?_
  refine lv_iconst (pc := 1316) (v := 1) hx hb dL_law_1316 (by decide) ?_
  refine lv_iadd (pc := 1317) hx hb dL_law_1317 ?_
  refine va_sld (pc := 1318) hx hb hX hbl hbA hS (sc_in (n := 1) hi hL rfl (by decide)) dL_law_1318 ?_
  refine lcall_i (pc := 1319) (n := 1) (rest := []) [.int (xs (nI i + 1).toNatClampNeg)] X hP hS hAD (c_X11_lose (xs (nI i + 1).toNatClampNeg) e1) ⟨w_46eea3a596, w_fb37313c0c, w_e7edaf7143, w_0f8d330bed, w_f3a5603c3a, ⟨by decide, by decide, by decide +kernel⟩⟩ (rcX X hP) rfl ⟨rfl, rfl, Nat.le_of_ble_eq_true rfl, Nat.le_of_ble_eq_true rfl⟩ hl rfl (Nat.le_of_ble_eq_true rfl) dL_law_1319 ⟨Nat.le_of_ble_eq_true rfl, Nat.le_of_ble_eq_true rfl⟩ (fun H locs hP hS => ?_)
  refine lv_aload_n (pc := 1322) hx hb dL_law_1322 rfl (lv_at hl 2 rfl) ?_
  refine lv_aload_n (pc := 1323) hx hb dL_law_1323 rfl (lv_at hl 0 rfl) ?_
  refine lv_iload_n (pc := 1324) hx hb dL_law_1324 rfl (lv_at hl 3 rfl) ?_
  refine lv_iconst (pc := 1325) (v := 1) hx hb dL_law_1325 (by decide) ?_
  refine lv_iadd (pc := 1326) hx hb dL_law_1326 ?_
  refine va_sld (pc := 1327) hx hb hX hbl hbA hS (sc_in (n := 1) hi hL rfl (by decide)) dL_law_1327 ?_
  refine lcall_i (pc := 1328) (n := 1) (rest := [.int r]) [.int (xs (nI i + 1).toNatClampNeg)] X hP hS hAD (c_X12_lose (xs (nI i + 1).toNatClampNeg) e2) ⟨w_13641c76cd, w_2d32dc4a25, w_f82d25fae7, w_309b15f4d3, w_703fc2dbcc, ⟨by decide, by decide, by decide +kernel⟩⟩ (rcM X hP) rfl ⟨rfl, rfl, Nat.le_of_ble_eq_true rfl, Nat.le_of_ble_eq_true rfl⟩ hl rfl (Nat.le_of_ble_eq_true rfl) dL_law_1328 ⟨Nat.le_of_ble_eq_true rfl, Nat.le_of_ble_eq_true rfl⟩ (fun H locs hP hS => ?_)
  refine lv_icmp_eq (pc := 1331) (tgt := 1575) hx hb dL_law_1331 (by decide) (fun _ => ?_) (fun c9 => absurd rfl c9)
  exact K _ _ H locs ls hI1 hP hS hl
set_option maxHeartbeats 4000000 in
set_option maxRecDepth 100000 in
theorem law_34 {b L i : Nat} {xs : Nat → Int32} (X : Cx p s m #[Value.ref b] meth c cL_law RL 4 (some .boolean) dC dI ad bd cI cZ) (hAD : ∀ q, AD ad bd q → s.heap.size ≤ q) (hX : va_X b L xs s s.heap) (hbl : b < s.heap.size) (hL : L ≤ 3072) (hi : i + 6 ≤ L) (hI : Inv C D) (hP : va_P (dC, dI) vwCl (wl ad bd cI cZ C D) H) (hS : va_S (fun q => s.heap.size ≤ q) s.heap H locs) (hl : lv_has ls 4 [(0, .ref b), (1, .ref (ad 0)), (2, .ref (bd 0)), (3, .int (nI i))]) (K : ∀ (C D : Mem) (H : Heap) (locs : List Loc) (ls : Array Slot), Inv C D → va_P (dC, dI) vwCl (wl ad bd cI cZ C D) H → va_S (fun q => s.heap.size ≤ q) s.heap H locs → lv_has ls 4 [(0, .ref b), (1, .ref (ad 0)), (2, .ref (bd 0)), (3, .int (nI i))] → W p l e room_1 s m #[Value.ref b] below meth c H locs 78 3498 (lw_Z below #[Value.ref b] s) (F0 m 1575 ls [])) : W p l e room_1 s m #[Value.ref b] below meth c H locs 78 3498 (lw_Z below #[Value.ref b] s) (F0 m 33 ls [.int 34]) := by
  have hx := X.1
  have hb := X.2.1
  have hbA : ¬ (fun q => s.heap.size ≤ q) b := Nat.not_le.mpr hbl
  obtain ⟨r, C1, D1, e1, e2, hI1⟩ := ok_put hI (xs (nI i + 1).toNatClampNeg) (xs (nI i + 2).toNatClampNeg) (xs (nI i + 3).toNatClampNeg) (xs (nI i + 4).toNatClampNeg)
  refine lv_tableIn (pc := 33) (x := 34) (tgt := 1336) hx hb dL_law_33 (by decide) (by decide) rfl (by decide) ?_
  refine lv_aload_n (pc := 1336) hx hb dL_law_1336 rfl (lv_at hl 1 rfl) ?_
  refine lv_aload_n (pc := 1337) hx hb dL_law_1337 rfl (lv_at hl 0 rfl) ?_
  refine lv_iload_n (pc := 1338) hx hb dL_law_1338 rfl (lv_at hl 3 rfl) ?_
  refine lv_iconst (pc := 1339) (v := 1) hx hb dL_law_1339 (by decide) ?_
  refine lv_iadd (pc := 1340) hx hb dL_law_1340 ?_
  refine va_sld (pc := 1341) hx hb hX hbl hbA hS (sc_in (n := 1) hi hL rfl (by decide)) dL_law_1341 ?_
  refine lv_aload_n (pc := 1342) hx hb dL_law_1342 rfl (lv_at hl 0 rfl) ?_
  refine lv_iload_n (pc := 1343) hx hb dL_law_1343 rfl (lv_at hl 3 rfl) ?_
  refine lv_iconst (pc := 1344) (v := 2) hx hb dL_law_1344 (by decide) ?_
  refine lv_iadd (pc := 1345) hx hb dL_law_1345 ?_
  refine va_sld (pc := 1346) hx hb hX hbl hbA hS (sc_in (n := 2) hi hL rfl (by decide)) dL_law_1346 ?_
  refine lv_aload_n (pc := 1347) hx hb dL_law_1347 rfl (lv_at hl 0 rfl) ?_
  refine lv_iload_n (pc := 1348) hx hb dL_law_1348 rfl (lv_at hl 3 rfl) ?_
  refine lv_iconst (pc := 1349) (v := 3) hx hb dL_law_1349 (by decide) ?_
  refine lv_iadd (pc := 1350) hx hb dL_law_1350 ?_
  refine va_sld (pc := 1351) hx hb hX hbl hbA hS (sc_in (n := 3) hi hL rfl (by decide)) dL_law_1351 ?_
  refine lv_aload_n (pc := 1352) hx hb dL_law_1352 rfl (lv_at hl 0 rfl) ?_
  refine lv_iload_n (pc := 1353) hx hb dL_law_1353 rfl (lv_at hl 3 rfl) ?_
  refine lv_iconst (pc := 1354) (v := 4) hx hb dL_law_1354 (by decide) ?_
  refine lv_iadd (pc := 1355) hx hb dL_law_1355 ?_
  refine va_sld (pc := 1356) hx hb hX hbl hbA hS (sc_in (n := 4) hi hL rfl (by decide)) dL_law_1356 ?_
  refine lcall_i (pc := 1357) (n := 4) (rest := []) [.int (xs (nI i + 1).toNatClampNeg), .int (xs (nI i + 2).toNatClampNeg), .int (xs (nI i + 3).toNatClampNeg), .int (xs (nI i + 4).toNatClampNeg)] X hP hS hAD (c_X11_put (xs (nI i + 1).toNatClampNeg) (xs (nI i + 2).toNatClampNeg) (xs (nI i + 3).toNatClampNeg) (xs (nI i + 4).toNatClampNeg) e1) ⟨w_3d2e6630c1, w_3ba3a7c964, w_e7edaf7143, w_db9f396dae, w_b567d70e2b, ⟨by decide, by decide, by decide +kernel⟩⟩ (rcX X hP) rfl ⟨rfl, rfl, Nat.le_of_ble_eq_true rfl, Nat.le_of_ble_eq_true rfl⟩ hl rfl (Nat.le_of_ble_eq_true rfl) dL_law_1357 ⟨Nat.le_of_ble_eq_true rfl, Nat.le_of_ble_eq_true rfl⟩ (fun H locs hP hS => ?_)
  refine lv_aload_n (pc := 1360) hx hb dL_law_1360 rfl (lv_at hl 2 rfl) ?_
  refine lv_aload_n (pc := 1361) hx hb dL_law_1361 rfl (lv_at hl 0 rfl) ?_
  refine lv_iload_n (pc := 1362) hx hb dL_law_1362 rfl (lv_at hl 3 rfl) ?_
  refine lv_iconst (pc := 1363) (v := 1) hx hb dL_law_1363 (by decide) ?_
  refine lv_iadd (pc := 1364) hx hb dL_law_1364 ?_
  refine va_sld (pc := 1365) hx hb hX hbl hbA hS (sc_in (n := 1) hi hL rfl (by decide)) dL_law_1365 ?_
  refine lv_aload_n (pc := 1366) hx hb dL_law_1366 rfl (lv_at hl 0 rfl) ?_
  refine lv_iload_n (pc := 1367) hx hb dL_law_1367 rfl (lv_at hl 3 rfl) ?_
  refine lv_iconst (pc := 1368) (v := 2) hx hb dL_law_1368 (by decide) ?_
  refine lv_iadd (pc := 1369) hx hb dL_law_1369 ?_
  refine va_sld (pc := 1370) hx hb hX hbl hbA hS (sc_in (n := 2) hi hL rfl (by decide)) dL_law_1370 ?_
  refine lv_aload_n (pc := 1371) hx hb dL_law_1371 rfl (lv_at hl 0 rfl) ?_
  refine lv_iload_n (pc := 1372) hx hb dL_law_1372 rfl (lv_at hl 3 rfl) ?_
  refine lv_iconst (pc := 1373) (v := 3) hx hb dL_law_1373 (by decide) ?_
  refine lv_iadd (pc := 1374) hx hb dL_law_1374 ?_
  refine va_sld (pc := 1375) hx hb hX hbl hbA hS (sc_in (n := 3) hi hL rfl (by decide)) dL_law_1375 ?_
  refine lv_aload_n (pc := 1376) hx hb dL_law_1376 rfl (lv_at hl 0 rfl) ?_
  refine lv_iload_n (pc := 1377) hx hb dL_law_1377 rfl (lv_at hl 3 rfl) ?_
  refine lv_iconst (pc := 1378) (v := 4) hx hb dL_law_1378 (by decide) ?_
  refine lv_iadd (pc := 1379) hx hb dL_law_1379 ?_
  refine va_sld (pc := 1380) hx hb hX hbl hbA hS (sc_in (n := 4) hi hL rfl (by decide)) dL_law_1380 ?_
  refine lcall_i (pc := 1381) (n := 4) (rest := [.int r]) [.int (xs (nI i + 1).toNatClampNeg), .int (xs (nI i + 2).toNatClampNeg), .int (xs (nI i + 3).toNatClampNeg), .int (xs (nI i + 4).toNatClampNeg)] X hP hS hAD (c_X12_put (xs (nI i + 1).toNatClampNeg) (xs (nI i + 2).toNatClampNeg) (xs (nI i + 3).toNatClampNeg) (xs (nI i + 4).toNatClampNeg) e2) ⟨w_b8ba2f6a70, w_28130c5cb1, w_f82d25fae7, w_a43b3d304e, w_ba7239b00b, ⟨by decide, by decide, by decide +kernel⟩⟩ (rcM X hP) rfl ⟨rfl, rfl, Nat.le_of_ble_eq_true rfl, Nat.le_of_ble_eq_true rfl⟩ hl rfl (Nat.le_of_ble_eq_true rfl) dL_law_1381 ⟨Nat.le_of_ble_eq_true rfl, Nat.le_of_ble_eq_true rfl⟩ (fun H locs hP hS => ?_)
  refine lv_icmp_eq (pc := 1384) (tgt := 1575) hx hb dL_law_1384 (by decide) (fun _ => ?_) (fun c9 => absurd rfl c9)
  exact K _ _ H locs ls hI1 hP hS hl
set_option maxHeartbeats 4000000 in
set_option maxRecDepth 100000 in
theorem law_35 {b L i : Nat} {xs : Nat → Int32} (X : Cx p s m #[Value.ref b] meth c cL_law RL 4 (some .boolean) dC dI ad bd cI cZ) (hAD : ∀ q, AD ad bd q → s.heap.size ≤ q) (hX : va_X b L xs s s.heap) (hbl : b < s.heap.size) (hL : L ≤ 3072) (hi : i + 6 ≤ L) (hI : Inv C D) (hP : va_P (dC, dI) vwCl (wl ad bd cI cZ C D) H) (hS : va_S (fun q => s.heap.size ≤ q) s.heap H locs) (hl : lv_has ls 4 [(0, .ref b), (1, .ref (ad 0)), (2, .ref (bd 0)), (3, .int (nI i))]) (K : ∀ (C D : Mem) (H : Heap) (locs : List Loc) (ls : Array Slot), Inv C D → va_P (dC, dI) vwCl (wl ad bd cI cZ C D) H → va_S (fun q => s.heap.size ≤ q) s.heap H locs → lv_has ls 4 [(0, .ref b), (1, .ref (ad 0)), (2, .ref (bd 0)), (3, .int (nI i))] → W p l e room_1 s m #[Value.ref b] below meth c H locs 78 3498 (lw_Z below #[Value.ref b] s) (F0 m 1575 ls [])) : W p l e room_1 s m #[Value.ref b] below meth c H locs 78 3498 (lw_Z below #[Value.ref b] s) (F0 m 33 ls [.int 35]) := by
  have hx := X.1
  have hb := X.2.1
  have hbA : ¬ (fun q => s.heap.size ≤ q) b := Nat.not_le.mpr hbl
  obtain ⟨r, C1, D1, e1, e2, hI1⟩ := ok_get hI (xs (nI i + 1).toNatClampNeg) (xs (nI i + 2).toNatClampNeg) (xs (nI i + 3).toNatClampNeg)
  refine lv_tableIn (pc := 33) (x := 35) (tgt := 1389) hx hb dL_law_33 (by decide) (by decide) rfl (by decide) ?_
  refine lv_aload_n (pc := 1389) hx hb dL_law_1389 rfl (lv_at hl 1 rfl) ?_
  refine lv_aload_n (pc := 1390) hx hb dL_law_1390 rfl (lv_at hl 0 rfl) ?_
  refine lv_iload_n (pc := 1391) hx hb dL_law_1391 rfl (lv_at hl 3 rfl) ?_
  refine lv_iconst (pc := 1392) (v := 1) hx hb dL_law_1392 (by decide) ?_
  refine lv_iadd (pc := 1393) hx hb dL_law_1393 ?_
  refine va_sld (pc := 1394) hx hb hX hbl hbA hS (sc_in (n := 1) hi hL rfl (by decide)) dL_law_1394 ?_
  refine lv_aload_n (pc := 1395) hx hb dL_law_1395 rfl (lv_at hl 0 rfl) ?_
  refine lv_iload_n (pc := 1396) hx hb dL_law_1396 rfl (lv_at hl 3 rfl) ?_
  refine lv_iconst (pc := 1397) (v := 2) hx hb dL_law_1397 (by decide) ?_
  refine lv_iadd (pc := 1398) hx hb dL_law_1398 ?_
  refine va_sld (pc := 1399) hx hb hX hbl hbA hS (sc_in (n := 2) hi hL rfl (by decide)) dL_law_1399 ?_
  refine lv_aload_n (pc := 1400) hx hb dL_law_1400 rfl (lv_at hl 0 rfl) ?_
  refine lv_iload_n (pc := 1401) hx hb dL_law_1401 rfl (lv_at hl 3 rfl) ?_
  refine lv_iconst (pc := 1402) (v := 3) hx hb dL_law_1402 (by decide) ?_
  refine lv_iadd (pc := 1403) hx hb dL_law_1403 ?_
  refine va_sld (pc := 1404) hx hb hX hbl hbA hS (sc_in (n := 3) hi hL rfl (by decide)) dL_law_1404 ?_
  refine lcall_i (pc := 1405) (n := 3) (rest := []) [.int (xs (nI i + 1).toNatClampNeg), .int (xs (nI i + 2).toNatClampNeg), .int (xs (nI i + 3).toNatClampNeg)] X hP hS hAD (c_X11_get (xs (nI i + 1).toNatClampNeg) (xs (nI i + 2).toNatClampNeg) (xs (nI i + 3).toNatClampNeg) e1) ⟨w_037610a2e3, w_9122039632, w_e7edaf7143, w_e94b81ebbd, w_83cf380d98, ⟨by decide, by decide, by decide +kernel⟩⟩ (rcX X hP) rfl ⟨rfl, rfl, Nat.le_of_ble_eq_true rfl, Nat.le_of_ble_eq_true rfl⟩ hl rfl (Nat.le_of_ble_eq_true rfl) dL_law_1405 ⟨Nat.le_of_ble_eq_true rfl, Nat.le_of_ble_eq_true rfl⟩ (fun H locs hP hS => ?_)
  refine lv_aload_n (pc := 1408) hx hb dL_law_1408 rfl (lv_at hl 2 rfl) ?_
  refine lv_aload_n (pc := 1409) hx hb dL_law_1409 rfl (lv_at hl 0 rfl) ?_
  refine lv_iload_n (pc := 1410) hx hb dL_law_1410 rfl (lv_at hl 3 rfl) ?_
  refine lv_iconst (pc := 1411) (v := 1) hx hb dL_law_1411 (by decide) ?_
  refine lv_iadd (pc := 1412) hx hb dL_law_1412 ?_
  refine va_sld (pc := 1413) hx hb hX hbl hbA hS (sc_in (n := 1) hi hL rfl (by decide)) dL_law_1413 ?_
  refine lv_aload_n (pc := 1414) hx hb dL_law_1414 rfl (lv_at hl 0 rfl) ?_
  refine lv_iload_n (pc := 1415) hx hb dL_law_1415 rfl (lv_at hl 3 rfl) ?_
  refine lv_iconst (pc := 1416) (v := 2) hx hb dL_law_1416 (by decide) ?_
  refine lv_iadd (pc := 1417) hx hb dL_law_1417 ?_
  refine va_sld (pc := 1418) hx hb hX hbl hbA hS (sc_in (n := 2) hi hL rfl (by decide)) dL_law_1418 ?_
  refine lv_aload_n (pc := 1419) hx hb dL_law_1419 rfl (lv_at hl 0 rfl) ?_
  refine lv_iload_n (pc := 1420) hx hb dL_law_1420 rfl (lv_at hl 3 rfl) ?_
  refine lv_iconst (pc := 1421) (v := 3) hx hb dL_law_1421 (by decide) ?_
  refine lv_iadd (pc := 1422) hx hb dL_law_1422 ?_
  refine va_sld (pc := 1423) hx hb hX hbl hbA hS (sc_in (n := 3) hi hL rfl (by decide)) dL_law_1423 ?_
  refine lcall_i (pc := 1424) (n := 3) (rest := [.int r]) [.int (xs (nI i + 1).toNatClampNeg), .int (xs (nI i + 2).toNatClampNeg), .int (xs (nI i + 3).toNatClampNeg)] X hP hS hAD (c_X12_get (xs (nI i + 1).toNatClampNeg) (xs (nI i + 2).toNatClampNeg) (xs (nI i + 3).toNatClampNeg) e2) ⟨w_df35e426d5, w_da62bb317b, w_f82d25fae7, w_842f9733bc, w_a7a79ff94d, ⟨by decide, by decide, by decide +kernel⟩⟩ (rcM X hP) rfl ⟨rfl, rfl, Nat.le_of_ble_eq_true rfl, Nat.le_of_ble_eq_true rfl⟩ hl rfl (Nat.le_of_ble_eq_true rfl) dL_law_1424 ⟨Nat.le_of_ble_eq_true rfl, Nat.le_of_ble_eq_true rfl⟩ (fun H locs hP hS => ?_)
  refine lv_icmp_eq (pc := 1427) (tgt := 1575) hx hb dL_law_1427 (by decide) (fun _ => ?_) (fun c9 => absurd rfl c9)
  exact K _ _ H locs ls hI1 hP hS hl
set_option maxHeartbeats 4000000 in
set_option maxRecDepth 100000 in
theorem law_36 {b L i : Nat} {xs : Nat → Int32} (X : Cx p s m #[Value.ref b] meth c cL_law RL 4 (some .boolean) dC dI ad bd cI cZ) (hAD : ∀ q, AD ad bd q → s.heap.size ≤ q) (hX : va_X b L xs s s.heap) (hbl : b < s.heap.size) (hL : L ≤ 3072) (hi : i + 6 ≤ L) (hI : Inv C D) (hP : va_P (dC, dI) vwCl (wl ad bd cI cZ C D) H) (hS : va_S (fun q => s.heap.size ≤ q) s.heap H locs) (hl : lv_has ls 4 [(0, .ref b), (1, .ref (ad 0)), (2, .ref (bd 0)), (3, .int (nI i))]) (K : ∀ (C D : Mem) (H : Heap) (locs : List Loc) (ls : Array Slot), Inv C D → va_P (dC, dI) vwCl (wl ad bd cI cZ C D) H → va_S (fun q => s.heap.size ≤ q) s.heap H locs → lv_has ls 4 [(0, .ref b), (1, .ref (ad 0)), (2, .ref (bd 0)), (3, .int (nI i))] → W p l e room_1 s m #[Value.ref b] below meth c H locs 78 3498 (lw_Z below #[Value.ref b] s) (F0 m 1575 ls [])) : W p l e room_1 s m #[Value.ref b] below meth c H locs 78 3498 (lw_Z below #[Value.ref b] s) (F0 m 33 ls [.int 36]) := by
  have hx := X.1
  have hb := X.2.1
  have hbA : ¬ (fun q => s.heap.size ≤ q) b := Nat.not_le.mpr hbl
  obtain ⟨r, C1, D1, e1, e2, hI1⟩ := ok_copy hI (xs (nI i + 1).toNatClampNeg) (xs (nI i + 2).toNatClampNeg) (xs (nI i + 3).toNatClampNeg) (xs (nI i + 4).toNatClampNeg) (xs (nI i + 5).toNatClampNeg)
  refine lv_tableIn (pc := 33) (x := 36) (tgt := 1432) hx hb dL_law_33 (by decide) (by decide) rfl (by decide) ?_
  refine lv_aload_n (pc := 1432) hx hb dL_law_1432 rfl (lv_at hl 1 rfl) ?_
  refine lv_aload_n (pc := 1433) hx hb dL_law_1433 rfl (lv_at hl 0 rfl) ?_
  refine lv_iload_n (pc := 1434) hx hb dL_law_1434 rfl (lv_at hl 3 rfl) ?_
  refine lv_iconst (pc := 1435) (v := 1) hx hb dL_law_1435 (by decide) ?_
  refine lv_iadd (pc := 1436) hx hb dL_law_1436 ?_
  refine va_sld (pc := 1437) hx hb hX hbl hbA hS (sc_in (n := 1) hi hL rfl (by decide)) dL_law_1437 ?_
  refine lv_aload_n (pc := 1438) hx hb dL_law_1438 rfl (lv_at hl 0 rfl) ?_
  refine lv_iload_n (pc := 1439) hx hb dL_law_1439 rfl (lv_at hl 3 rfl) ?_
  refine lv_iconst (pc := 1440) (v := 2) hx hb dL_law_1440 (by decide) ?_
  refine lv_iadd (pc := 1441) hx hb dL_law_1441 ?_
  refine va_sld (pc := 1442) hx hb hX hbl hbA hS (sc_in (n := 2) hi hL rfl (by decide)) dL_law_1442 ?_
  refine lv_aload_n (pc := 1443) hx hb dL_law_1443 rfl (lv_at hl 0 rfl) ?_
  refine lv_iload_n (pc := 1444) hx hb dL_law_1444 rfl (lv_at hl 3 rfl) ?_
  refine lv_iconst (pc := 1445) (v := 3) hx hb dL_law_1445 (by decide) ?_
  refine lv_iadd (pc := 1446) hx hb dL_law_1446 ?_
  refine va_sld (pc := 1447) hx hb hX hbl hbA hS (sc_in (n := 3) hi hL rfl (by decide)) dL_law_1447 ?_
  refine lv_aload_n (pc := 1448) hx hb dL_law_1448 rfl (lv_at hl 0 rfl) ?_
  refine lv_iload_n (pc := 1449) hx hb dL_law_1449 rfl (lv_at hl 3 rfl) ?_
  refine lv_iconst (pc := 1450) (v := 4) hx hb dL_law_1450 (by decide) ?_
  refine lv_iadd (pc := 1451) hx hb dL_law_1451 ?_
  refine va_sld (pc := 1452) hx hb hX hbl hbA hS (sc_in (n := 4) hi hL rfl (by decide)) dL_law_1452 ?_
  refine lv_aload_n (pc := 1453) hx hb dL_law_1453 rfl (lv_at hl 0 rfl) ?_
  refine lv_iload_n (pc := 1454) hx hb dL_law_1454 rfl (lv_at hl 3 rfl) ?_
  refine lv_iconst (pc := 1455) (v := 5) hx hb dL_law_1455 (by decide) ?_
  refine lv_iadd (pc := 1456) hx hb dL_law_1456 ?_
  refine va_sld (pc := 1457) hx hb hX hbl hbA hS (sc_in (n := 5) hi hL rfl (by decide)) dL_law_1457 ?_
  refine lcall_i (pc := 1458) (n := 5) (rest := []) [.int (xs (nI i + 1).toNatClampNeg), .int (xs (nI i + 2).toNatClampNeg), .int (xs (nI i + 3).toNatClampNeg), .int (xs (nI i + 4).toNatClampNeg), .int (xs (nI i + 5).toNatClampNeg)] X hP hS hAD (c_X11_copy (xs (nI i + 1).toNatClampNeg) (xs (nI i + 2).toNatClampNeg) (xs (nI i + 3).toNatClampNeg) (xs (nI i + 4).toNatClampNeg) (xs (nI i + 5).toNatClampNeg) e1) ⟨w_817e3fb647, w_8125c6f867, w_e7edaf7143, w_1bd560c330, w_2e8bb2dcb1, ⟨by decide, by decide, by decide +kernel⟩⟩ (rcX X hP) rfl ⟨rfl, rfl, Nat.le_of_ble_eq_true rfl, Nat.le_of_ble_eq_true rfl⟩ hl rfl (Nat.le_of_ble_eq_true rfl) dL_law_1458 ⟨Nat.le_of_ble_eq_true rfl, Nat.le_of_ble_eq_true rfl⟩ (fun H locs hP hS => ?_)
  refine lv_aload_n (pc := 1461) hx hb dL_law_1461 rfl (lv_at hl 2 rfl) ?_
  refine lv_aload_n (pc := 1462) hx hb dL_law_1462 rfl (lv_at hl 0 rfl) ?_
  refine lv_iload_n (pc := 1463) hx hb dL_law_1463 rfl (lv_at hl 3 rfl) ?_
  refine lv_iconst (pc := 1464) (v := 1) hx hb dL_law_1464 (by decide) ?_
  refine lv_iadd (pc := 1465) hx hb dL_law_1465 ?_
  refine va_sld (pc := 1466) hx hb hX hbl hbA hS (sc_in (n := 1) hi hL rfl (by decide)) dL_law_1466 ?_
  refine lv_aload_n (pc := 1467) hx hb dL_law_1467 rfl (lv_at hl 0 rfl) ?_
  refine lv_iload_n (pc := 1468) hx hb dL_law_1468 rfl (lv_at hl 3 rfl) ?_
  refine lv_iconst (pc := 1469) (v := 2) hx hb dL_law_1469 (by decide) ?_
  refine lv_iadd (pc := 1470) hx hb dL_law_1470 ?_
  refine va_sld (pc := 1471) hx hb hX hbl hbA hS (sc_in (n := 2) hi hL rfl (by decide)) dL_law_1471 ?_
  refine lv_aload_n (pc := 1472) hx hb dL_law_1472 rfl (lv_at hl 0 rfl) ?_
  refine lv_iload_n (pc := 1473) hx hb dL_law_1473 rfl (lv_at hl 3 rfl) ?_
  refine lv_iconst (pc := 1474) (v := 3) hx hb dL_law_1474 (by decide) ?_
  refine lv_iadd (pc := 1475) hx hb dL_law_1475 ?_
  refine va_sld (pc := 1476) hx hb hX hbl hbA hS (sc_in (n := 3) hi hL rfl (by decide)) dL_law_1476 ?_
  refine lv_aload_n (pc := 1477) hx hb dL_law_1477 rfl (lv_at hl 0 rfl) ?_
  refine lv_iload_n (pc := 1478) hx hb dL_law_1478 rfl (lv_at hl 3 rfl) ?_
  refine lv_iconst (pc := 1479) (v := 4) hx hb dL_law_1479 (by decide) ?_
  refine lv_iadd (pc := 1480) hx hb dL_law_1480 ?_
  refine va_sld (pc := 1481) hx hb hX hbl hbA hS (sc_in (n := 4) hi hL rfl (by decide)) dL_law_1481 ?_
  refine lv_aload_n (pc := 1482) hx hb dL_law_1482 rfl (lv_at hl 0 rfl) ?_
  refine lv_iload_n (pc := 1483) hx hb dL_law_1483 rfl (lv_at hl 3 rfl) ?_
  refine lv_iconst (pc := 1484) (v := 5) hx hb dL_law_1484 (by decide) ?_
  refine lv_iadd (pc := 1485) hx hb dL_law_1485 ?_
  refine va_sld (pc := 1486) hx hb hX hbl hbA hS (sc_in (n := 5) hi hL rfl (by decide)) dL_law_1486 ?_
  refine lcall_i (pc := 1487) (n := 5) (rest := [.int r]) [.int (xs (nI i + 1).toNatClampNeg), .int (xs (nI i + 2).toNatClampNeg), .int (xs (nI i + 3).toNatClampNeg), .int (xs (nI i + 4).toNatClampNeg), .int (xs (nI i + 5).toNatClampNeg)] X hP hS hAD (c_X12_copy (xs (nI i + 1).toNatClampNeg) (xs (nI i + 2).toNatClampNeg) (xs (nI i + 3).toNatClampNeg) (xs (nI i + 4).toNatClampNeg) (xs (nI i + 5).toNatClampNeg) e2) ⟨w_4c96edbd7e, w_39b71fa08f, w_f82d25fae7, w_ea27683d5c, w_9ee5708237, ⟨by decide, by decide, by decide +kernel⟩⟩ (rcM X hP) rfl ⟨rfl, rfl, Nat.le_of_ble_eq_true rfl, Nat.le_of_ble_eq_true rfl⟩ hl rfl (Nat.le_of_ble_eq_true rfl) dL_law_1487 ⟨Nat.le_of_ble_eq_true rfl, Nat.le_of_ble_eq_true rfl⟩ (fun H locs hP hS => ?_)
  refine lv_icmp_eq (pc := 1490) (tgt := 1575) hx hb dL_law_1490 (by decide) (fun _ => ?_) (fun c9 => absurd rfl c9)
  exact K _ _ H locs ls hI1 hP hS hl
set_option maxHeartbeats 4000000 in
set_option maxRecDepth 100000 in
theorem law_37 {b L i : Nat} {xs : Nat → Int32} (X : Cx p s m #[Value.ref b] meth c cL_law RL 4 (some .boolean) dC dI ad bd cI cZ) (hAD : ∀ q, AD ad bd q → s.heap.size ≤ q) (hX : va_X b L xs s s.heap) (hbl : b < s.heap.size) (hL : L ≤ 3072) (hi : i + 6 ≤ L) (hI : Inv C D) (hP : va_P (dC, dI) vwCl (wl ad bd cI cZ C D) H) (hS : va_S (fun q => s.heap.size ≤ q) s.heap H locs) (hl : lv_has ls 4 [(0, .ref b), (1, .ref (ad 0)), (2, .ref (bd 0)), (3, .int (nI i))]) (K : ∀ (C D : Mem) (H : Heap) (locs : List Loc) (ls : Array Slot), Inv C D → va_P (dC, dI) vwCl (wl ad bd cI cZ C D) H → va_S (fun q => s.heap.size ≤ q) s.heap H locs → lv_has ls 4 [(0, .ref b), (1, .ref (ad 0)), (2, .ref (bd 0)), (3, .int (nI i))] → W p l e room_1 s m #[Value.ref b] below meth c H locs 78 3498 (lw_Z below #[Value.ref b] s) (F0 m 1575 ls [])) : W p l e room_1 s m #[Value.ref b] below meth c H locs 78 3498 (lw_Z below #[Value.ref b] s) (F0 m 33 ls [.int 37]) := by
  have hx := X.1
  have hb := X.2.1
  have hbA : ¬ (fun q => s.heap.size ≤ q) b := Nat.not_le.mpr hbl
  obtain ⟨r, C1, D1, e1, e2, hI1⟩ := ok_write hI (xs (nI i + 1).toNatClampNeg) (xs (nI i + 2).toNatClampNeg) (xs (nI i + 3).toNatClampNeg)
  refine lv_tableIn (pc := 33) (x := 37) (tgt := 1495) hx hb dL_law_33 (by decide) (by decide) rfl (by decide) ?_
  refine lv_aload_n (pc := 1495) hx hb dL_law_1495 rfl (lv_at hl 1 rfl) ?_
  refine lv_aload_n (pc := 1496) hx hb dL_law_1496 rfl (lv_at hl 0 rfl) ?_
  refine lv_iload_n (pc := 1497) hx hb dL_law_1497 rfl (lv_at hl 3 rfl) ?_
  refine lv_iconst (pc := 1498) (v := 1) hx hb dL_law_1498 (by decide) ?_
  refine lv_iadd (pc := 1499) hx hb dL_law_1499 ?_
  refine va_sld (pc := 1500) hx hb hX hbl hbA hS (sc_in (n := 1) hi hL rfl (by decide)) dL_law_1500 ?_
  refine lv_aload_n (pc := 1501) hx hb dL_law_1501 rfl (lv_at hl 0 rfl) ?_
  refine lv_iload_n (pc := 1502) hx hb dL_law_1502 rfl (lv_at hl 3 rfl) ?_
  refine lv_iconst (pc := 1503) (v := 2) hx hb dL_law_1503 (by decide) ?_
  refine lv_iadd (pc := 1504) hx hb dL_law_1504 ?_
  refine va_sld (pc := 1505) hx hb hX hbl hbA hS (sc_in (n := 2) hi hL rfl (by decide)) dL_law_1505 ?_
  refine lv_aload_n (pc := 1506) hx hb dL_law_1506 rfl (lv_at hl 0 rfl) ?_
  refine lv_iload_n (pc := 1507) hx hb dL_law_1507 rfl (lv_at hl 3 rfl) ?_
  refine lv_iconst (pc := 1508) (v := 3) hx hb dL_law_1508 (by decide) ?_
  refine lv_iadd (pc := 1509) hx hb dL_law_1509 ?_
  refine va_sld (pc := 1510) hx hb hX hbl hbA hS (sc_in (n := 3) hi hL rfl (by decide)) dL_law_1510 ?_
  refine lcall_i (pc := 1511) (n := 3) (rest := []) [.int (xs (nI i + 1).toNatClampNeg), .int (xs (nI i + 2).toNatClampNeg), .int (xs (nI i + 3).toNatClampNeg)] X hP hS hAD (c_X11_write (xs (nI i + 1).toNatClampNeg) (xs (nI i + 2).toNatClampNeg) (xs (nI i + 3).toNatClampNeg) e1) ⟨w_ebb4bbef88, w_6994e19fde, w_e7edaf7143, w_2ec9ce0154, w_b6d726d899, ⟨by decide, by decide, by decide +kernel⟩⟩ (rcX X hP) rfl ⟨rfl, rfl, Nat.le_of_ble_eq_true rfl, Nat.le_of_ble_eq_true rfl⟩ hl rfl (Nat.le_of_ble_eq_true rfl) dL_law_1511 ⟨Nat.le_of_ble_eq_true rfl, Nat.le_of_ble_eq_true rfl⟩ (fun H locs hP hS => ?_)
  refine lv_aload_n (pc := 1514) hx hb dL_law_1514 rfl (lv_at hl 2 rfl) ?_
  refine lv_aload_n (pc := 1515) hx hb dL_law_1515 rfl (lv_at hl 0 rfl) ?_
  refine lv_iload_n (pc := 1516) hx hb dL_law_1516 rfl (lv_at hl 3 rfl) ?_
  refine lv_iconst (pc := 1517) (v := 1) hx hb dL_law_1517 (by decide) ?_
  refine lv_iadd (pc := 1518) hx hb dL_law_1518 ?_
  refine va_sld (pc := 1519) hx hb hX hbl hbA hS (sc_in (n := 1) hi hL rfl (by decide)) dL_law_1519 ?_
  refine lv_aload_n (pc := 1520) hx hb dL_law_1520 rfl (lv_at hl 0 rfl) ?_
  refine lv_iload_n (pc := 1521) hx hb dL_law_1521 rfl (lv_at hl 3 rfl) ?_
  refine lv_iconst (pc := 1522) (v := 2) hx hb dL_law_1522 (by decide) ?_
  refine lv_iadd (pc := 1523) hx hb dL_law_1523 ?_
  refine va_sld (pc := 1524) hx hb hX hbl hbA hS (sc_in (n := 2) hi hL rfl (by decide)) dL_law_1524 ?_
  refine lv_aload_n (pc := 1525) hx hb dL_law_1525 rfl (lv_at hl 0 rfl) ?_
  refine lv_iload_n (pc := 1526) hx hb dL_law_1526 rfl (lv_at hl 3 rfl) ?_
  refine lv_iconst (pc := 1527) (v := 3) hx hb dL_law_1527 (by decide) ?_
  refine lv_iadd (pc := 1528) hx hb dL_law_1528 ?_
  refine va_sld (pc := 1529) hx hb hX hbl hbA hS (sc_in (n := 3) hi hL rfl (by decide)) dL_law_1529 ?_
  refine lcall_i (pc := 1530) (n := 3) (rest := [.int r]) [.int (xs (nI i + 1).toNatClampNeg), .int (xs (nI i + 2).toNatClampNeg), .int (xs (nI i + 3).toNatClampNeg)] X hP hS hAD (c_X12_write (xs (nI i + 1).toNatClampNeg) (xs (nI i + 2).toNatClampNeg) (xs (nI i + 3).toNatClampNeg) e2) ⟨w_9fee0854dc, w_b6c0a31680, w_f82d25fae7, w_901012d71c, w_a0407cafe2, ⟨by decide, by decide, by decide +kernel⟩⟩ (rcM X hP) rfl ⟨rfl, rfl, Nat.le_of_ble_eq_true rfl, Nat.le_of_ble_eq_true rfl⟩ hl rfl (Nat.le_of_ble_eq_true rfl) dL_law_1530 ⟨Nat.le_of_ble_eq_true rfl, Nat.le_of_ble_eq_true rfl⟩ (fun H locs hP hS => ?_)
  refine lv_icmp_eq (pc := 1533) (tgt := 1575) hx hb dL_law_1533 (by decide) (fun _ => ?_) (fun c9 => absurd rfl c9)
  exact K _ _ H locs ls hI1 hP hS hl
set_option maxHeartbeats 4000000 in
set_option maxRecDepth 100000 in
theorem law_38 {b L i : Nat} {xs : Nat → Int32} (X : Cx p s m #[Value.ref b] meth c cL_law RL 4 (some .boolean) dC dI ad bd cI cZ) (hAD : ∀ q, AD ad bd q → s.heap.size ≤ q) (hX : va_X b L xs s s.heap) (hbl : b < s.heap.size) (hL : L ≤ 3072) (hi : i + 6 ≤ L) (hI : Inv C D) (hP : va_P (dC, dI) vwCl (wl ad bd cI cZ C D) H) (hS : va_S (fun q => s.heap.size ≤ q) s.heap H locs) (hl : lv_has ls 4 [(0, .ref b), (1, .ref (ad 0)), (2, .ref (bd 0)), (3, .int (nI i))]) (K : ∀ (C D : Mem) (H : Heap) (locs : List Loc) (ls : Array Slot), Inv C D → va_P (dC, dI) vwCl (wl ad bd cI cZ C D) H → va_S (fun q => s.heap.size ≤ q) s.heap H locs → lv_has ls 4 [(0, .ref b), (1, .ref (ad 0)), (2, .ref (bd 0)), (3, .int (nI i))] → W p l e room_1 s m #[Value.ref b] below meth c H locs 78 3498 (lw_Z below #[Value.ref b] s) (F0 m 1575 ls [])) : W p l e room_1 s m #[Value.ref b] below meth c H locs 78 3498 (lw_Z below #[Value.ref b] s) (F0 m 33 ls [.int 38]) := by
  have hx := X.1
  have hb := X.2.1
  have hbA : ¬ (fun q => s.heap.size ≤ q) b := Nat.not_le.mpr hbl
  obtain ⟨r, e1, e2, hI1⟩ := ok_count hI (xs (nI i + 1).toNatClampNeg)
  refine lv_tableIn (pc := 33) (x := 38) (tgt := 1538) hx hb dL_law_33 (by decide) (by decide) rfl (by decide) ?_
  refine lv_aload_n (pc := 1538) hx hb dL_law_1538 rfl (lv_at hl 1 rfl) ?_
  refine lv_aload_n (pc := 1539) hx hb dL_law_1539 rfl (lv_at hl 0 rfl) ?_
  refine lv_iload_n (pc := 1540) hx hb dL_law_1540 rfl (lv_at hl 3 rfl) ?_
  refine lv_iconst (pc := 1541) (v := 1) hx hb dL_law_1541 (by decide) ?_
  refine lv_iadd (pc := 1542) hx hb dL_law_1542 ?_
  refine va_sld (pc := 1543) hx hb hX hbl hbA hS (sc_in (n := 1) hi hL rfl (by decide)) dL_law_1543 ?_
  refine lcall_i (pc := 1544) (n := 1) (rest := []) [.int (xs (nI i + 1).toNatClampNeg)] X hP hS hAD (c_X11_count (xs (nI i + 1).toNatClampNeg) e1) ⟨w_531b8d7aca, w_3c7d76903c, w_e7edaf7143, w_1d41d7c431, w_a08930f870, ⟨by decide, by decide, by decide +kernel⟩⟩ (rcX X hP) rfl ⟨rfl, rfl, Nat.le_of_ble_eq_true rfl, Nat.le_of_ble_eq_true rfl⟩ hl rfl (Nat.le_of_ble_eq_true rfl) dL_law_1544 ⟨Nat.le_of_ble_eq_true rfl, Nat.le_of_ble_eq_true rfl⟩ (fun H locs hP hS => ?_)
  refine lv_aload_n (pc := 1547) hx hb dL_law_1547 rfl (lv_at hl 2 rfl) ?_
  refine lv_aload_n (pc := 1548) hx hb dL_law_1548 rfl (lv_at hl 0 rfl) ?_
  refine lv_iload_n (pc := 1549) hx hb dL_law_1549 rfl (lv_at hl 3 rfl) ?_
  refine lv_iconst (pc := 1550) (v := 1) hx hb dL_law_1550 (by decide) ?_
  refine lv_iadd (pc := 1551) hx hb dL_law_1551 ?_
  refine va_sld (pc := 1552) hx hb hX hbl hbA hS (sc_in (n := 1) hi hL rfl (by decide)) dL_law_1552 ?_
  refine lcall_i (pc := 1553) (n := 1) (rest := [.int r]) [.int (xs (nI i + 1).toNatClampNeg)] X hP hS hAD (c_X12_count (xs (nI i + 1).toNatClampNeg) e2) ⟨w_a43db5b15e, w_a8eb7f2668, w_f82d25fae7, w_9ba6e7bef8, w_c259deac14, ⟨by decide, by decide, by decide +kernel⟩⟩ (rcM X hP) rfl ⟨rfl, rfl, Nat.le_of_ble_eq_true rfl, Nat.le_of_ble_eq_true rfl⟩ hl rfl (Nat.le_of_ble_eq_true rfl) dL_law_1553 ⟨Nat.le_of_ble_eq_true rfl, Nat.le_of_ble_eq_true rfl⟩ (fun H locs hP hS => ?_)
  refine lv_icmp_eq (pc := 1556) (tgt := 1575) hx hb dL_law_1556 (by decide) (fun _ => ?_) (fun c9 => absurd rfl c9)
  exact K _ _ H locs ls hI1 hP hS hl
set_option maxHeartbeats 4000000 in
set_option maxRecDepth 100000 in
theorem law_39 {b L i : Nat} {xs : Nat → Int32} (X : Cx p s m #[Value.ref b] meth c cL_law RL 4 (some .boolean) dC dI ad bd cI cZ) (hAD : ∀ q, AD ad bd q → s.heap.size ≤ q) (hX : va_X b L xs s s.heap) (hbl : b < s.heap.size) (hL : L ≤ 3072) (hi : i + 6 ≤ L) (hI : Inv C D) (hP : va_P (dC, dI) vwCl (wl ad bd cI cZ C D) H) (hS : va_S (fun q => s.heap.size ≤ q) s.heap H locs) (hl : lv_has ls 4 [(0, .ref b), (1, .ref (ad 0)), (2, .ref (bd 0)), (3, .int (nI i))]) (K : ∀ (C D : Mem) (H : Heap) (locs : List Loc) (ls : Array Slot), Inv C D → va_P (dC, dI) vwCl (wl ad bd cI cZ C D) H → va_S (fun q => s.heap.size ≤ q) s.heap H locs → lv_has ls 4 [(0, .ref b), (1, .ref (ad 0)), (2, .ref (bd 0)), (3, .int (nI i))] → W p l e room_1 s m #[Value.ref b] below meth c H locs 78 3498 (lw_Z below #[Value.ref b] s) (F0 m 1575 ls [])) : W p l e room_1 s m #[Value.ref b] below meth c H locs 78 3498 (lw_Z below #[Value.ref b] s) (F0 m 33 ls [.int 39]) := by
  have hx := X.1
  have hb := X.2.1
  have hbA : ¬ (fun q => s.heap.size ≤ q) b := Nat.not_le.mpr hbl
  obtain ⟨r, C1, D1, e1, e2, hI1⟩ := ok_digest hI
  refine lv_tableIn (pc := 33) (x := 39) (tgt := 1561) hx hb dL_law_33 (by decide) (by decide) rfl (by decide) ?_
  refine lv_aload_n (pc := 1561) hx hb dL_law_1561 rfl (lv_at hl 1 rfl) ?_
  refine lcall_l (pc := 1562) (n := 0) (rest := []) [] X hP hS hAD (c_X11_digest e1) ⟨w_7cbaa950ab, w_5962ce3cbb, w_e7edaf7143, w_4e23667c57, w_b13dc4d32c, ⟨by decide, by decide, by decide +kernel⟩⟩ (rcX X hP) rfl ⟨rfl, rfl, Nat.le_of_ble_eq_true rfl, Nat.le_of_ble_eq_true rfl⟩ hl rfl (Nat.le_of_ble_eq_true rfl) dL_law_1562 ⟨Nat.le_of_ble_eq_true rfl, Nat.le_of_ble_eq_true rfl⟩ (fun H locs hP hS => ?_)
  refine lv_aload_n (pc := 1565) hx hb dL_law_1565 rfl (lv_at hl 2 rfl) ?_
  refine lcall_l (pc := 1566) (n := 0) (rest := [.long r]) [] X hP hS hAD (c_X12_digest e2) ⟨w_460f416709, w_f47244f7ad, w_f82d25fae7, w_bd206e2611, w_8d74097f8e, ⟨by decide, by decide, by decide +kernel⟩⟩ (rcM X hP) rfl ⟨rfl, rfl, Nat.le_of_ble_eq_true rfl, Nat.le_of_ble_eq_true rfl⟩ hl rfl (Nat.le_of_ble_eq_true rfl) dL_law_1566 ⟨Nat.le_of_ble_eq_true rfl, Nat.le_of_ble_eq_true rfl⟩ (fun H locs hP hS => ?_)
  refine W.lcmp (pc := 1569) hx hb dL_law_1569 ?_
  refine lv_if_eq (pc := 1570) (tgt := 1575) hx hb dL_law_1570 (by decide) (fun _ => ?_) (fun c9 => absurd (lg_self r) c9)
  exact K _ _ H locs ls hI1 hP hS hl
set_option maxHeartbeats 4000000 in
set_option maxRecDepth 100000 in
theorem law_sw {b L i : Nat} {xs : Nat → Int32} (x : Int32) (X : Cx p s m #[Value.ref b] meth c cL_law RL 4 (some .boolean) dC dI ad bd cI cZ) (hAD : ∀ q, AD ad bd q → s.heap.size ≤ q) (hX : va_X b L xs s s.heap) (hbl : b < s.heap.size) (hL : L ≤ 3072) (hi : i + 6 ≤ L) (hI : Inv C D) (hP : va_P (dC, dI) vwCl (wl ad bd cI cZ C D) H) (hS : va_S (fun q => s.heap.size ≤ q) s.heap H locs) (hl : lv_has ls 4 [(0, .ref b), (1, .ref (ad 0)), (2, .ref (bd 0)), (3, .int (nI i))]) (K : ∀ (C D : Mem) (H : Heap) (locs : List Loc) (ls : Array Slot), Inv C D → va_P (dC, dI) vwCl (wl ad bd cI cZ C D) H → va_S (fun q => s.heap.size ≤ q) s.heap H locs → lv_has ls 4 [(0, .ref b), (1, .ref (ad 0)), (2, .ref (bd 0)), (3, .int (nI i))] → W p l e room_1 s m #[Value.ref b] below meth c H locs 78 3498 (lw_Z below #[Value.ref b] s) (F0 m 1575 ls [])) : W p l e room_1 s m #[Value.ref b] below meth c H locs 78 3498 (lw_Z below #[Value.ref b] s) (F0 m 33 ls [.int x]) := by
  by_cases h : x.toInt < 0 ∨ 39 < x.toInt
  · refine lv_tableOut (pc := 33) (tgt := 1575) X.1 X.2.1 dL_law_33 h (by decide) ?_
    exact K C D H locs ls hI hP hS hl
  · obtain ⟨j, hj, rfl⟩ : ∃ j : Nat, j < 40 ∧ x = nI j := by
      refine ⟨x.toInt.toNat, by omega, ?_⟩
      apply Int32.toInt_inj.mp
      rw [nI_toInt (by omega)]
      omega
    match j, hj with
    | 0, _ => exact law_0 X hAD hX hbl hL hi hI hP hS hl K
    | 1, _ => exact law_1 X hAD hX hbl hL hi hI hP hS hl K
    | 2, _ => exact law_2 X hAD hX hbl hL hi hI hP hS hl K
    | 3, _ => exact law_3 X hAD hX hbl hL hi hI hP hS hl K
    | 4, _ => exact law_4 X hAD hX hbl hL hi hI hP hS hl K
    | 5, _ => exact law_5 X hAD hX hbl hL hi hI hP hS hl K
    | 6, _ => exact law_6 X hAD hX hbl hL hi hI hP hS hl K
    | 7, _ => exact law_7 X hAD hX hbl hL hi hI hP hS hl K
    | 8, _ => exact law_8 X hAD hX hbl hL hi hI hP hS hl K
    | 9, _ => exact law_9 X hAD hX hbl hL hi hI hP hS hl K
    | 10, _ => exact law_10 X hAD hX hbl hL hi hI hP hS hl K
    | 11, _ => exact law_11 X hAD hX hbl hL hi hI hP hS hl K
    | 12, _ => exact law_12 X hAD hX hbl hL hi hI hP hS hl K
    | 13, _ => exact law_13 X hAD hX hbl hL hi hI hP hS hl K
    | 14, _ => exact law_14 X hAD hX hbl hL hi hI hP hS hl K
    | 15, _ => exact law_15 X hAD hX hbl hL hi hI hP hS hl K
    | 16, _ => exact law_16 X hAD hX hbl hL hi hI hP hS hl K
    | 17, _ => exact law_17 X hAD hX hbl hL hi hI hP hS hl K
    | 18, _ => exact law_18 X hAD hX hbl hL hi hI hP hS hl K
    | 19, _ => exact law_19 X hAD hX hbl hL hi hI hP hS hl K
    | 20, _ => exact law_20 X hAD hX hbl hL hi hI hP hS hl K
    | 21, _ => exact law_21 X hAD hX hbl hL hi hI hP hS hl K
    | 22, _ => exact law_22 X hAD hX hbl hL hi hI hP hS hl K
    | 23, _ => exact law_23 X hAD hX hbl hL hi hI hP hS hl K
    | 24, _ => exact law_24 X hAD hX hbl hL hi hI hP hS hl K
    | 25, _ => exact law_25 X hAD hX hbl hL hi hI hP hS hl K
    | 26, _ => exact law_26 X hAD hX hbl hL hi hI hP hS hl K
    | 27, _ => exact law_27 X hAD hX hbl hL hi hI hP hS hl K
    | 28, _ => exact law_28 X hAD hX hbl hL hi hI hP hS hl K
    | 29, _ => exact law_29 X hAD hX hbl hL hi hI hP hS hl K
    | 30, _ => exact law_30 X hAD hX hbl hL hi hI hP hS hl K
    | 31, _ => exact law_31 X hAD hX hbl hL hi hI hP hS hl K
    | 32, _ => exact law_32 X hAD hX hbl hL hi hI hP hS hl K
    | 33, _ => exact law_33 X hAD hX hbl hL hi hI hP hS hl K
    | 34, _ => exact law_34 X hAD hX hbl hL hi hI hP hS hl K
    | 35, _ => exact law_35 X hAD hX hbl hL hi hI hP hS hl K
    | 36, _ => exact law_36 X hAD hX hbl hL hi hI hP hS hl K
    | 37, _ => exact law_37 X hAD hX hbl hL hi hI hP hS hl K
    | 38, _ => exact law_38 X hAD hX hbl hL hi hI hP hS hl K
    | 39, _ => exact law_39 X hAD hX hbl hL hi hI hP hS hl K
    | j + 40, hj => exact absurd hj (by omega)
theorem sc_cmp {i L : Nat} (hL : L ≤ 3072) (hi : i ≤ 4000) : (Int32.ofNat L - 6 < nI i) ↔ ¬ i + 6 ≤ L := by
  rw [show Int32.ofNat L = nI L from rfl, show (6 : Int32) = nI 6 from rfl, Int32.lt_iff_toInt_lt, pk_sub_toInt (by omega) (by decide), nI_toInt (by omega)]
  omega
set_option maxHeartbeats 4000000 in
set_option maxRecDepth 100000 in
theorem law_loop {b L : Nat} {xs : Nat → Int32} (X : Cx p s m #[Value.ref b] meth c cL_law RL 4 (some .boolean) dC dI ad bd cI cZ) (hAD : ∀ q, AD ad bd q → s.heap.size ≤ q) (hX : va_X b L xs s s.heap) (hbl : b < s.heap.size) (hL : L ≤ 3072) : ∀ (n i : Nat), L + 6 < i + n → i ≤ L + 6 → ∀ (C D : Mem) (H : Heap) (locs : List Loc) (ls : Array Slot), Inv C D → va_P (dC, dI) vwCl (wl ad bd cI cZ C D) H → va_S (fun q => s.heap.size ≤ q) s.heap H locs → lv_has ls 4 [(0, .ref b), (1, .ref (ad 0)), (2, .ref (bd 0)), (3, .int (nI i))] → W p l e room_1 s m #[Value.ref b] below meth c H locs 78 3498 (lw_Z below #[Value.ref b] s) (F0 m 18 ls []) := by
  have hx := X.1
  have hb := X.2.1
  have hbA : ¬ (fun q => s.heap.size ≤ q) b := Nat.not_le.mpr hbl
  intro n
  induction n with
  | zero => intro i h1 h2; omega
  | succ n ih =>
    intro i h1 h2 C D H locs ls hI hP hS hl
    refine lv_iload_n (pc := 18) hx hb dL_law_18 rfl (lv_at hl 3 rfl) ?_
    refine lv_aload_n (pc := 19) hx hb dL_law_19 rfl (lv_at hl 0 rfl) ?_
    refine va_slen (pc := 20) hx hb hX hbl hbA hS dL_law_20 ?_
    refine lv_bipush (pc := 21) (v := 6) hx hb dL_law_21 (by decide) ?_
    refine lv_isub (pc := 23) hx hb dL_law_23 ?_
    refine lv_icmp_gt (pc := 24) (tgt := 1581) hx hb dL_law_24 (by decide) (fun c9 => ?_) (fun c9 => ?_)
    · refine lv_iconst (pc := 1581) (v := 1) hx hb dL_law_1581 (by decide) ?_
      refine va_forget hS.2.2 ?_
      exact lw_ret hx hb X.2.2.2.2.2.1 X.2.2.2.2.2.2.1 dL_law_1582
    · have hi : i + 6 ≤ L := Decidable.not_not.mp (fun z => c9 ((sc_cmp hL (by omega)).mpr z))
      refine lv_aload_n (pc := 27) hx hb dL_law_27 rfl (lv_at hl 0 rfl) ?_
      refine lv_iload_n (pc := 28) hx hb dL_law_28 rfl (lv_at hl 3 rfl) ?_
      refine va_sld (pc := 29) hx hb hX hbl hbA hS (vp_in_nI (by omega) (by omega)) dL_law_29 ?_
      refine lv_bipush (pc := 30) (v := 63) hx hb dL_law_30 (by decide) ?_
      refine lv_iand (pc := 32) hx hb dL_law_32 ?_
      refine law_sw _ X hAD hX hbl hL hi hI hP hS hl (fun C D H locs ls hI hP hS hl => ?_)
      refine lv_iinc (pc := 1575) (v := nI (i + 6)) (lv' := [(3, .int (nI (i + 6))), (0, .ref b), (1, .ref (ad 0)), (2, .ref (bd 0))]) hx hb dL_law_1575 hl (k := 3) rfl (by rw [← nI_add]; rfl) (by decide) rfl (fun ls hl => ?_)
      refine lv_goto (pc := 1578) (tgt := 18) hx hb dL_law_1578 (by decide) ?_
      exact ih (i + 6) (by omega) (by omega) C D H locs ls hI hP hS (lv_sub hl [1, 2, 3, 0] rfl)
theorem arr_K {ty : FieldType} (hp : refKind ty = false) (h : (Cond.arrayClass ty).before args s = true) : ∃ cA : ClassId, ArrOfT s cA ty ∧ va_RA s cA ty := by
  obtain ⟨cA, kA, comp, hfind, hk, hkind⟩ := Cond.arrayClass_spec h
  refine ⟨cA, fun n z => ⟨fun k h => (by cases h), kA, hk, comp, hkind⟩, ?_⟩
  cases ty <;> first | exact hfind | cases hp
set_option maxHeartbeats 8000000 in
set_option maxRecDepth 100000 in
theorem whole_start {p : Program} {e : Env} {s : State} {m : MethodId} {below : List Frame} {meth : Method} {c : Code} (l : Launch) (hflags : l.flags = flags0) {b L : Nat} {xs : Nat → Int32} (hL : L ≤ 3072) (C0 : lw_At p s m meth c b L xs) : W p l e room_1 s m #[Value.ref b] below meth c s.heap [] 0 0 (lw_Z below #[Value.ref b] s) (entryFrame m ([Value.ref b] : List Value).toArray 4) := by
  obtain ⟨hx, hb, hr, hml, hown, hts0, hX, hbl, hlocks, hgv⟩ := id C0
  have hts : ∀ w ∈ wk, w.before #[Value.ref b] s = true := fun w hw => hts0 w (List.mem_filter.mp hw).1
  have hN : ∀ w ∈ nk, va_Nw w s := fun w hw => va_Nw.of (nk_tab hw) (hts0 w (List.mem_filter.mp hw).1)
  have hA : ∀ q : Nat, s.heap.size ≤ q → (fun q : Nat => s.heap.size ≤ q) q := fun _ h => h
  obtain ⟨c0, iS0, hKn0⟩ := u_known (C := RX0) (T := TX0) (N := 4) (n := 4) hts inwX0 (hts _ w_dfc11d07be)
  obtain ⟨c1, iS1, hKn1⟩ := u_known (C := RX1) (T := TX1) (N := 3) (n := 3) hts inwX1 (hts _ w_3ef425b3ce)
  obtain ⟨c2, iS2, hKn2⟩ := u_known (C := RX2) (T := TX2) (N := 13) (n := 13) hts inwX2 (hts _ w_6c1d56fdb4)
  obtain ⟨c3, iS3, hKn3⟩ := u_known (C := RX3) (T := TX3) (N := 4) (n := 4) hts inwX3 (hts _ w_506bb54fde)
  obtain ⟨c4, iS4, hKn4⟩ := u_known (C := RX4) (T := TX4) (N := 9) (n := 9) hts inwX4 (hts _ w_520cf92c16)
  obtain ⟨c5, iS5, hKn5⟩ := u_known (C := RX5) (T := TX5) (N := 6) (n := 6) hts inwX5 (hts _ w_d326c594a2)
  obtain ⟨c6, iS6, hKn6⟩ := u_known (C := RX6) (T := TX6) (N := 7) (n := 7) hts inwX6 (hts _ w_7b90c6704c)
  obtain ⟨c7, iS7, hKn7⟩ := u_known (C := RX7) (T := TX7) (N := 4) (n := 4) hts inwX7 (hts _ w_372317ce05)
  obtain ⟨c8, iS8, hKn8⟩ := u_known (C := RX8) (T := TX8) (N := 1) (n := 1) hts inwX8 (hts _ w_03a11c7124)
  obtain ⟨c9, iS9, hKn9⟩ := u_known (C := RX9) (T := TX9) (N := 5) (n := 5) hts inwX9 (hts _ w_5b8d3801c4)
  obtain ⟨c10, iS10, hKn10⟩ := u_known (C := RX10) (T := TX10) (N := 2) (n := 2) hts inwX10 (hts _ w_0ee859c2fb)
  obtain ⟨c11, iS11, hKn11⟩ := u_known (C := RX11) (T := TX11) (N := 12) (n := 12) hts inwX11 (hts _ w_d400283c75)
  obtain ⟨c12, iS12, hKn12⟩ := u_known (C := RX12) (T := TX12) (N := 41) (n := 41) hts inwX12 (hts _ w_12905663a4)
  obtain ⟨dC, dI, hKc⟩ : ∃ (dC : Nat → ClassId) (dI : Nat → Nat → Nat), ∀ (k : Nat) (q : vw_C), vwCl[k]? = some q → u_Kn s q.1 q.2.1 q.2.2 (dC k) (dI k) := by
    refine ⟨fun k => if k = 0 then c0 else if k = 1 then c1 else if k = 2 then c2 else if k = 3 then c3 else if k = 4 then c4 else if k = 5 then c5 else if k = 6 then c6 else if k = 7 then c7 else if k = 8 then c8 else if k = 9 then c9 else if k = 10 then c10 else if k = 11 then c11 else c12, fun k => if k = 0 then iS0 else if k = 1 then iS1 else if k = 2 then iS2 else if k = 3 then iS3 else if k = 4 then iS4 else if k = 5 then iS5 else if k = 6 then iS6 else if k = 7 then iS7 else if k = 8 then iS8 else if k = 9 then iS9 else if k = 10 then iS10 else if k = 11 then iS11 else iS12, ?_⟩
    intro k q hq
    match k, hq with
    | 0, hq => cases hq; exact hKn0
    | 1, hq => cases hq; exact hKn1
    | 2, hq => cases hq; exact hKn2
    | 3, hq => cases hq; exact hKn3
    | 4, hq => cases hq; exact hKn4
    | 5, hq => cases hq; exact hKn5
    | 6, hq => cases hq; exact hKn6
    | 7, hq => cases hq; exact hKn7
    | 8, hq => cases hq; exact hKn8
    | 9, hq => cases hq; exact hKn9
    | 10, hq => cases hq; exact hKn10
    | 11, hq => cases hq; exact hKn11
    | 12, hq => cases hq; exact hKn12
    | k + 13, hq => simp [vwCl] at hq
  obtain ⟨cI, hI1, hI2⟩ := arr_K (ty := .int) rfl (hts _ w_0d6be98baa)
  obtain ⟨cZ, hZ1, hZ2⟩ := arr_K (ty := .boolean) rfl (hts _ w_329f1e3f3e)
  have hK : va_K (dC, dI) vwCl [(cI, .int), (cZ, .boolean)] s := by
    refine ⟨hKc, fun k q h => ?_⟩
    match k, h with
    | 0, h => cases h; exact ⟨hI1, hI2⟩
    | 1, h => cases h; exact ⟨hZ1, hZ2⟩
    | k + 2, h => simp at h
  have hS : va_S (fun q : Nat => s.heap.size ≤ q) s.heap s.heap [] := va_S.rf
  have hP : va_P (dC, dI) vwCl [] s.heap := fun k q h => by simp at h
  have hD : va_D (fun q : Nat => s.heap.size ≤ q) [] := ⟨fun i j p q h => by simp at h, fun k q h => by simp at h⟩
  have hl := lv_entry ([.ref b]) (n := 4) (Nat.le_of_ble_eq_true rfl)
  rw [lg_entry_eq]
  generalize (lg_sl ([.ref b]) ++ List.replicate (4 - (lg_sl ([.ref b])).length) Slot.unset).toArray = ls at hl ⊢
  have hl : lv_has ls 4 [(0, .ref b)] := hl
  refine va_new (pc := 0) (ci := 11) (fs := [.null, .null, .null, .null, .null, .null, .null, .null, .null, .null, .null, .null]) (C := RX11) (T := TX11) (N := 12) hx hb hts inwX11 tyX11 tyX11_ok hown (hts _ w_6ca83b9ca9) (hts _ w_d400283c75) (hts _ w_e7edaf7143) hK hP hD hS hA rfl ndX11 (Nat.le_of_ble_eq_true rfl) (Nat.le_of_ble_eq_true rfl) dL_law_0 (fun x0 H hP hD hS => ?_)
  have hP : va_P (dC, dI) vwCl [(x0, .inr (11, [.null, .null, .null, .null, .null, .null, .null, .null, .null, .null, .null, .null]))] H := hP
  have hD : va_D (fun q : Nat => s.heap.size ≤ q) [(x0, .inr (11, [.null, .null, .null, .null, .null, .null, .null, .null, .null, .null, .null, .null]))] := hD
  refine W.widen (k := 1) (n := 12) (Nat.le_of_ble_eq_true rfl) (Nat.le_of_ble_eq_true rfl) ?_
  refine lv_dup (pc := 3) hx hb dL_law_3 rfl ?_
  have hPc := hP.sub (ws' := [(x0, .inr (11, [.null, .null, .null, .null, .null, .null, .null, .null, .null, .null, .null, .null]))]) [0] rfl
  have hDc := hD.sub (ws' := [(x0, .inr (11, [.null, .null, .null, .null, .null, .null, .null, .null, .null, .null, .null, .null]))]) [0] (by decide) rfl
  have hFc := va_free (wc := [(x0, .inr (11, [.null, .null, .null, .null, .null, .null, .null, .null, .null, .null, .null, .null]))]) hD hS hA [0] rfl
  refine va_callv (va_runI (As := []) (rest := [.ref x0]) ⟨hx, hb, hml, hown, hts⟩ (k_X11_init (h0 := x0) H.size) ⟨callB_of (ws := .code yX11_init cX11_init 1 none :: wk) 0 hts (wk_in w_04996f854c) rfl rfl rfl (hts _ w_e7edaf7143) (hts _ w_1255aa19d6) ⟨by decide, by decide, by decide +kernel⟩ ⟨Nat.le_of_ble_eq_true rfl, Nat.le_of_ble_eq_true rfl⟩, rfl, (hts _ w_34df89531c)⟩ ⟨ki_blind, fun U hU hW => ⟨rfl, by rw [hU], by rw [hU]; exact hPc, va_K.moved hW.alike hK, hDc.weaken (fun _ _ _ _ => trivial), nk_warm hW hN⟩⟩ rfl rfl hl.1 rfl (lv_room (Nat.le_of_ble_eq_true rfl)) dL_law_4 ⟨Nat.le_of_ble_eq_true rfl, Nat.le_of_ble_eq_true rfl⟩) hS (fun q _ h => hFc q h) hFc (fun q1 t H1 locs ht hvm _ hB hz1 hk1 hS => ?_)
  obtain ⟨hP1, hD1⟩ := hB
  rw [ht] at hP1
  obtain ⟨hP, hD⟩ := va_join (wr := []) (w1 := fin_X11_init cI cZ x0 q1) hP hD [0] [] rfl rfl (by decide) (by decide) hk1 hFc hP1 hD1
  generalize H1 = H at hP hS ⊢
  have hP : va_P (dC, dI) vwCl (fin_X11_init cI cZ x0 q1) H := hP
  have hD : va_D (fun q : Nat => s.heap.size ≤ q) (fin_X11_init cI cZ x0 q1) := hD
  refine W.widen (k := 47) (n := 2022) (Nat.le_of_ble_eq_true rfl) (Nat.le_of_ble_eq_true rfl) ?_
  refine lv_astore_n (pc := 7) (lv' := [(1, .ref x0), (0, .ref b)]) hx hb dL_law_7 rfl hl (by decide) rfl (fun ls hl => ?_)
  refine va_new (pc := 8) (ci := 12) (fs := [.int 0, .null, .null, .null, .null, .null, .null, .int 0, .int 0, .int 0, .null, .null, .int 0, .null, .null, .int 0, .null, .int 0, .null, .null, .null, .null, .null, .null, .null, .null, .int 0, .null, .null, .null, .int 0, .null, .int 0, .null, .null, .null, .null, .null, .null, .null, .int 0]) (C := RX12) (T := TX12) (N := 41) hx hb hts inwX12 tyX12 tyX12_ok hown (hts _ w_114db70941) (hts _ w_12905663a4) (hts _ w_f82d25fae7) hK hP hD hS hA rfl ndX12 (Nat.le_of_ble_eq_true rfl) (Nat.le_of_ble_eq_true rfl) dL_law_8 (fun m0 H hP hD hS => ?_)
  refine W.widen (k := 48) (n := 2063) (Nat.le_of_ble_eq_true rfl) (Nat.le_of_ble_eq_true rfl) ?_
  refine lv_dup (pc := 11) hx hb dL_law_11 rfl ?_
  have hPc := hP.sub (ws' := [(m0, .inr (12, [.int 0, .null, .null, .null, .null, .null, .null, .int 0, .int 0, .int 0, .null, .null, .int 0, .null, .null, .int 0, .null, .int 0, .null, .null, .null, .null, .null, .null, .null, .null, .int 0, .null, .null, .null, .int 0, .null, .int 0, .null, .null, .null, .null, .null, .null, .null, .int 0]))]) [47] rfl
  have hDc := hD.sub (ws' := [(m0, .inr (12, [.int 0, .null, .null, .null, .null, .null, .null, .int 0, .int 0, .int 0, .null, .null, .int 0, .null, .null, .int 0, .null, .int 0, .null, .null, .null, .null, .null, .null, .null, .null, .int 0, .null, .null, .null, .int 0, .null, .int 0, .null, .null, .null, .null, .null, .null, .null, .int 0]))]) [47] (by decide) rfl
  have hFc := va_free (wc := [(m0, .inr (12, [.int 0, .null, .null, .null, .null, .null, .null, .int 0, .int 0, .int 0, .null, .null, .int 0, .null, .null, .int 0, .null, .int 0, .null, .null, .null, .null, .null, .null, .null, .null, .int 0, .null, .null, .null, .int 0, .null, .int 0, .null, .null, .null, .null, .null, .null, .null, .int 0]))]) hD hS hA [47] rfl
  refine va_callv (va_runI (As := []) (rest := [.ref m0]) ⟨hx, hb, hml, hown, hts⟩ (k_X12_init (h0 := m0) H.size) ⟨callB_of (ws := .code yX12_init cX12_init 2 none :: wk) 0 hts (wk_in w_7c3a94c326) rfl rfl rfl (hts _ w_f82d25fae7) (hts _ w_782cd66eed) ⟨by decide, by decide, by decide +kernel⟩ ⟨Nat.le_of_ble_eq_true rfl, Nat.le_of_ble_eq_true rfl⟩, rfl, (hts _ w_e9f417361b)⟩ ⟨ki_blind, fun U hU hW => ⟨rfl, by rw [hU], by rw [hU]; exact hPc, va_K.moved hW.alike hK, hDc.weaken (fun _ _ _ _ => trivial), nk_warm hW hN⟩⟩ rfl rfl hl.1 rfl (lv_room (Nat.le_of_ble_eq_true rfl)) dL_law_12 ⟨Nat.le_of_ble_eq_true rfl, Nat.le_of_ble_eq_true rfl⟩) hS (fun q _ h => hFc q h) hFc (fun q2 t H1 locs ht hvm _ hB hz1 hk1 hS => ?_)
  obtain ⟨hP1, hD1⟩ := hB
  rw [ht] at hP1
  obtain ⟨hP, hD⟩ := va_join (wr := (fin_X11_init cI cZ x0 q1)) (w1 := fin_X12_init cI cZ m0 q2) hP hD [47] [0, 1, 2, 3, 4, 5, 6, 7, 8, 9, 10, 11, 12, 13, 14, 15, 16, 17, 18, 19, 20, 21, 22, 23, 24, 25, 26, 27, 28, 29, 30, 31, 32, 33, 34, 35, 36, 37, 38, 39, 40, 41, 42, 43, 44, 45, 46] rfl rfl (by decide) (by decide) hk1 hFc hP1 hD1
  generalize H1 = H at hP hS ⊢
  have hP : va_P (dC, dI) vwCl (fin_X11_init cI cZ x0 q1 ++ fin_X12_init cI cZ m0 q2) H := hP
  have hD : va_D (fun q : Nat => s.heap.size ≤ q) (fin_X11_init cI cZ x0 q1 ++ fin_X12_init cI cZ m0 q2) := hD
  rw [fin_wl] at hP hD
  refine W.widen (k := 78) (n := 3498) (Nat.le_of_ble_eq_true rfl) (Nat.le_of_ble_eq_true rfl) ?_
  refine lv_astore_n (pc := 15) (lv' := [(2, .ref m0), (1, .ref x0), (0, .ref b)]) hx hb dL_law_15 rfl hl (by decide) rfl (fun ls hl => ?_)
  refine lv_iconst (pc := 16) (v := 0) hx hb dL_law_16 (by decide) ?_
  refine lv_istore_n (pc := 17) (lv' := [(3, .int 0), (2, .ref m0), (1, .ref x0), (0, .ref b)]) hx hb dL_law_17 rfl hl (by decide) rfl (fun ls hl => ?_)
  obtain ⟨hO, hAD⟩ := ok2_of hD
  exact law_loop (ad := adO x0 q1) (bd := adO m0 q2) ⟨hx, hb, hml, hown, hts, hr, hlocks, hK, hO, hN⟩ hAD hX hbl hL (L + 7) 0 (by omega) (by omega) C0m D0m H _ ls inv0 hP hS (lv_sub hl [3, 2, 1, 0] rfl)
end law
