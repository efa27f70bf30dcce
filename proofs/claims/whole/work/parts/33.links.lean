/-! links of each class (printed) -/
theorem pd_ce0 : mm_CE pd_TT pd_y0 prog_1_method_1_code 1 0 none := ⟨pd_w90, by decide +kernel, pd_w69, ⟨by decide +kernel, by decide +kernel⟩, by decide +kernel, by decide⟩
theorem pd_ce1 : mm_CE pd_TT pd_y1 prog_1_method_9_code 2 1 (some .int) := ⟨pd_w299, by decide +kernel, pd_w69, ⟨by decide +kernel, by decide +kernel⟩, by decide +kernel, by decide⟩
theorem pd_ce2 : mm_CE pd_TT pd_y2 prog_1_method_2_code 6 1 (some .int) := ⟨pd_w312, by decide +kernel, pd_w69, ⟨by decide +kernel, by decide +kernel⟩, by decide +kernel, by decide⟩
theorem pd_ce3 : mm_CE pd_TT pd_y3 prog_1_method_10_code 3 2 (some .int) := ⟨pd_w315, by decide +kernel, pd_w69, ⟨by decide +kernel, by decide +kernel⟩, by decide +kernel, by decide⟩
theorem pd_ce4 : mm_CE pd_TT pd_y4 prog_1_method_3_code 3 1 (some .int) := ⟨pd_w416, by decide +kernel, pd_w69, ⟨by decide +kernel, by decide +kernel⟩, by decide +kernel, by decide⟩
theorem pd_ce5 : mm_CE pd_TT pd_y5 prog_1_method_11_code 1 1 (some .boolean) := ⟨pd_w419, by decide +kernel, pd_w69, ⟨by decide +kernel, by decide +kernel⟩, by decide +kernel, by decide⟩
theorem pd_ce6 : mm_CE pd_TT pd_y6 prog_1_method_4_code 4 2 none := ⟨pd_w549, by decide +kernel, pd_w69, ⟨by decide +kernel, by decide +kernel⟩, by decide +kernel, by decide⟩
theorem pd_ce7 : mm_CE pd_TT pd_y7 prog_1_method_5_code 4 3 (some .int) := ⟨pd_w564, by decide +kernel, pd_w69, ⟨by decide +kernel, by decide +kernel⟩, by decide +kernel, by decide⟩
theorem pd_ce8 : mm_CE pd_TT pd_y8 prog_1_method_12_code 1 1 (some .boolean) := ⟨pd_w567, by decide +kernel, pd_w69, ⟨by decide +kernel, by decide +kernel⟩, by decide +kernel, by decide⟩
theorem pd_ce9 : mm_CE pd_TT pd_y9 prog_1_method_6_code 2 1 (some .double) := ⟨pd_w788, by decide +kernel, pd_w69, ⟨by decide +kernel, by decide +kernel⟩, by decide +kernel, by decide⟩
theorem pd_ce10 : mm_CE pd_TT pd_y10 prog_1_method_7_code 6 2 none := ⟨pd_w797, by decide +kernel, pd_w69, ⟨by decide +kernel, by decide +kernel⟩, by decide +kernel, by decide⟩
theorem pd_ce11 : mm_CE pd_TT pd_y11 prog_1_method_8_code 2 1 (some .double) := ⟨pd_w808, by decide +kernel, pd_w69, ⟨by decide +kernel, by decide +kernel⟩, by decide +kernel, by decide⟩
theorem pd_ce12 : mm_CE pd_TT pd_y12 prog_3_method_1_code 1 0 none := ⟨pd_w104, by decide +kernel, pd_w71, ⟨by decide +kernel, by decide +kernel⟩, by decide +kernel, by decide⟩
theorem pd_ce13 : mm_CE pd_TT pd_y13 prog_3_method_2_code 1 0 none := ⟨pd_w428, by decide +kernel, pd_w71, ⟨by decide +kernel, by decide +kernel⟩, by decide +kernel, by decide⟩
theorem pd_ce14 : mm_CE pd_TT pd_y14 prog_3_method_4_code 4 2 (some .int) := ⟨pd_w471, by decide +kernel, pd_w71, ⟨by decide +kernel, by decide +kernel⟩, by decide +kernel, by decide⟩
theorem pd_ce15 : mm_CE pd_TT pd_y15 prog_3_method_5_code 2 1 none := ⟨pd_w525, by decide +kernel, pd_w71, ⟨by decide +kernel, by decide +kernel⟩, by decide +kernel, by decide⟩
theorem pd_ce16 : mm_CE pd_TT pd_y16 prog_3_method_3_code 1 0 (some .int) := ⟨pd_w533, by decide +kernel, pd_w71, ⟨by decide +kernel, by decide +kernel⟩, by decide +kernel, by decide⟩
theorem pd_ce17 : mm_CE pd_TT pd_y17 prog_3_method_6_code 2 1 (some .int) := ⟨pd_w627, by decide +kernel, pd_w71, ⟨by decide +kernel, by decide +kernel⟩, by decide +kernel, by decide⟩
theorem pd_ce18 : mm_CE pd_TT pd_y18 prog_3_method_7_code 2 1 (some .int) := ⟨pd_w631, by decide +kernel, pd_w71, ⟨by decide +kernel, by decide +kernel⟩, by decide +kernel, by decide⟩
theorem pd_ce19 : mm_CE pd_TT pd_y19 prog_5_method_1_code 1 0 none := ⟨pd_w98, by decide +kernel, pd_w70, ⟨by decide +kernel, by decide +kernel⟩, by decide +kernel, by decide⟩
theorem pd_ce20 : mm_CE pd_TT pd_y20 prog_5_method_2_code 1 0 (some .int) := ⟨pd_w389, by decide +kernel, pd_w70, ⟨by decide +kernel, by decide +kernel⟩, by decide +kernel, by decide⟩
theorem pd_ce21 : mm_CE pd_TT pd_y21 prog_5_method_3_code 2 1 none := ⟨pd_w409, by decide +kernel, pd_w70, ⟨by decide +kernel, by decide +kernel⟩, by decide +kernel, by decide⟩
theorem pd_ce22 : mm_CE pd_TT pd_y22 prog_5_method_4_code 2 0 (some .int) := ⟨pd_w424, by decide +kernel, pd_w70, ⟨by decide +kernel, by decide +kernel⟩, by decide +kernel, by decide⟩
theorem pd_ce23 : mm_CE pd_TT pd_y23 prog_5_method_11_code 3 1 none := ⟨pd_w432, by decide +kernel, pd_w70, ⟨by decide +kernel, by decide +kernel⟩, by decide +kernel, by decide⟩
theorem pd_ce24 : mm_CE pd_TT pd_y24 prog_5_method_12_code 3 1 none := ⟨pd_w436, by decide +kernel, pd_w70, ⟨by decide +kernel, by decide +kernel⟩, by decide +kernel, by decide⟩
theorem pd_ce25 : mm_CE pd_TT pd_y25 prog_5_method_5_code 1 0 (some .char) := ⟨pd_w440, by decide +kernel, pd_w70, ⟨by decide +kernel, by decide +kernel⟩, by decide +kernel, by decide⟩
theorem pd_ce26 : mm_CE pd_TT pd_y26 prog_5_method_28_code 1 1 (some .int) := ⟨pd_w443, by decide +kernel, pd_w70, ⟨by decide +kernel, by decide +kernel⟩, by decide +kernel, by decide⟩
theorem pd_ce27 : mm_CE pd_TT pd_y27 prog_5_method_13_code 4 2 none := ⟨pd_w447, by decide +kernel, pd_w70, ⟨by decide +kernel, by decide +kernel⟩, by decide +kernel, by decide⟩
theorem pd_ce28 : mm_CE pd_TT pd_y28 prog_5_method_7_code 2 1 (some .boolean) := ⟨pd_w451, by decide +kernel, pd_w70, ⟨by decide +kernel, by decide +kernel⟩, by decide +kernel, by decide⟩
theorem pd_ce29 : mm_CE pd_TT pd_y29 prog_5_method_6_code 2 1 (some .boolean) := ⟨pd_w489, by decide +kernel, pd_w70, ⟨by decide +kernel, by decide +kernel⟩, by decide +kernel, by decide⟩
theorem pd_ce30 : mm_CE pd_TT pd_y30 prog_5_method_19_code 3 1 (some .boolean) := ⟨pd_w455, by decide +kernel, pd_w70, ⟨by decide +kernel, by decide +kernel⟩, by decide +kernel, by decide⟩
theorem pd_ce31 : mm_CE pd_TT pd_y31 prog_5_method_20_code 4 1 (some .boolean) := ⟨pd_w459, by decide +kernel, pd_w70, ⟨by decide +kernel, by decide +kernel⟩, by decide +kernel, by decide⟩
theorem pd_ce32 : mm_CE pd_TT pd_y32 prog_5_method_21_code 4 1 (some .boolean) := ⟨pd_w463, by decide +kernel, pd_w70, ⟨by decide +kernel, by decide +kernel⟩, by decide +kernel, by decide⟩
theorem pd_ce33 : mm_CE pd_TT pd_y33 prog_5_method_22_code 4 1 (some .boolean) := ⟨pd_w467, by decide +kernel, pd_w70, ⟨by decide +kernel, by decide +kernel⟩, by decide +kernel, by decide⟩
theorem pd_ce34 : mm_CE pd_TT pd_y34 prog_5_method_27_code 1 1 (some .boolean) := ⟨pd_w477, by decide +kernel, pd_w70, ⟨by decide +kernel, by decide +kernel⟩, by decide +kernel, by decide⟩
theorem pd_ce35 : mm_CE pd_TT pd_y35 prog_5_method_23_code 3 0 none := ⟨pd_w481, by decide +kernel, pd_w70, ⟨by decide +kernel, by decide +kernel⟩, by decide +kernel, by decide⟩
theorem pd_ce36 : mm_CE pd_TT pd_y36 prog_5_method_9_code 3 1 (some .int) := ⟨pd_w485, by decide +kernel, pd_w70, ⟨by decide +kernel, by decide +kernel⟩, by decide +kernel, by decide⟩
theorem pd_ce37 : mm_CE pd_TT pd_y37 prog_5_method_24_code 2 1 none := ⟨pd_w493, by decide +kernel, pd_w70, ⟨by decide +kernel, by decide +kernel⟩, by decide +kernel, by decide⟩
theorem pd_ce38 : mm_CE pd_TT pd_y38 prog_5_method_8_code 3 2 (some .boolean) := ⟨pd_w497, by decide +kernel, pd_w70, ⟨by decide +kernel, by decide +kernel⟩, by decide +kernel, by decide⟩
theorem pd_ce39 : mm_CE pd_TT pd_y39 prog_5_method_10_code 2 1 none := ⟨pd_w501, by decide +kernel, pd_w70, ⟨by decide +kernel, by decide +kernel⟩, by decide +kernel, by decide⟩
theorem pd_ce40 : mm_CE pd_TT pd_y40 prog_5_method_25_code 3 1 (some .boolean) := ⟨pd_w505, by decide +kernel, pd_w70, ⟨by decide +kernel, by decide +kernel⟩, by decide +kernel, by decide⟩
theorem pd_ce41 : mm_CE pd_TT pd_y41 prog_5_method_26_code 2 1 none := ⟨pd_w509, by decide +kernel, pd_w70, ⟨by decide +kernel, by decide +kernel⟩, by decide +kernel, by decide⟩
theorem pd_ce42 : mm_CE pd_TT pd_y42 prog_5_method_14_code 2 1 none := ⟨pd_w513, by decide +kernel, pd_w70, ⟨by decide +kernel, by decide +kernel⟩, by decide +kernel, by decide⟩
theorem pd_ce43 : mm_CE pd_TT pd_y43 prog_5_method_15_code 3 1 none := ⟨pd_w517, by decide +kernel, pd_w70, ⟨by decide +kernel, by decide +kernel⟩, by decide +kernel, by decide⟩
theorem pd_ce44 : mm_CE pd_TT pd_y44 prog_5_method_17_code 2 1 none := ⟨pd_w521, by decide +kernel, pd_w70, ⟨by decide +kernel, by decide +kernel⟩, by decide +kernel, by decide⟩
theorem pd_ce45 : mm_CE pd_TT pd_y45 prog_5_method_16_code 4 1 none := ⟨pd_w529, by decide +kernel, pd_w70, ⟨by decide +kernel, by decide +kernel⟩, by decide +kernel, by decide⟩
theorem pd_ce46 : mm_CE pd_TT pd_y46 prog_5_method_18_code 4 1 none := ⟨pd_w537, by decide +kernel, pd_w70, ⟨by decide +kernel, by decide +kernel⟩, by decide +kernel, by decide⟩
theorem pd_ce47 : mm_CE pd_TT pd_y47 prog_6_method_1_code 2 0 none := ⟨pd_w154, by decide +kernel, pd_w72, ⟨by decide +kernel, by decide +kernel⟩, by decide +kernel, by decide⟩
theorem pd_ce48 : mm_CE pd_TT pd_y48 prog_6_method_3_code 3 0 (some .int) := ⟨pd_w303, by decide +kernel, pd_w72, ⟨by decide +kernel, by decide +kernel⟩, by decide +kernel, by decide⟩
theorem pd_ce49 : mm_CE pd_TT pd_y49 prog_6_method_2_code 4 2 (some (.object "PascalDesk$Code")) := ⟨pd_w542, by decide +kernel, pd_w72, ⟨by decide +kernel, by decide +kernel⟩, by decide +kernel, by decide⟩
theorem pd_ce50 : mm_CE pd_TT pd_y50 prog_6_method_4_code 5 3 (some .int) := ⟨pd_w588, by decide +kernel, pd_w72, ⟨by decide +kernel, by decide +kernel⟩, by decide +kernel, by decide⟩
theorem pd_ce51 : mm_CE pd_TT pd_y51 prog_6_method_5_code 5 3 none := ⟨pd_w592, by decide +kernel, pd_w72, ⟨by decide +kernel, by decide +kernel⟩, by decide +kernel, by decide⟩
theorem pd_ce52 : mm_CE pd_TT pd_y52 prog_6_method_6_code 5 0 (some .int) := ⟨pd_w608, by decide +kernel, pd_w72, ⟨by decide +kernel, by decide +kernel⟩, by decide +kernel, by decide⟩
theorem pd_ce53 : mm_CE pd_TT pd_y53 prog_6_method_7_code 7 1 none := ⟨pd_w619, by decide +kernel, pd_w72, ⟨by decide +kernel, by decide +kernel⟩, by decide +kernel, by decide⟩
theorem pd_ce54 : mm_CE pd_TT pd_y54 prog_6_method_8_code 5 3 none := ⟨pd_w635, by decide +kernel, pd_w72, ⟨by decide +kernel, by decide +kernel⟩, by decide +kernel, by decide⟩
theorem pd_ce55 : mm_CE pd_TT pd_y55 prog_6_method_9_code 3 1 none := ⟨pd_w656, by decide +kernel, pd_w72, ⟨by decide +kernel, by decide +kernel⟩, by decide +kernel, by decide⟩
theorem pd_ce56 : mm_CE pd_TT pd_y56 prog_6_method_10_code 3 2 none := ⟨pd_w661, by decide +kernel, pd_w72, ⟨by decide +kernel, by decide +kernel⟩, by decide +kernel, by decide⟩
theorem pd_ce57 : mm_CE pd_TT pd_y57 prog_6_method_11_code 3 1 none := ⟨pd_w665, by decide +kernel, pd_w72, ⟨by decide +kernel, by decide +kernel⟩, by decide +kernel, by decide⟩
theorem pd_ce58 : mm_CE pd_TT pd_y58 prog_6_method_12_code 6 1 (some .int) := ⟨pd_w669, by decide +kernel, pd_w72, ⟨by decide +kernel, by decide +kernel⟩, by decide +kernel, by decide⟩
theorem pd_ce59 : mm_CE pd_TT pd_y59 prog_6_method_13_code 3 2 none := ⟨pd_w673, by decide +kernel, pd_w72, ⟨by decide +kernel, by decide +kernel⟩, by decide +kernel, by decide⟩
theorem pd_ce60 : mm_CE pd_TT pd_y60 prog_6_method_14_code 4 2 none := ⟨pd_w685, by decide +kernel, pd_w72, ⟨by decide +kernel, by decide +kernel⟩, by decide +kernel, by decide⟩
theorem pd_ce61 : mm_CE pd_TT pd_y61 prog_6_method_15_code 3 0 (some .int) := ⟨pd_w690, by decide +kernel, pd_w72, ⟨by decide +kernel, by decide +kernel⟩, by decide +kernel, by decide⟩
theorem pd_ce62 : mm_CE pd_TT pd_y62 prog_6_method_16_code 2 0 none := ⟨pd_w764, by decide +kernel, pd_w72, ⟨by decide +kernel, by decide +kernel⟩, by decide +kernel, by decide⟩
theorem pd_ce63 : mm_CE pd_TT pd_y63 prog_6_method_17_code 5 1 none := ⟨pd_w768, by decide +kernel, pd_w72, ⟨by decide +kernel, by decide +kernel⟩, by decide +kernel, by decide⟩
theorem pd_ce64 : mm_CE pd_TT pd_y64 prog_6_method_18_code 5 1 (some .boolean) := ⟨pd_w772, by decide +kernel, pd_w72, ⟨by decide +kernel, by decide +kernel⟩, by decide +kernel, by decide⟩
theorem pd_ce65 : mm_CE pd_TT pd_y65 prog_6_method_19_code 3 1 (some .int) := ⟨pd_w780, by decide +kernel, pd_w72, ⟨by decide +kernel, by decide +kernel⟩, by decide +kernel, by decide⟩
theorem pd_ce66 : mm_CE pd_TT pd_y66 prog_2_method_1_code 1 0 none := ⟨pd_w163, by decide +kernel, pd_w73, ⟨by decide +kernel, by decide +kernel⟩, by decide +kernel, by decide⟩
theorem pd_ce67 : mm_CE pd_TT pd_y67 prog_2_method_3_code 1 1 (some .boolean) := ⟨pd_w474, by decide +kernel, pd_w73, ⟨by decide +kernel, by decide +kernel⟩, by decide +kernel, by decide⟩
theorem pd_ce68 : mm_CE pd_TT pd_y68 prog_2_method_4_code 1 0 none := ⟨pd_w623, by decide +kernel, pd_w73, ⟨by decide +kernel, by decide +kernel⟩, by decide +kernel, by decide⟩
theorem pd_ce69 : mm_CE pd_TT pd_y69 prog_2_method_5_code 1 0 (some .double) := ⟨pd_w639, by decide +kernel, pd_w73, ⟨by decide +kernel, by decide +kernel⟩, by decide +kernel, by decide⟩
theorem pd_ce70 : mm_CE pd_TT pd_y70 prog_2_method_6_code 4 2 none := ⟨pd_w643, by decide +kernel, pd_w73, ⟨by decide +kernel, by decide +kernel⟩, by decide +kernel, by decide⟩
theorem pd_ce71 : mm_CE pd_TT pd_y71 prog_2_method_2_code 1 1 (some .boolean) := ⟨pd_w646, by decide +kernel, pd_w73, ⟨by decide +kernel, by decide +kernel⟩, by decide +kernel, by decide⟩
theorem pd_ce72 : mm_CE pd_TT pd_y72 prog_2_method_7_code 3 0 none := ⟨pd_w650, by decide +kernel, pd_w73, ⟨by decide +kernel, by decide +kernel⟩, by decide +kernel, by decide⟩
theorem pd_ce73 : mm_CE pd_TT pd_y73 prog_2_method_8_code 7 2 none := ⟨pd_w701, by decide +kernel, pd_w73, ⟨by decide +kernel, by decide +kernel⟩, by decide +kernel, by decide⟩
theorem pd_ce74 : mm_CE pd_TT pd_y74 prog_2_method_9_code 3 1 none := ⟨pd_w705, by decide +kernel, pd_w73, ⟨by decide +kernel, by decide +kernel⟩, by decide +kernel, by decide⟩
theorem pd_ce75 : mm_CE pd_TT pd_y75 prog_2_method_10_code 2 1 none := ⟨pd_w709, by decide +kernel, pd_w73, ⟨by decide +kernel, by decide +kernel⟩, by decide +kernel, by decide⟩
theorem pd_ce76 : mm_CE pd_TT pd_y76 prog_2_method_11_code 1 1 (some .int) := ⟨pd_w712, by decide +kernel, pd_w73, ⟨by decide +kernel, by decide +kernel⟩, by decide +kernel, by decide⟩
theorem pd_ce77 : mm_CE pd_TT pd_y77 prog_2_method_12_code 5 3 (some .double) := ⟨pd_w731, by decide +kernel, pd_w73, ⟨by decide +kernel, by decide +kernel⟩, by decide +kernel, by decide⟩
theorem pd_ce78 : mm_CE pd_TT pd_y78 prog_2_method_15_code 2 1 (some .double) := ⟨pd_w734, by decide +kernel, pd_w73, ⟨by decide +kernel, by decide +kernel⟩, by decide +kernel, by decide⟩
theorem pd_ce79 : mm_CE pd_TT pd_y79 prog_2_method_13_code 4 2 (some .double) := ⟨pd_w755, by decide +kernel, pd_w73, ⟨by decide +kernel, by decide +kernel⟩, by decide +kernel, by decide⟩
theorem pd_ce80 : mm_CE pd_TT pd_y80 prog_2_method_14_code 2 2 (some .int) := ⟨pd_w759, by decide +kernel, pd_w73, ⟨by decide +kernel, by decide +kernel⟩, by decide +kernel, by decide⟩
theorem pd_ce81 : mm_CE pd_TT pd_y81 prog_8_method_1_code 1 0 none := ⟨pd_w181, by decide +kernel, pd_w74, ⟨by decide +kernel, by decide +kernel⟩, by decide +kernel, by decide⟩
theorem pd_ce82 : mm_CE pd_TT pd_y82 prog_8_method_2_code 5 2 none := ⟨pd_w554, by decide +kernel, pd_w74, ⟨by decide +kernel, by decide +kernel⟩, by decide +kernel, by decide⟩
theorem pd_ce83 : mm_CE pd_TT pd_y83 prog_8_method_3_code 1 0 none := ⟨pd_w596, by decide +kernel, pd_w74, ⟨by decide +kernel, by decide +kernel⟩, by decide +kernel, by decide⟩
theorem pd_ce84 : mm_CE pd_TT pd_y84 prog_8_method_4_code 2 0 (some .int) := ⟨pd_w615, by decide +kernel, pd_w74, ⟨by decide +kernel, by decide +kernel⟩, by decide +kernel, by decide⟩
theorem pd_ce85 : mm_CE pd_TT pd_y85 prog_7_method_1_code 1 0 none := ⟨pd_w198, by decide +kernel, pd_w75, ⟨by decide +kernel, by decide +kernel⟩, by decide +kernel, by decide⟩
theorem pd_ce86 : mm_CE pd_TT pd_y86 prog_7_method_2_code 2 1 none := ⟨pd_w600, by decide +kernel, pd_w75, ⟨by decide +kernel, by decide +kernel⟩, by decide +kernel, by decide⟩
theorem pd_ce87 : mm_CE pd_TT pd_y87 prog_7_method_4_code 5 4 none := ⟨pd_w604, by decide +kernel, pd_w75, ⟨by decide +kernel, by decide +kernel⟩, by decide +kernel, by decide⟩
theorem pd_ce88 : mm_CE pd_TT pd_y88 prog_7_method_5_code 2 1 (some .boolean) := ⟨pd_w680, by decide +kernel, pd_w75, ⟨by decide +kernel, by decide +kernel⟩, by decide +kernel, by decide⟩
theorem pd_ce89 : mm_CE pd_TT pd_y89 prog_7_method_3_code 4 3 none := ⟨pd_w694, by decide +kernel, pd_w75, ⟨by decide +kernel, by decide +kernel⟩, by decide +kernel, by decide⟩
theorem pd_ce90 : mm_CE pd_TT pd_y90 prog_7_method_6_code 1 0 (some .boolean) := ⟨pd_w776, by decide +kernel, pd_w75, ⟨by decide +kernel, by decide +kernel⟩, by decide +kernel, by decide⟩
theorem pd_ce91 : mm_CE pd_TT pd_y91 prog_10_method_1_code 1 0 none := ⟨pd_w814, by decide +kernel, pd_w76, ⟨by decide +kernel, by decide +kernel⟩, by decide +kernel, by decide⟩
theorem pd_ce92 : mm_CE pd_TT pd_y92 prog_10_method_2_code 1 0 (some .int) := ⟨pd_w941, by decide +kernel, pd_w76, ⟨by decide +kernel, by decide +kernel⟩, by decide +kernel, by decide⟩
theorem pd_ce93 : mm_CE pd_TT pd_y93 prog_10_method_3_code 6 1 (some .int) := ⟨pd_w945, by decide +kernel, pd_w76, ⟨by decide +kernel, by decide +kernel⟩, by decide +kernel, by decide⟩
theorem pd_ce94 : mm_CE pd_TT pd_y94 prog_10_method_22_code 4 1 (some .int) := ⟨pd_w949, by decide +kernel, pd_w76, ⟨by decide +kernel, by decide +kernel⟩, by decide +kernel, by decide⟩
theorem pd_ce95 : mm_CE pd_TT pd_y95 prog_10_method_21_code 7 0 (some .int) := ⟨pd_w953, by decide +kernel, pd_w76, ⟨by decide +kernel, by decide +kernel⟩, by decide +kernel, by decide⟩
theorem pd_ce96 : mm_CE pd_TT pd_y96 prog_10_method_4_code 3 2 none := ⟨pd_w957, by decide +kernel, pd_w76, ⟨by decide +kernel, by decide +kernel⟩, by decide +kernel, by decide⟩
theorem pd_ce97 : mm_CE pd_TT pd_y97 prog_10_method_8_code 2 1 none := ⟨pd_w961, by decide +kernel, pd_w76, ⟨by decide +kernel, by decide +kernel⟩, by decide +kernel, by decide⟩
theorem pd_ce98 : mm_CE pd_TT pd_y98 prog_10_method_10_code 1 0 (some .int) := ⟨pd_w965, by decide +kernel, pd_w76, ⟨by decide +kernel, by decide +kernel⟩, by decide +kernel, by decide⟩
theorem pd_ce99 : mm_CE pd_TT pd_y99 prog_10_method_6_code 1 0 (some .int) := ⟨pd_w969, by decide +kernel, pd_w76, ⟨by decide +kernel, by decide +kernel⟩, by decide +kernel, by decide⟩
theorem pd_ce100 : mm_CE pd_TT pd_y100 prog_10_method_15_code 2 1 (some .int) := ⟨pd_w973, by decide +kernel, pd_w76, ⟨by decide +kernel, by decide +kernel⟩, by decide +kernel, by decide⟩
theorem pd_ce101 : mm_CE pd_TT pd_y101 prog_10_method_13_code 2 1 (some .boolean) := ⟨pd_w977, by decide +kernel, pd_w76, ⟨by decide +kernel, by decide +kernel⟩, by decide +kernel, by decide⟩
theorem pd_ce102 : mm_CE pd_TT pd_y102 prog_10_method_14_code 2 1 (some .boolean) := ⟨pd_w981, by decide +kernel, pd_w76, ⟨by decide +kernel, by decide +kernel⟩, by decide +kernel, by decide⟩
theorem pd_ce103 : mm_CE pd_TT pd_y103 prog_10_method_5_code 2 1 none := ⟨pd_w985, by decide +kernel, pd_w76, ⟨by decide +kernel, by decide +kernel⟩, by decide +kernel, by decide⟩
theorem pd_ce104 : mm_CE pd_TT pd_y104 prog_10_method_16_code 2 1 (some .int) := ⟨pd_w989, by decide +kernel, pd_w76, ⟨by decide +kernel, by decide +kernel⟩, by decide +kernel, by decide⟩
theorem pd_ce105 : mm_CE pd_TT pd_y105 prog_10_method_12_code 2 1 (some .int) := ⟨pd_w993, by decide +kernel, pd_w76, ⟨by decide +kernel, by decide +kernel⟩, by decide +kernel, by decide⟩
theorem pd_ce106 : mm_CE pd_TT pd_y106 prog_10_method_7_code 2 1 (some .int) := ⟨pd_w997, by decide +kernel, pd_w76, ⟨by decide +kernel, by decide +kernel⟩, by decide +kernel, by decide⟩
theorem pd_ce107 : mm_CE pd_TT pd_y107 prog_10_method_20_code 3 1 (some .int) := ⟨pd_w1001, by decide +kernel, pd_w76, ⟨by decide +kernel, by decide +kernel⟩, by decide +kernel, by decide⟩
theorem pd_ce108 : mm_CE pd_TT pd_y108 prog_10_method_9_code 4 1 none := ⟨pd_w1005, by decide +kernel, pd_w76, ⟨by decide +kernel, by decide +kernel⟩, by decide +kernel, by decide⟩
theorem pd_ce109 : mm_CE pd_TT pd_y109 prog_10_method_17_code 4 1 (some .int) := ⟨pd_w1009, by decide +kernel, pd_w76, ⟨by decide +kernel, by decide +kernel⟩, by decide +kernel, by decide⟩
theorem pd_ce110 : mm_CE pd_TT pd_y110 prog_10_method_11_code 1 0 none := ⟨pd_w1013, by decide +kernel, pd_w76, ⟨by decide +kernel, by decide +kernel⟩, by decide +kernel, by decide⟩
theorem pd_ce111 : mm_CE pd_TT pd_y111 prog_10_method_18_code 5 1 (some .int) := ⟨pd_w1017, by decide +kernel, pd_w76, ⟨by decide +kernel, by decide +kernel⟩, by decide +kernel, by decide⟩
theorem pd_ce112 : mm_CE pd_TT pd_y112 prog_10_method_19_code 3 2 (some .int) := ⟨pd_w1021, by decide +kernel, pd_w76, ⟨by decide +kernel, by decide +kernel⟩, by decide +kernel, by decide⟩
theorem pd_ce113 : mm_CE pd_TT pd_y113 prog_10_method_23_code 5 2 none := ⟨pd_w1025, by decide +kernel, pd_w76, ⟨by decide +kernel, by decide +kernel⟩, by decide +kernel, by decide⟩
theorem pd_ce114 : mm_CE pd_TT pd_y114 prog_10_method_33_code 5 3 (some .int) := ⟨pd_w1029, by decide +kernel, pd_w76, ⟨by decide +kernel, by decide +kernel⟩, by decide +kernel, by decide⟩
theorem pd_ce115 : mm_CE pd_TT pd_y115 prog_10_method_28_code 4 2 none := ⟨pd_w1033, by decide +kernel, pd_w76, ⟨by decide +kernel, by decide +kernel⟩, by decide +kernel, by decide⟩
theorem pd_ce116 : mm_CE pd_TT pd_y116 prog_10_method_26_code 3 0 (some .int) := ⟨pd_w1037, by decide +kernel, pd_w76, ⟨by decide +kernel, by decide +kernel⟩, by decide +kernel, by decide⟩
theorem pd_ce117 : mm_CE pd_TT pd_y117 prog_10_method_32_code 5 1 (some .int) := ⟨pd_w1041, by decide +kernel, pd_w76, ⟨by decide +kernel, by decide +kernel⟩, by decide +kernel, by decide⟩
theorem pd_ce118 : mm_CE pd_TT pd_y118 prog_10_method_31_code 5 1 none := ⟨pd_w1045, by decide +kernel, pd_w76, ⟨by decide +kernel, by decide +kernel⟩, by decide +kernel, by decide⟩
theorem pd_ce119 : mm_CE pd_TT pd_y119 prog_10_method_25_code 6 1 (some .int) := ⟨pd_w1049, by decide +kernel, pd_w76, ⟨by decide +kernel, by decide +kernel⟩, by decide +kernel, by decide⟩
theorem pd_ce120 : mm_CE pd_TT pd_y120 prog_10_method_24_code 9 4 (some .double) := ⟨pd_w1054, by decide +kernel, pd_w76, ⟨by decide +kernel, by decide +kernel⟩, by decide +kernel, by decide⟩
theorem pd_ce121 : mm_CE pd_TT pd_y121 prog_10_method_29_code 4 3 none := ⟨pd_w1060, by decide +kernel, pd_w76, ⟨by decide +kernel, by decide +kernel⟩, by decide +kernel, by decide⟩
theorem pd_ce122 : mm_CE pd_TT pd_y122 prog_10_method_30_code 5 1 none := ⟨pd_w1064, by decide +kernel, pd_w76, ⟨by decide +kernel, by decide +kernel⟩, by decide +kernel, by decide⟩
theorem pd_ce123 : mm_CE pd_TT pd_y123 prog_10_method_27_code 4 1 none := ⟨pd_w1068, by decide +kernel, pd_w76, ⟨by decide +kernel, by decide +kernel⟩, by decide +kernel, by decide⟩
theorem pd_ce124 : mm_CE pd_TT pd_y124 prog_10_method_34_code 2 1 (some .double) := ⟨pd_w1072, by decide +kernel, pd_w76, ⟨by decide +kernel, by decide +kernel⟩, by decide +kernel, by decide⟩
theorem pd_ce125 : mm_CE pd_TT pd_y125 prog_10_method_35_code 5 2 none := ⟨pd_w1076, by decide +kernel, pd_w76, ⟨by decide +kernel, by decide +kernel⟩, by decide +kernel, by decide⟩
theorem pd_ce126 : mm_CE pd_TT pd_y126 prog_10_method_36_code 2 1 (some .double) := ⟨pd_w1082, by decide +kernel, pd_w76, ⟨by decide +kernel, by decide +kernel⟩, by decide +kernel, by decide⟩
theorem pd_ce127 : mm_CE pd_TT pd_y127 prog_10_method_37_code 4 1 (some .int) := ⟨pd_w1086, by decide +kernel, pd_w76, ⟨by decide +kernel, by decide +kernel⟩, by decide +kernel, by decide⟩
theorem pd_ce128 : mm_CEW pd_TT pd_y128 method_3_code 5 3 (some .int) [(0, 9, 12, 13), (0, 9, 16, 15)] := ⟨pd_w306, pd_w68, ⟨by decide +kernel, by decide +kernel⟩, by decide +kernel, by decide⟩
theorem pd_ce129 : mm_CEW pd_TT pd_y129 method_4_code 4 3 (some .int) [(0, 9, 12, 13)] := ⟨pd_w412, pd_w68, ⟨by decide +kernel, by decide +kernel⟩, by decide +kernel, by decide⟩
theorem pd_ce130 : mm_CEW pd_TT pd_y130 method_5_code 5 3 (some .int) [(0, 6, 9, 13)] := ⟨pd_w545, pd_w68, ⟨by decide +kernel, by decide +kernel⟩, by decide +kernel, by decide⟩
theorem pd_ce131 : mm_CEW pd_TT pd_y131 method_6_code 6 5 (some .int) [(0, 12, 15, 13), (0, 12, 19, 29), (0, 12, 23, 15), (0, 12, 27, 31), (0, 12, 31, 33)] := ⟨pd_w557, pd_w68, ⟨by decide +kernel, by decide +kernel⟩, by decide +kernel, by decide⟩
theorem pd_ce132 : mm_CEW pd_TT pd_y132 method_7_code 4 3 (some .int) [(0, 8, 11, 13)] := ⟨pd_w784, pd_w68, ⟨by decide +kernel, by decide +kernel⟩, by decide +kernel, by decide⟩
theorem pd_ce133 : mm_CEW pd_TT pd_y133 method_8_code 5 3 (some .int) [(0, 6, 9, 13)] := ⟨pd_w793, pd_w68, ⟨by decide +kernel, by decide +kernel⟩, by decide +kernel, by decide⟩
theorem pd_ce134 : mm_CEW pd_TT pd_y134 method_9_code 4 3 (some .int) [(0, 8, 11, 29)] := ⟨pd_w804, pd_w68, ⟨by decide +kernel, by decide +kernel⟩, by decide +kernel, by decide⟩
theorem pd_ce135 : mm_CE pd_TT pd_y135 prog_16_method_65_code 2 2 (some .int) := ⟨pd_w697, by decide +kernel, pd_w83, ⟨by decide +kernel, by decide +kernel⟩, by decide +kernel, by decide⟩
theorem pd_l0_1 : pd_LO "PascalDesk" 1 (3, 0, 0, 0) := mm_LO.k3 pd_w91 pd_w92 pd_w93
theorem pd_l0_7 : pd_LO "PascalDesk" 7 (4, 2, 0, 0) := mm_LO.k4 (C := "PascalDesk$Reader") (T := pd_T2) (N := 6) rfl pd_w94 pd_w95 pd_w70 (fun h => by cases h)
theorem pd_l0_9 : pd_LO "PascalDesk" 9 (10, 19, 0, 2) := mm_LO.k10 rfl pd_ce19 pd_w96 pd_w97 rfl
theorem pd_l0_10 : pd_LO "PascalDesk" 10 (0, 0, 0, 0) := mm_LO.k0 (C := "PascalDesk") (T := pd_T0) (N := 3) rfl (by decide) pd_w286
theorem pd_l0_16 : pd_LO "PascalDesk" 16 (4, 3, 0, 0) := mm_LO.k4 (C := "PascalDesk$Runner") (T := pd_T3) (N := 12) rfl pd_w150 pd_w151 pd_w72 (fun h => by cases h)
theorem pd_l0_18 : pd_LO "PascalDesk" 18 (10, 47, 0, 3) := mm_LO.k10 rfl pd_ce47 pd_w152 pd_w153 rfl
theorem pd_l0_19 : pd_LO "PascalDesk" 19 (0, 0, 1, 0) := mm_LO.k0 (C := "PascalDesk") (T := pd_T0) (N := 3) rfl (by decide) pd_w287
theorem pd_l0_23 : pd_LO "PascalDesk" 23 (0, 0, 2, 0) := mm_LO.k0 (C := "PascalDesk") (T := pd_T0) (N := 3) rfl (by decide) pd_w288
theorem pd_l0_27 : pd_LO "PascalDesk" 27 (2, 3, 2, 0) := mm_LO.k2 rfl pd_ce3 pd_w313 pd_w314
theorem pd_l0_31 : pd_LO "PascalDesk" 31 (5, 0, 0, 0) := mm_LO.k5 pd_w316
theorem pd_l0_38 : pd_LO "PascalDesk" 38 (1, 20, 0, 2) := mm_LO.k1 rfl pd_ce20 ⟨pd_w386, pd_w387, _, rfl, pd_w388⟩
theorem pd_l0_42 : pd_LO "PascalDesk" 42 (5, 1, 0, 0) := mm_LO.k5 pd_w390
theorem pd_l0_47 : pd_LO "PascalDesk" 47 (1, 21, 1, 2) := mm_LO.k1 rfl pd_ce21 ⟨pd_w406, pd_w407, _, rfl, pd_w408⟩
theorem pd_l0_51 : pd_LO "PascalDesk" 51 (0, 2, 1, 0) := mm_LO.k0 (C := "PascalDesk$Reader") (T := pd_T2) (N := 6) rfl (by decide) pd_w131
theorem pd_l0_54 : pd_LO "PascalDesk" 54 (2, 5, 1, 0) := mm_LO.k2 rfl pd_ce5 pd_w417 pd_w418
theorem pd_l0_60 : pd_LO "PascalDesk" 60 (1, 22, 0, 2) := mm_LO.k1 rfl pd_ce22 ⟨pd_w421, pd_w422, _, rfl, pd_w423⟩
theorem pd_l0_65 : pd_LO "PascalDesk" 65 (0, 2, 2, 0) := mm_LO.k0 (C := "PascalDesk$Reader") (T := pd_T2) (N := 6) rfl (by decide) pd_w133
theorem pd_l0_69 : pd_LO "PascalDesk" 69 (1, 49, 2, 3) := mm_LO.k1 rfl pd_ce49 ⟨pd_w539, pd_w540, _, rfl, pd_w541⟩
theorem pd_l0_73 : pd_LO "PascalDesk" 73 (0, 3, 0, 0) := mm_LO.k0 (C := "PascalDesk$Runner") (T := pd_T3) (N := 12) rfl (by decide) pd_w240
theorem pd_l0_77 : pd_LO "PascalDesk" 77 (0, 1, 3, 0) := mm_LO.k0 (C := "PascalDesk$Code") (T := pd_T1) (N := 5) rfl (by decide) pd_w110
theorem pd_l0_84 : pd_LO "PascalDesk" 84 (0, 3, 2, 0) := mm_LO.k0 (C := "PascalDesk$Runner") (T := pd_T3) (N := 12) rfl (by decide) pd_w244
theorem pd_l0_88 : pd_LO "PascalDesk" 88 (1, 82, 2, 5) := mm_LO.k1 rfl pd_ce82 ⟨pd_w551, pd_w552, _, rfl, pd_w553⟩
theorem pd_l0_94 : pd_LO "PascalDesk" 94 (2, 8, 1, 0) := mm_LO.k2 rfl pd_ce8 pd_w565 pd_w566
theorem pd_l0_99 : pd_LO "PascalDesk" 99 (0, 1, 4, 0) := mm_LO.k0 (C := "PascalDesk$Code") (T := pd_T1) (N := 5) rfl (by decide) pd_w115
theorem pd_l0_103 : pd_LO "PascalDesk" 103 (5, 2, 0, 0) := mm_LO.k5 pd_w569
theorem pd_l0_108 : pd_LO "PascalDesk" 108 (1, 50, 3, 3) := mm_LO.k1 rfl pd_ce50 ⟨pd_w585, pd_w586, _, rfl, pd_w587⟩
theorem pd_l0_112 : pd_LO "PascalDesk" 112 (2, 71, 1, 0) := mm_LO.k2 rfl pd_ce71 pd_w789 pd_w645
theorem pd_l0_119 : pd_LO "PascalDesk" 119 (0, 3, 1, 0) := mm_LO.k0 (C := "PascalDesk$Runner") (T := pd_T3) (N := 12) rfl (by decide) pd_w242
theorem pd_l0_123 : pd_LO "PascalDesk" 123 (0, 4, 0, 0) := mm_LO.k0 (C := "PascalDesk$Calculator") (T := pd_T4) (N := 3) rfl (by decide) pd_w166
theorem pd_l0_127 : pd_LO "PascalDesk" 127 (8, 13875379345695965184, 0, 0) := mm_LO.k8 pd_w798
theorem pd_l0_129 : pd_LO "PascalDesk" 129 (8, 4652007308841189376, 0, 0) := mm_LO.k8 pd_w799
theorem pd_l0_131 : pd_LO "PascalDesk" 131 (2, 67, 1, 0) := mm_LO.k2 rfl pd_ce67 pd_w800 pd_w473
theorem pd_l0_136 : pd_LO "PascalDesk" 136 (0, 3, 5, 0) := mm_LO.k0 (C := "PascalDesk$Runner") (T := pd_T3) (N := 12) rfl (by decide) pd_w250
theorem pd_l0_141 : pd_LO "PascalDesk" 141 (0, 3, 4, 0) := mm_LO.k0 (C := "PascalDesk$Runner") (T := pd_T3) (N := 12) rfl (by decide) pd_w248
theorem pd_l0_144 : pd_LO "PascalDesk" 144 (1, 48, 0, 3) := mm_LO.k1 rfl pd_ce48 ⟨pd_w300, pd_w301, _, rfl, pd_w302⟩
theorem pd_l0_147 : pd_LO "PascalDesk" 147 (0, 3, 6, 0) := mm_LO.k0 (C := "PascalDesk$Runner") (T := pd_T3) (N := 12) rfl (by decide) pd_w252
theorem pd_l0_150 : pd_LO "PascalDesk" 150 (0, 3, 3, 0) := mm_LO.k0 (C := "PascalDesk$Runner") (T := pd_T3) (N := 12) rfl (by decide) pd_w246
theorem pd_l0_154 : pd_LO "PascalDesk" 154 (0, 3, 7, 0) := mm_LO.k0 (C := "PascalDesk$Runner") (T := pd_T3) (N := 12) rfl (by decide) pd_w254
theorem pd_l0_157 : pd_LO "PascalDesk" 157 (0, 3, 8, 0) := mm_LO.k0 (C := "PascalDesk$Runner") (T := pd_T3) (N := 12) rfl (by decide) pd_w256
theorem pd_l0_160 : pd_LO "PascalDesk" 160 (0, 3, 9, 0) := mm_LO.k0 (C := "PascalDesk$Runner") (T := pd_T3) (N := 12) rfl (by decide) pd_w258
theorem pd_LO0 : ∀ q ∈ pd_lkl0, pd_LO "PascalDesk" q.1 q.2 := List.forall_mem_cons.mpr ⟨pd_l0_1, List.forall_mem_cons.mpr ⟨pd_l0_7, List.forall_mem_cons.mpr ⟨pd_l0_9, List.forall_mem_cons.mpr ⟨pd_l0_10, List.forall_mem_cons.mpr ⟨pd_l0_16, List.forall_mem_cons.mpr ⟨pd_l0_18, List.forall_mem_cons.mpr ⟨pd_l0_19, List.forall_mem_cons.mpr ⟨pd_l0_23, List.forall_mem_cons.mpr ⟨pd_l0_27, List.forall_mem_cons.mpr ⟨pd_l0_31, List.forall_mem_cons.mpr ⟨pd_l0_38, List.forall_mem_cons.mpr ⟨pd_l0_42, List.forall_mem_cons.mpr ⟨pd_l0_47, List.forall_mem_cons.mpr ⟨pd_l0_51, List.forall_mem_cons.mpr ⟨pd_l0_54, List.forall_mem_cons.mpr ⟨pd_l0_60, List.forall_mem_cons.mpr ⟨pd_l0_65, List.forall_mem_cons.mpr ⟨pd_l0_69, List.forall_mem_cons.mpr ⟨pd_l0_73, List.forall_mem_cons.mpr ⟨pd_l0_77, List.forall_mem_cons.mpr ⟨pd_l0_84, List.forall_mem_cons.mpr ⟨pd_l0_88, List.forall_mem_cons.mpr ⟨pd_l0_94, List.forall_mem_cons.mpr ⟨pd_l0_99, List.forall_mem_cons.mpr ⟨pd_l0_103, List.forall_mem_cons.mpr ⟨pd_l0_108, List.forall_mem_cons.mpr ⟨pd_l0_112, List.forall_mem_cons.mpr ⟨pd_l0_119, List.forall_mem_cons.mpr ⟨pd_l0_123, List.forall_mem_cons.mpr ⟨pd_l0_127, List.forall_mem_cons.mpr ⟨pd_l0_129, List.forall_mem_cons.mpr ⟨pd_l0_131, List.forall_mem_cons.mpr ⟨pd_l0_136, List.forall_mem_cons.mpr ⟨pd_l0_141, List.forall_mem_cons.mpr ⟨pd_l0_144, List.forall_mem_cons.mpr ⟨pd_l0_147, List.forall_mem_cons.mpr ⟨pd_l0_150, List.forall_mem_cons.mpr ⟨pd_l0_154, List.forall_mem_cons.mpr ⟨pd_l0_157, List.forall_mem_cons.mpr ⟨pd_l0_160, fun _ h => absurd h List.not_mem_nil⟩⟩⟩⟩⟩⟩⟩⟩⟩⟩⟩⟩⟩⟩⟩⟩⟩⟩⟩⟩⟩⟩⟩⟩⟩⟩⟩⟩⟩⟩⟩⟩⟩⟩⟩⟩⟩⟩⟩⟩
theorem pd_l1_3 : pd_LO "PascalDesk$Code" 3 (3, 0, 0, 0) := mm_LO.k3 pd_w105 pd_w92 pd_w93
theorem pd_l1_11 : pd_LO "PascalDesk$Code" 11 (0, 1, 0, 0) := mm_LO.k0 (C := "PascalDesk$Code") (T := pd_T1) (N := 5) rfl (by decide) pd_w106
theorem pd_l1_15 : pd_LO "PascalDesk$Code" 15 (0, 1, 1, 0) := mm_LO.k0 (C := "PascalDesk$Code") (T := pd_T1) (N := 5) rfl (by decide) pd_w107
theorem pd_l1_18 : pd_LO "PascalDesk$Code" 18 (0, 1, 2, 0) := mm_LO.k0 (C := "PascalDesk$Code") (T := pd_T1) (N := 5) rfl (by decide) pd_w108
theorem pd_l1_22 : pd_LO "PascalDesk$Code" 22 (0, 1, 3, 0) := mm_LO.k0 (C := "PascalDesk$Code") (T := pd_T1) (N := 5) rfl (by decide) pd_w109
theorem pd_l1_25 : pd_LO "PascalDesk$Code" 25 (0, 1, 4, 0) := mm_LO.k0 (C := "PascalDesk$Code") (T := pd_T1) (N := 5) rfl (by decide) pd_w112
theorem pd_LO1 : ∀ q ∈ pd_lkl1, pd_LO "PascalDesk$Code" q.1 q.2 := List.forall_mem_cons.mpr ⟨pd_l1_3, List.forall_mem_cons.mpr ⟨pd_l1_11, List.forall_mem_cons.mpr ⟨pd_l1_15, List.forall_mem_cons.mpr ⟨pd_l1_18, List.forall_mem_cons.mpr ⟨pd_l1_22, List.forall_mem_cons.mpr ⟨pd_l1_25, fun _ h => absurd h List.not_mem_nil⟩⟩⟩⟩⟩⟩
theorem pd_l2_1 : pd_LO "PascalDesk$Reader" 1 (3, 0, 0, 0) := mm_LO.k3 pd_w99 pd_w92 pd_w93
theorem pd_l2_9 : pd_LO "PascalDesk$Reader" 9 (0, 2, 0, 0) := mm_LO.k0 (C := "PascalDesk$Reader") (T := pd_T2) (N := 6) rfl (by decide) pd_w129
theorem pd_l2_13 : pd_LO "PascalDesk$Reader" 13 (4, 1, 0, 0) := mm_LO.k4 (C := "PascalDesk$Code") (T := pd_T1) (N := 5) rfl pd_w100 pd_w101 pd_w71 (fun _ => ⟨rfl, pd_w157⟩)
theorem pd_l2_15 : pd_LO "PascalDesk$Reader" 15 (10, 12, 0, 1) := mm_LO.k10 rfl pd_ce12 pd_w102 pd_w103 rfl
theorem pd_l2_16 : pd_LO "PascalDesk$Reader" 16 (0, 2, 2, 0) := mm_LO.k0 (C := "PascalDesk$Reader") (T := pd_T2) (N := 6) rfl (by decide) pd_w132
theorem pd_l2_20 : pd_LO "PascalDesk$Reader" 20 (0, 2, 1, 0) := mm_LO.k0 (C := "PascalDesk$Reader") (T := pd_T2) (N := 6) rfl (by decide) pd_w130
theorem pd_l2_24 : pd_LO "PascalDesk$Reader" 24 (1, 13, 0, 1) := mm_LO.k1 rfl pd_ce13 ⟨pd_w425, pd_w426, _, rfl, pd_w427⟩
theorem pd_l2_27 : pd_LO "PascalDesk$Reader" 27 (0, 2, 3, 0) := mm_LO.k0 (C := "PascalDesk$Reader") (T := pd_T2) (N := 6) rfl (by decide) pd_w134
theorem pd_l2_30 : pd_LO "PascalDesk$Reader" 30 (0, 2, 4, 0) := mm_LO.k0 (C := "PascalDesk$Reader") (T := pd_T2) (N := 6) rfl (by decide) pd_w135
theorem pd_l2_34 : pd_LO "PascalDesk$Reader" 34 (0, 2, 5, 0) := mm_LO.k0 (C := "PascalDesk$Reader") (T := pd_T2) (N := 6) rfl (by decide) pd_w136
theorem pd_l2_37 : pd_LO "PascalDesk$Reader" 37 (1, 23, 1, 2) := mm_LO.k1 rfl pd_ce23 ⟨pd_w429, pd_w431, _, rfl, pd_w1⟩
theorem pd_l2_43 : pd_LO "PascalDesk$Reader" 43 (1, 14, 2, 1) := mm_LO.k1 rfl pd_ce14 ⟨pd_w468, pd_w469, _, rfl, pd_w470⟩
theorem pd_l2_47 : pd_LO "PascalDesk$Reader" 47 (0, 1, 4, 0) := mm_LO.k0 (C := "PascalDesk$Code") (T := pd_T1) (N := 5) rfl (by decide) pd_w114
theorem pd_l2_50 : pd_LO "PascalDesk$Reader" 50 (1, 25, 0, 2) := mm_LO.k1 rfl pd_ce25 ⟨pd_w437, pd_w439, _, rfl, pd_w3⟩
theorem pd_l2_54 : pd_LO "PascalDesk$Reader" 54 (1, 28, 1, 2) := mm_LO.k1 rfl pd_ce28 ⟨pd_w448, pd_w450, _, rfl, pd_w5⟩
theorem pd_l2_58 : pd_LO "PascalDesk$Reader" 58 (1, 24, 1, 2) := mm_LO.k1 rfl pd_ce24 ⟨pd_w433, pd_w435, _, rfl, pd_w2⟩
theorem pd_l2_61 : pd_LO "PascalDesk$Reader" 61 (1, 29, 1, 2) := mm_LO.k1 rfl pd_ce29 ⟨pd_w486, pd_w488, _, rfl, pd_w12⟩
theorem pd_l2_64 : pd_LO "PascalDesk$Reader" 64 (2, 26, 1, 0) := mm_LO.k2 rfl pd_ce26 pd_w441 pd_w442
theorem pd_l2_68 : pd_LO "PascalDesk$Reader" 68 (0, 1, 3, 0) := mm_LO.k0 (C := "PascalDesk$Code") (T := pd_T1) (N := 5) rfl (by decide) pd_w111
theorem pd_l2_71 : pd_LO "PascalDesk$Reader" 71 (1, 27, 2, 2) := mm_LO.k1 rfl pd_ce27 ⟨pd_w444, pd_w446, _, rfl, pd_w4⟩
theorem pd_l2_75 : pd_LO "PascalDesk$Reader" 75 (1, 42, 1, 2) := mm_LO.k1 rfl pd_ce42 ⟨pd_w510, pd_w512, _, rfl, pd_w18⟩
theorem pd_l2_78 : pd_LO "PascalDesk$Reader" 78 (1, 43, 1, 2) := mm_LO.k1 rfl pd_ce43 ⟨pd_w514, pd_w516, _, rfl, pd_w19⟩
theorem pd_l2_81 : pd_LO "PascalDesk$Reader" 81 (1, 45, 1, 2) := mm_LO.k1 rfl pd_ce45 ⟨pd_w526, pd_w528, _, rfl, pd_w21⟩
theorem pd_l2_84 : pd_LO "PascalDesk$Reader" 84 (1, 30, 1, 2) := mm_LO.k1 rfl pd_ce30 ⟨pd_w452, pd_w454, _, rfl, pd_w6⟩
theorem pd_l2_88 : pd_LO "PascalDesk$Reader" 88 (1, 36, 1, 2) := mm_LO.k1 rfl pd_ce36 ⟨pd_w482, pd_w484, _, rfl, pd_w11⟩
theorem pd_l2_91 : pd_LO "PascalDesk$Reader" 91 (1, 46, 1, 2) := mm_LO.k1 rfl pd_ce46 ⟨pd_w534, pd_w536, _, rfl, pd_w22⟩
theorem pd_l2_94 : pd_LO "PascalDesk$Reader" 94 (2, 67, 1, 0) := mm_LO.k2 rfl pd_ce67 pd_w472 pd_w473
theorem pd_l2_99 : pd_LO "PascalDesk$Reader" 99 (1, 39, 1, 2) := mm_LO.k1 rfl pd_ce39 ⟨pd_w498, pd_w500, _, rfl, pd_w15⟩
theorem pd_l2_103 : pd_LO "PascalDesk$Reader" 103 (1, 37, 1, 2) := mm_LO.k1 rfl pd_ce37 ⟨pd_w490, pd_w492, _, rfl, pd_w13⟩
theorem pd_l2_106 : pd_LO "PascalDesk$Reader" 106 (1, 44, 1, 2) := mm_LO.k1 rfl pd_ce44 ⟨pd_w518, pd_w520, _, rfl, pd_w20⟩
theorem pd_l2_109 : pd_LO "PascalDesk$Reader" 109 (1, 15, 1, 1) := mm_LO.k1 rfl pd_ce15 ⟨pd_w522, pd_w523, _, rfl, pd_w524⟩
theorem pd_l2_112 : pd_LO "PascalDesk$Reader" 112 (1, 16, 0, 1) := mm_LO.k1 rfl pd_ce16 ⟨pd_w530, pd_w531, _, rfl, pd_w532⟩
theorem pd_l2_116 : pd_LO "PascalDesk$Reader" 116 (1, 38, 2, 2) := mm_LO.k1 rfl pd_ce38 ⟨pd_w494, pd_w496, _, rfl, pd_w14⟩
theorem pd_l2_120 : pd_LO "PascalDesk$Reader" 120 (1, 31, 1, 2) := mm_LO.k1 rfl pd_ce31 ⟨pd_w456, pd_w458, _, rfl, pd_w7⟩
theorem pd_l2_123 : pd_LO "PascalDesk$Reader" 123 (1, 32, 1, 2) := mm_LO.k1 rfl pd_ce32 ⟨pd_w460, pd_w462, _, rfl, pd_w8⟩
theorem pd_l2_126 : pd_LO "PascalDesk$Reader" 126 (1, 33, 1, 2) := mm_LO.k1 rfl pd_ce33 ⟨pd_w464, pd_w466, _, rfl, pd_w9⟩
theorem pd_l2_129 : pd_LO "PascalDesk$Reader" 129 (2, 34, 1, 0) := mm_LO.k2 rfl pd_ce34 pd_w475 pd_w476
theorem pd_l2_132 : pd_LO "PascalDesk$Reader" 132 (1, 35, 0, 2) := mm_LO.k1 rfl pd_ce35 ⟨pd_w478, pd_w480, _, rfl, pd_w10⟩
theorem pd_l2_135 : pd_LO "PascalDesk$Reader" 135 (1, 40, 1, 2) := mm_LO.k1 rfl pd_ce40 ⟨pd_w502, pd_w504, _, rfl, pd_w16⟩
theorem pd_l2_138 : pd_LO "PascalDesk$Reader" 138 (1, 41, 1, 2) := mm_LO.k1 rfl pd_ce41 ⟨pd_w506, pd_w508, _, rfl, pd_w17⟩
theorem pd_LO2 : ∀ q ∈ pd_lkl2, pd_LO "PascalDesk$Reader" q.1 q.2 := List.forall_mem_cons.mpr ⟨pd_l2_1, List.forall_mem_cons.mpr ⟨pd_l2_9, List.forall_mem_cons.mpr ⟨pd_l2_13, List.forall_mem_cons.mpr ⟨pd_l2_15, List.forall_mem_cons.mpr ⟨pd_l2_16, List.forall_mem_cons.mpr ⟨pd_l2_20, List.forall_mem_cons.mpr ⟨pd_l2_24, List.forall_mem_cons.mpr ⟨pd_l2_27, List.forall_mem_cons.mpr ⟨pd_l2_30, List.forall_mem_cons.mpr ⟨pd_l2_34, List.forall_mem_cons.mpr ⟨pd_l2_37, List.forall_mem_cons.mpr ⟨pd_l2_43, List.forall_mem_cons.mpr ⟨pd_l2_47, List.forall_mem_cons.mpr ⟨pd_l2_50, List.forall_mem_cons.mpr ⟨pd_l2_54, List.forall_mem_cons.mpr ⟨pd_l2_58, List.forall_mem_cons.mpr ⟨pd_l2_61, List.forall_mem_cons.mpr ⟨pd_l2_64, List.forall_mem_cons.mpr ⟨pd_l2_68, List.forall_mem_cons.mpr ⟨pd_l2_71, List.forall_mem_cons.mpr ⟨pd_l2_75, List.forall_mem_cons.mpr ⟨pd_l2_78, List.forall_mem_cons.mpr ⟨pd_l2_81, List.forall_mem_cons.mpr ⟨pd_l2_84, List.forall_mem_cons.mpr ⟨pd_l2_88, List.forall_mem_cons.mpr ⟨pd_l2_91, List.forall_mem_cons.mpr ⟨pd_l2_94, List.forall_mem_cons.mpr ⟨pd_l2_99, List.forall_mem_cons.mpr ⟨pd_l2_103, List.forall_mem_cons.mpr ⟨pd_l2_106, List.forall_mem_cons.mpr ⟨pd_l2_109, List.forall_mem_cons.mpr ⟨pd_l2_112, List.forall_mem_cons.mpr ⟨pd_l2_116, List.forall_mem_cons.mpr ⟨pd_l2_120, List.forall_mem_cons.mpr ⟨pd_l2_123, List.forall_mem_cons.mpr ⟨pd_l2_126, List.forall_mem_cons.mpr ⟨pd_l2_129, List.forall_mem_cons.mpr ⟨pd_l2_132, List.forall_mem_cons.mpr ⟨pd_l2_135, List.forall_mem_cons.mpr ⟨pd_l2_138, fun _ h => absurd h List.not_mem_nil⟩⟩⟩⟩⟩⟩⟩⟩⟩⟩⟩⟩⟩⟩⟩⟩⟩⟩⟩⟩⟩⟩⟩⟩⟩⟩⟩⟩⟩⟩⟩⟩⟩⟩⟩⟩⟩⟩⟩⟩
theorem pd_l3_3 : pd_LO "PascalDesk$Runner" 3 (3, 0, 0, 0) := mm_LO.k3 pd_w155 pd_w92 pd_w93
theorem pd_l3_9 : pd_LO "PascalDesk$Runner" 9 (4, 1, 0, 0) := mm_LO.k4 (C := "PascalDesk$Code") (T := pd_T1) (N := 5) rfl pd_w156 pd_w101 pd_w71 (fun _ => ⟨rfl, pd_w157⟩)
theorem pd_l3_11 : pd_LO "PascalDesk$Runner" 11 (0, 3, 0, 0) := mm_LO.k0 (C := "PascalDesk$Runner") (T := pd_T3) (N := 12) rfl (by decide) pd_w239
theorem pd_l3_17 : pd_LO "PascalDesk$Runner" 17 (10, 12, 0, 1) := mm_LO.k10 rfl pd_ce12 pd_w158 pd_w103 rfl
theorem pd_l3_18 : pd_LO "PascalDesk$Runner" 18 (4, 4, 0, 0) := mm_LO.k4 (C := "PascalDesk$Calculator") (T := pd_T4) (N := 3) rfl pd_w159 pd_w160 pd_w73 (fun h => by cases h)
theorem pd_l3_20 : pd_LO "PascalDesk$Runner" 20 (10, 66, 0, 4) := mm_LO.k10 rfl pd_ce66 pd_w161 pd_w162 rfl
theorem pd_l3_21 : pd_LO "PascalDesk$Runner" 21 (0, 3, 1, 0) := mm_LO.k0 (C := "PascalDesk$Runner") (T := pd_T3) (N := 12) rfl (by decide) pd_w241
theorem pd_l3_25 : pd_LO "PascalDesk$Runner" 25 (4, 5, 0, 0) := mm_LO.k4 (C := "PascalDesk$Tape") (T := pd_T5) (N := 3) rfl pd_w177 pd_w178 pd_w74 (fun h => by cases h)
theorem pd_l3_27 : pd_LO "PascalDesk$Runner" 27 (10, 81, 0, 5) := mm_LO.k10 rfl pd_ce81 pd_w179 pd_w180 rfl
theorem pd_l3_28 : pd_LO "PascalDesk$Runner" 28 (0, 3, 2, 0) := mm_LO.k0 (C := "PascalDesk$Runner") (T := pd_T3) (N := 12) rfl (by decide) pd_w243
theorem pd_l3_32 : pd_LO "PascalDesk$Runner" 32 (0, 3, 3, 0) := mm_LO.k0 (C := "PascalDesk$Runner") (T := pd_T3) (N := 12) rfl (by decide) pd_w245
theorem pd_l3_36 : pd_LO "PascalDesk$Runner" 36 (0, 3, 4, 0) := mm_LO.k0 (C := "PascalDesk$Runner") (T := pd_T3) (N := 12) rfl (by decide) pd_w247
theorem pd_l3_40 : pd_LO "PascalDesk$Runner" 40 (4, 6, 0, 0) := mm_LO.k4 (C := "PascalDesk$Strand") (T := pd_T6) (N := 11) rfl pd_w193 pd_w195 pd_w75 (fun _ => ⟨rfl, pd_w194⟩)
theorem pd_l3_42 : pd_LO "PascalDesk$Runner" 42 (0, 3, 10, 0) := mm_LO.k0 (C := "PascalDesk$Runner") (T := pd_T3) (N := 12) rfl (by decide) pd_w259
theorem pd_l3_46 : pd_LO "PascalDesk$Runner" 46 (10, 85, 0, 6) := mm_LO.k10 rfl pd_ce85 pd_w196 pd_w197 rfl
theorem pd_l3_47 : pd_LO "PascalDesk$Runner" 47 (0, 1, 4, 0) := mm_LO.k0 (C := "PascalDesk$Code") (T := pd_T1) (N := 5) rfl (by decide) pd_w113
theorem pd_l3_51 : pd_LO "PascalDesk$Runner" 51 (1, 51, 3, 3) := mm_LO.k1 rfl pd_ce51 ⟨pd_w589, pd_w591, _, rfl, pd_w23⟩
theorem pd_l3_55 : pd_LO "PascalDesk$Runner" 55 (0, 3, 11, 0) := mm_LO.k0 (C := "PascalDesk$Runner") (T := pd_T3) (N := 12) rfl (by decide) pd_w260
theorem pd_l3_59 : pd_LO "PascalDesk$Runner" 59 (1, 52, 0, 3) := mm_LO.k1 rfl pd_ce52 ⟨pd_w605, pd_w607, _, rfl, pd_w25⟩
theorem pd_l3_63 : pd_LO "PascalDesk$Runner" 63 (1, 53, 1, 3) := mm_LO.k1 rfl pd_ce53 ⟨pd_w616, pd_w618, _, rfl, pd_w26⟩
theorem pd_l3_67 : pd_LO "PascalDesk$Runner" 67 (1, 62, 0, 3) := mm_LO.k1 rfl pd_ce62 ⟨pd_w761, pd_w763, _, rfl, pd_w37⟩
theorem pd_l3_70 : pd_LO "PascalDesk$Runner" 70 (5, 1, 0, 0) := mm_LO.k5 pd_w609
theorem pd_l3_77 : pd_LO "PascalDesk$Runner" 77 (0, 3, 6, 0) := mm_LO.k0 (C := "PascalDesk$Runner") (T := pd_T3) (N := 12) rfl (by decide) pd_w251
theorem pd_l3_80 : pd_LO "PascalDesk$Runner" 80 (0, 3, 5, 0) := mm_LO.k0 (C := "PascalDesk$Runner") (T := pd_T3) (N := 12) rfl (by decide) pd_w249
theorem pd_l3_83 : pd_LO "PascalDesk$Runner" 83 (0, 3, 9, 0) := mm_LO.k0 (C := "PascalDesk$Runner") (T := pd_T3) (N := 12) rfl (by decide) pd_w257
theorem pd_l3_86 : pd_LO "PascalDesk$Runner" 86 (1, 83, 0, 5) := mm_LO.k1 rfl pd_ce83 ⟨pd_w593, pd_w594, _, rfl, pd_w595⟩
theorem pd_l3_89 : pd_LO "PascalDesk$Runner" 89 (0, 6, 0, 0) := mm_LO.k0 (C := "PascalDesk$Strand") (T := pd_T6) (N := 11) rfl (by decide) pd_w201
theorem pd_l3_92 : pd_LO "PascalDesk$Runner" 92 (1, 86, 1, 6) := mm_LO.k1 rfl pd_ce86 ⟨pd_w597, pd_w598, _, rfl, pd_w599⟩
theorem pd_l3_95 : pd_LO "PascalDesk$Runner" 95 (0, 3, 7, 0) := mm_LO.k0 (C := "PascalDesk$Runner") (T := pd_T3) (N := 12) rfl (by decide) pd_w253
theorem pd_l3_98 : pd_LO "PascalDesk$Runner" 98 (0, 3, 8, 0) := mm_LO.k0 (C := "PascalDesk$Runner") (T := pd_T3) (N := 12) rfl (by decide) pd_w255
theorem pd_l3_103 : pd_LO "PascalDesk$Runner" 103 (1, 84, 0, 5) := mm_LO.k1 rfl pd_ce84 ⟨pd_w612, pd_w613, _, rfl, pd_w614⟩
theorem pd_l3_106 : pd_LO "PascalDesk$Runner" 106 (0, 6, 3, 0) := mm_LO.k0 (C := "PascalDesk$Strand") (T := pd_T6) (N := 11) rfl (by decide) pd_w207
theorem pd_l3_109 : pd_LO "PascalDesk$Runner" 109 (1, 68, 0, 4) := mm_LO.k1 rfl pd_ce68 ⟨pd_w620, pd_w621, _, rfl, pd_w622⟩
theorem pd_l3_112 : pd_LO "PascalDesk$Runner" 112 (0, 6, 4, 0) := mm_LO.k0 (C := "PascalDesk$Strand") (T := pd_T6) (N := 11) rfl (by decide) pd_w209
theorem pd_l3_115 : pd_LO "PascalDesk$Runner" 115 (1, 17, 1, 1) := mm_LO.k1 rfl pd_ce17 ⟨pd_w624, pd_w625, _, rfl, pd_w626⟩
theorem pd_l3_119 : pd_LO "PascalDesk$Runner" 119 (1, 18, 1, 1) := mm_LO.k1 rfl pd_ce18 ⟨pd_w628, pd_w629, _, rfl, pd_w630⟩
theorem pd_l3_124 : pd_LO "PascalDesk$Runner" 124 (1, 54, 3, 3) := mm_LO.k1 rfl pd_ce54 ⟨pd_w632, pd_w634, _, rfl, pd_w27⟩
theorem pd_l3_127 : pd_LO "PascalDesk$Runner" 127 (1, 73, 2, 4) := mm_LO.k1 rfl pd_ce73 ⟨pd_w698, pd_w699, _, rfl, pd_w700⟩
theorem pd_l3_131 : pd_LO "PascalDesk$Runner" 131 (1, 69, 0, 4) := mm_LO.k1 rfl pd_ce69 ⟨pd_w636, pd_w637, _, rfl, pd_w638⟩
theorem pd_l3_135 : pd_LO "PascalDesk$Runner" 135 (1, 70, 2, 4) := mm_LO.k1 rfl pd_ce70 ⟨pd_w640, pd_w641, _, rfl, pd_w642⟩
theorem pd_l3_139 : pd_LO "PascalDesk$Runner" 139 (1, 72, 0, 4) := mm_LO.k1 rfl pd_ce72 ⟨pd_w647, pd_w648, _, rfl, pd_w649⟩
theorem pd_l3_142 : pd_LO "PascalDesk$Runner" 142 (1, 55, 1, 3) := mm_LO.k1 rfl pd_ce55 ⟨pd_w653, pd_w655, _, rfl, pd_w28⟩
theorem pd_l3_146 : pd_LO "PascalDesk$Runner" 146 (1, 56, 2, 3) := mm_LO.k1 rfl pd_ce56 ⟨pd_w658, pd_w660, _, rfl, pd_w29⟩
theorem pd_l3_150 : pd_LO "PascalDesk$Runner" 150 (1, 57, 1, 3) := mm_LO.k1 rfl pd_ce57 ⟨pd_w662, pd_w664, _, rfl, pd_w30⟩
theorem pd_l3_153 : pd_LO "PascalDesk$Runner" 153 (1, 59, 2, 3) := mm_LO.k1 rfl pd_ce59 ⟨pd_w670, pd_w672, _, rfl, pd_w32⟩
theorem pd_l3_156 : pd_LO "PascalDesk$Runner" 156 (1, 60, 2, 3) := mm_LO.k1 rfl pd_ce60 ⟨pd_w682, pd_w684, _, rfl, pd_w33⟩
theorem pd_l3_161 : pd_LO "PascalDesk$Runner" 161 (0, 6, 5, 0) := mm_LO.k0 (C := "PascalDesk$Strand") (T := pd_T6) (N := 11) rfl (by decide) pd_w210
theorem pd_l3_164 : pd_LO "PascalDesk$Runner" 164 (0, 6, 6, 0) := mm_LO.k0 (C := "PascalDesk$Strand") (T := pd_T6) (N := 11) rfl (by decide) pd_w211
theorem pd_l3_167 : pd_LO "PascalDesk$Runner" 167 (1, 58, 1, 3) := mm_LO.k1 rfl pd_ce58 ⟨pd_w666, pd_w668, _, rfl, pd_w31⟩
theorem pd_l3_170 : pd_LO "PascalDesk$Runner" 170 (5, 2, 0, 0) := mm_LO.k5 pd_w674
theorem pd_l3_175 : pd_LO "PascalDesk$Runner" 175 (1, 88, 1, 6) := mm_LO.k1 rfl pd_ce88 ⟨pd_w677, pd_w678, _, rfl, pd_w679⟩
theorem pd_l3_183 : pd_LO "PascalDesk$Runner" 183 (0, 6, 2, 0) := mm_LO.k0 (C := "PascalDesk$Strand") (T := pd_T6) (N := 11) rfl (by decide) pd_w205
theorem pd_l3_186 : pd_LO "PascalDesk$Runner" 186 (1, 61, 0, 3) := mm_LO.k1 rfl pd_ce61 ⟨pd_w687, pd_w689, _, rfl, pd_w34⟩
theorem pd_l3_189 : pd_LO "PascalDesk$Runner" 189 (1, 89, 3, 6) := mm_LO.k1 rfl pd_ce89 ⟨pd_w691, pd_w692, _, rfl, pd_w693⟩
theorem pd_l3_193 : pd_LO "PascalDesk$Runner" 193 (2, 135, 2, 0) := mm_LO.k2 rfl pd_ce135 pd_w695 pd_w696
theorem pd_l3_199 : pd_LO "PascalDesk$Runner" 199 (1, 63, 1, 3) := mm_LO.k1 rfl pd_ce63 ⟨pd_w765, pd_w767, _, rfl, pd_w38⟩
theorem pd_l3_202 : pd_LO "PascalDesk$Runner" 202 (1, 64, 1, 3) := mm_LO.k1 rfl pd_ce64 ⟨pd_w769, pd_w771, _, rfl, pd_w39⟩
theorem pd_l3_206 : pd_LO "PascalDesk$Runner" 206 (1, 65, 1, 3) := mm_LO.k1 rfl pd_ce65 ⟨pd_w777, pd_w779, _, rfl, pd_w40⟩
theorem pd_l3_210 : pd_LO "PascalDesk$Runner" 210 (1, 90, 0, 6) := mm_LO.k1 rfl pd_ce90 ⟨pd_w773, pd_w774, _, rfl, pd_w775⟩
theorem pd_l3_214 : pd_LO "PascalDesk$Runner" 214 (0, 6, 1, 0) := mm_LO.k0 (C := "PascalDesk$Strand") (T := pd_T6) (N := 11) rfl (by decide) pd_w203
theorem pd_LO3 : ∀ q ∈ pd_lkl3, pd_LO "PascalDesk$Runner" q.1 q.2 := List.forall_mem_cons.mpr ⟨pd_l3_3, List.forall_mem_cons.mpr ⟨pd_l3_9, List.forall_mem_cons.mpr ⟨pd_l3_11, List.forall_mem_cons.mpr ⟨pd_l3_17, List.forall_mem_cons.mpr ⟨pd_l3_18, List.forall_mem_cons.mpr ⟨pd_l3_20, List.forall_mem_cons.mpr ⟨pd_l3_21, List.forall_mem_cons.mpr ⟨pd_l3_25, List.forall_mem_cons.mpr ⟨pd_l3_27, List.forall_mem_cons.mpr ⟨pd_l3_28, List.forall_mem_cons.mpr ⟨pd_l3_32, List.forall_mem_cons.mpr ⟨pd_l3_36, List.forall_mem_cons.mpr ⟨pd_l3_40, List.forall_mem_cons.mpr ⟨pd_l3_42, List.forall_mem_cons.mpr ⟨pd_l3_46, List.forall_mem_cons.mpr ⟨pd_l3_47, List.forall_mem_cons.mpr ⟨pd_l3_51, List.forall_mem_cons.mpr ⟨pd_l3_55, List.forall_mem_cons.mpr ⟨pd_l3_59, List.forall_mem_cons.mpr ⟨pd_l3_63, List.forall_mem_cons.mpr ⟨pd_l3_67, List.forall_mem_cons.mpr ⟨pd_l3_70, List.forall_mem_cons.mpr ⟨pd_l3_77, List.forall_mem_cons.mpr ⟨pd_l3_80, List.forall_mem_cons.mpr ⟨pd_l3_83, List.forall_mem_cons.mpr ⟨pd_l3_86, List.forall_mem_cons.mpr ⟨pd_l3_89, List.forall_mem_cons.mpr ⟨pd_l3_92, List.forall_mem_cons.mpr ⟨pd_l3_95, List.forall_mem_cons.mpr ⟨pd_l3_98, List.forall_mem_cons.mpr ⟨pd_l3_103, List.forall_mem_cons.mpr ⟨pd_l3_106, List.forall_mem_cons.mpr ⟨pd_l3_109, List.forall_mem_cons.mpr ⟨pd_l3_112, List.forall_mem_cons.mpr ⟨pd_l3_115, List.forall_mem_cons.mpr ⟨pd_l3_119, List.forall_mem_cons.mpr ⟨pd_l3_124, List.forall_mem_cons.mpr ⟨pd_l3_127, List.forall_mem_cons.mpr ⟨pd_l3_131, List.forall_mem_cons.mpr ⟨pd_l3_135, List.forall_mem_cons.mpr ⟨pd_l3_139, List.forall_mem_cons.mpr ⟨pd_l3_142, List.forall_mem_cons.mpr ⟨pd_l3_146, List.forall_mem_cons.mpr ⟨pd_l3_150, List.forall_mem_cons.mpr ⟨pd_l3_153, List.forall_mem_cons.mpr ⟨pd_l3_156, List.forall_mem_cons.mpr ⟨pd_l3_161, List.forall_mem_cons.mpr ⟨pd_l3_164, List.forall_mem_cons.mpr ⟨pd_l3_167, List.forall_mem_cons.mpr ⟨pd_l3_170, List.forall_mem_cons.mpr ⟨pd_l3_175, List.forall_mem_cons.mpr ⟨pd_l3_183, List.forall_mem_cons.mpr ⟨pd_l3_186, List.forall_mem_cons.mpr ⟨pd_l3_189, List.forall_mem_cons.mpr ⟨pd_l3_193, List.forall_mem_cons.mpr ⟨pd_l3_199, List.forall_mem_cons.mpr ⟨pd_l3_202, List.forall_mem_cons.mpr ⟨pd_l3_206, List.forall_mem_cons.mpr ⟨pd_l3_210, List.forall_mem_cons.mpr ⟨pd_l3_214, fun _ h => absurd h List.not_mem_nil⟩⟩⟩⟩⟩⟩⟩⟩⟩⟩⟩⟩⟩⟩⟩⟩⟩⟩⟩⟩⟩⟩⟩⟩⟩⟩⟩⟩⟩⟩⟩⟩⟩⟩⟩⟩⟩⟩⟩⟩⟩⟩⟩⟩⟩⟩⟩⟩⟩⟩⟩⟩⟩⟩⟩⟩⟩⟩⟩⟩
theorem pd_l4_3 : pd_LO "PascalDesk$Calculator" 3 (3, 0, 0, 0) := mm_LO.k3 pd_w164 pd_w92 pd_w93
theorem pd_l4_9 : pd_LO "PascalDesk$Calculator" 9 (0, 4, 0, 0) := mm_LO.k0 (C := "PascalDesk$Calculator") (T := pd_T4) (N := 3) rfl (by decide) pd_w165
theorem pd_l4_15 : pd_LO "PascalDesk$Calculator" 15 (0, 4, 1, 0) := mm_LO.k0 (C := "PascalDesk$Calculator") (T := pd_T4) (N := 3) rfl (by decide) pd_w167
theorem pd_l4_18 : pd_LO "PascalDesk$Calculator" 18 (0, 4, 2, 0) := mm_LO.k0 (C := "PascalDesk$Calculator") (T := pd_T4) (N := 3) rfl (by decide) pd_w168
theorem pd_l4_22 : pd_LO "PascalDesk$Calculator" 22 (2, 71, 1, 0) := mm_LO.k2 rfl pd_ce71 pd_w644 pd_w645
theorem pd_l4_26 : pd_LO "PascalDesk$Calculator" 26 (1, 69, 0, 4) := mm_LO.k1 rfl pd_ce69 ⟨pd_w651, pd_w637, _, rfl, pd_w638⟩
theorem pd_l4_30 : pd_LO "PascalDesk$Calculator" 30 (1, 70, 2, 4) := mm_LO.k1 rfl pd_ce70 ⟨pd_w652, pd_w641, _, rfl, pd_w642⟩
theorem pd_l4_34 : pd_LO "PascalDesk$Calculator" 34 (1, 74, 1, 4) := mm_LO.k1 rfl pd_ce74 ⟨pd_w702, pd_w704, _, rfl, pd_w35⟩
theorem pd_l4_38 : pd_LO "PascalDesk$Calculator" 38 (1, 75, 1, 4) := mm_LO.k1 rfl pd_ce75 ⟨pd_w706, pd_w708, _, rfl, pd_w36⟩
theorem pd_l4_42 : pd_LO "PascalDesk$Calculator" 42 (2, 76, 1, 0) := mm_LO.k2 rfl pd_ce76 pd_w710 pd_w711
theorem pd_l4_46 : pd_LO "PascalDesk$Calculator" 46 (2, 77, 3, 0) := mm_LO.k2 rfl pd_ce77 pd_w729 pd_w730
theorem pd_l4_50 : pd_LO "PascalDesk$Calculator" 50 (5, 4, 0, 0) := mm_LO.k5 pd_w713
theorem pd_l4_57 : pd_LO "PascalDesk$Calculator" 57 (2, 78, 1, 0) := mm_LO.k2 rfl pd_ce78 pd_w732 pd_w733
theorem pd_l4_61 : pd_LO "PascalDesk$Calculator" 61 (2, 79, 2, 0) := mm_LO.k2 rfl pd_ce79 pd_w753 pd_w754
theorem pd_l4_65 : pd_LO "PascalDesk$Calculator" 65 (2, 80, 2, 0) := mm_LO.k2 rfl pd_ce80 pd_w757 pd_w758
theorem pd_l4_69 : pd_LO "PascalDesk$Calculator" 69 (5, 3, 0, 0) := mm_LO.k5 pd_w737
theorem pd_l4_76 : pd_LO "PascalDesk$Calculator" 76 (8, 4741671816366391296, 0, 0) := mm_LO.k8 pd_w735
theorem pd_l4_78 : pd_LO "PascalDesk$Calculator" 78 (8, 13965043853221167104, 0, 0) := mm_LO.k8 pd_w736
theorem pd_LO4 : ∀ q ∈ pd_lkl4, pd_LO "PascalDesk$Calculator" q.1 q.2 := List.forall_mem_cons.mpr ⟨pd_l4_3, List.forall_mem_cons.mpr ⟨pd_l4_9, List.forall_mem_cons.mpr ⟨pd_l4_15, List.forall_mem_cons.mpr ⟨pd_l4_18, List.forall_mem_cons.mpr ⟨pd_l4_22, List.forall_mem_cons.mpr ⟨pd_l4_26, List.forall_mem_cons.mpr ⟨pd_l4_30, List.forall_mem_cons.mpr ⟨pd_l4_34, List.forall_mem_cons.mpr ⟨pd_l4_38, List.forall_mem_cons.mpr ⟨pd_l4_42, List.forall_mem_cons.mpr ⟨pd_l4_46, List.forall_mem_cons.mpr ⟨pd_l4_50, List.forall_mem_cons.mpr ⟨pd_l4_57, List.forall_mem_cons.mpr ⟨pd_l4_61, List.forall_mem_cons.mpr ⟨pd_l4_65, List.forall_mem_cons.mpr ⟨pd_l4_69, List.forall_mem_cons.mpr ⟨pd_l4_76, List.forall_mem_cons.mpr ⟨pd_l4_78, fun _ h => absurd h List.not_mem_nil⟩⟩⟩⟩⟩⟩⟩⟩⟩⟩⟩⟩⟩⟩⟩⟩⟩⟩
theorem pd_l5_3 : pd_LO "PascalDesk$Tape" 3 (3, 0, 0, 0) := mm_LO.k3 pd_w182 pd_w92 pd_w93
theorem pd_l5_9 : pd_LO "PascalDesk$Tape" 9 (0, 5, 0, 0) := mm_LO.k0 (C := "PascalDesk$Tape") (T := pd_T5) (N := 3) rfl (by decide) pd_w183
theorem pd_l5_15 : pd_LO "PascalDesk$Tape" 15 (0, 5, 1, 0) := mm_LO.k0 (C := "PascalDesk$Tape") (T := pd_T5) (N := 3) rfl (by decide) pd_w184
theorem pd_l5_19 : pd_LO "PascalDesk$Tape" 19 (0, 5, 2, 0) := mm_LO.k0 (C := "PascalDesk$Tape") (T := pd_T5) (N := 3) rfl (by decide) pd_w185
theorem pd_LO5 : ∀ q ∈ pd_lkl5, pd_LO "PascalDesk$Tape" q.1 q.2 := List.forall_mem_cons.mpr ⟨pd_l5_3, List.forall_mem_cons.mpr ⟨pd_l5_9, List.forall_mem_cons.mpr ⟨pd_l5_15, List.forall_mem_cons.mpr ⟨pd_l5_19, fun _ h => absurd h List.not_mem_nil⟩⟩⟩⟩
theorem pd_l6_1 : pd_LO "PascalDesk$Strand" 1 (3, 0, 0, 0) := mm_LO.k3 pd_w199 pd_w92 pd_w93
theorem pd_l6_9 : pd_LO "PascalDesk$Strand" 9 (0, 6, 9, 0) := mm_LO.k0 (C := "PascalDesk$Strand") (T := pd_T6) (N := 11) rfl (by decide) pd_w214
theorem pd_l6_13 : pd_LO "PascalDesk$Strand" 13 (0, 6, 10, 0) := mm_LO.k0 (C := "PascalDesk$Strand") (T := pd_T6) (N := 11) rfl (by decide) pd_w215
theorem pd_l6_16 : pd_LO "PascalDesk$Strand" 16 (1, 87, 4, 6) := mm_LO.k1 rfl pd_ce87 ⟨pd_w601, pd_w603, _, rfl, pd_w24⟩
theorem pd_l6_20 : pd_LO "PascalDesk$Strand" 20 (0, 6, 3, 0) := mm_LO.k0 (C := "PascalDesk$Strand") (T := pd_T6) (N := 11) rfl (by decide) pd_w206
theorem pd_l6_24 : pd_LO "PascalDesk$Strand" 24 (0, 6, 7, 0) := mm_LO.k0 (C := "PascalDesk$Strand") (T := pd_T6) (N := 11) rfl (by decide) pd_w212
theorem pd_l6_27 : pd_LO "PascalDesk$Strand" 27 (0, 6, 0, 0) := mm_LO.k0 (C := "PascalDesk$Strand") (T := pd_T6) (N := 11) rfl (by decide) pd_w200
theorem pd_l6_30 : pd_LO "PascalDesk$Strand" 30 (0, 6, 1, 0) := mm_LO.k0 (C := "PascalDesk$Strand") (T := pd_T6) (N := 11) rfl (by decide) pd_w202
theorem pd_l6_33 : pd_LO "PascalDesk$Strand" 33 (0, 6, 2, 0) := mm_LO.k0 (C := "PascalDesk$Strand") (T := pd_T6) (N := 11) rfl (by decide) pd_w204
theorem pd_l6_36 : pd_LO "PascalDesk$Strand" 36 (0, 6, 4, 0) := mm_LO.k0 (C := "PascalDesk$Strand") (T := pd_T6) (N := 11) rfl (by decide) pd_w208
theorem pd_l6_39 : pd_LO "PascalDesk$Strand" 39 (0, 6, 8, 0) := mm_LO.k0 (C := "PascalDesk$Strand") (T := pd_T6) (N := 11) rfl (by decide) pd_w213
theorem pd_LO6 : ∀ q ∈ pd_lkl6, pd_LO "PascalDesk$Strand" q.1 q.2 := List.forall_mem_cons.mpr ⟨pd_l6_1, List.forall_mem_cons.mpr ⟨pd_l6_9, List.forall_mem_cons.mpr ⟨pd_l6_13, List.forall_mem_cons.mpr ⟨pd_l6_16, List.forall_mem_cons.mpr ⟨pd_l6_20, List.forall_mem_cons.mpr ⟨pd_l6_24, List.forall_mem_cons.mpr ⟨pd_l6_27, List.forall_mem_cons.mpr ⟨pd_l6_30, List.forall_mem_cons.mpr ⟨pd_l6_33, List.forall_mem_cons.mpr ⟨pd_l6_36, List.forall_mem_cons.mpr ⟨pd_l6_39, fun _ h => absurd h List.not_mem_nil⟩⟩⟩⟩⟩⟩⟩⟩⟩⟩⟩
theorem pd_l7_1 : pd_LO "PascalDeskModel" 1 (3, 0, 0, 0) := mm_LO.k3 pd_w815 pd_w92 pd_w93
theorem pd_l7_7 : pd_LO "PascalDeskModel" 7 (0, 7, 0, 0) := mm_LO.k0 (C := "PascalDeskModel") (T := pd_T7) (N := 40) rfl (by decide) pd_w816
theorem pd_l7_13 : pd_LO "PascalDeskModel" 13 (0, 7, 1, 0) := mm_LO.k0 (C := "PascalDeskModel") (T := pd_T7) (N := 40) rfl (by decide) pd_w817
theorem pd_l7_16 : pd_LO "PascalDeskModel" 16 (0, 7, 2, 0) := mm_LO.k0 (C := "PascalDeskModel") (T := pd_T7) (N := 40) rfl (by decide) pd_w818
theorem pd_l7_19 : pd_LO "PascalDeskModel" 19 (0, 7, 3, 0) := mm_LO.k0 (C := "PascalDeskModel") (T := pd_T7) (N := 40) rfl (by decide) pd_w819
theorem pd_l7_22 : pd_LO "PascalDeskModel" 22 (0, 7, 4, 0) := mm_LO.k0 (C := "PascalDeskModel") (T := pd_T7) (N := 40) rfl (by decide) pd_w820
theorem pd_l7_26 : pd_LO "PascalDeskModel" 26 (0, 7, 5, 0) := mm_LO.k0 (C := "PascalDeskModel") (T := pd_T7) (N := 40) rfl (by decide) pd_w821
theorem pd_l7_29 : pd_LO "PascalDeskModel" 29 (0, 7, 6, 0) := mm_LO.k0 (C := "PascalDeskModel") (T := pd_T7) (N := 40) rfl (by decide) pd_w822
theorem pd_l7_32 : pd_LO "PascalDeskModel" 32 (0, 7, 7, 0) := mm_LO.k0 (C := "PascalDeskModel") (T := pd_T7) (N := 40) rfl (by decide) pd_w823
theorem pd_l7_35 : pd_LO "PascalDeskModel" 35 (0, 7, 9, 0) := mm_LO.k0 (C := "PascalDeskModel") (T := pd_T7) (N := 40) rfl (by decide) pd_w825
theorem pd_l7_39 : pd_LO "PascalDeskModel" 39 (0, 7, 17, 0) := mm_LO.k0 (C := "PascalDeskModel") (T := pd_T7) (N := 40) rfl (by decide) pd_w833
theorem pd_l7_42 : pd_LO "PascalDeskModel" 42 (0, 7, 18, 0) := mm_LO.k0 (C := "PascalDeskModel") (T := pd_T7) (N := 40) rfl (by decide) pd_w834
theorem pd_l7_45 : pd_LO "PascalDeskModel" 45 (0, 7, 20, 0) := mm_LO.k0 (C := "PascalDeskModel") (T := pd_T7) (N := 40) rfl (by decide) pd_w836
theorem pd_l7_49 : pd_LO "PascalDeskModel" 49 (0, 7, 21, 0) := mm_LO.k0 (C := "PascalDeskModel") (T := pd_T7) (N := 40) rfl (by decide) pd_w837
theorem pd_l7_52 : pd_LO "PascalDeskModel" 52 (0, 7, 22, 0) := mm_LO.k0 (C := "PascalDeskModel") (T := pd_T7) (N := 40) rfl (by decide) pd_w838
theorem pd_l7_55 : pd_LO "PascalDeskModel" 55 (0, 7, 23, 0) := mm_LO.k0 (C := "PascalDeskModel") (T := pd_T7) (N := 40) rfl (by decide) pd_w839
theorem pd_l7_58 : pd_LO "PascalDeskModel" 58 (0, 7, 24, 0) := mm_LO.k0 (C := "PascalDeskModel") (T := pd_T7) (N := 40) rfl (by decide) pd_w840
theorem pd_l7_61 : pd_LO "PascalDeskModel" 61 (0, 7, 25, 0) := mm_LO.k0 (C := "PascalDeskModel") (T := pd_T7) (N := 40) rfl (by decide) pd_w841
theorem pd_l7_64 : pd_LO "PascalDeskModel" 64 (0, 7, 26, 0) := mm_LO.k0 (C := "PascalDeskModel") (T := pd_T7) (N := 40) rfl (by decide) pd_w842
theorem pd_l7_67 : pd_LO "PascalDeskModel" 67 (0, 7, 27, 0) := mm_LO.k0 (C := "PascalDeskModel") (T := pd_T7) (N := 40) rfl (by decide) pd_w843
theorem pd_l7_70 : pd_LO "PascalDeskModel" 70 (0, 7, 28, 0) := mm_LO.k0 (C := "PascalDeskModel") (T := pd_T7) (N := 40) rfl (by decide) pd_w844
theorem pd_l7_73 : pd_LO "PascalDeskModel" 73 (0, 7, 29, 0) := mm_LO.k0 (C := "PascalDeskModel") (T := pd_T7) (N := 40) rfl (by decide) pd_w845
theorem pd_l7_76 : pd_LO "PascalDeskModel" 76 (0, 7, 30, 0) := mm_LO.k0 (C := "PascalDeskModel") (T := pd_T7) (N := 40) rfl (by decide) pd_w846
theorem pd_l7_79 : pd_LO "PascalDeskModel" 79 (0, 7, 31, 0) := mm_LO.k0 (C := "PascalDeskModel") (T := pd_T7) (N := 40) rfl (by decide) pd_w847
theorem pd_l7_82 : pd_LO "PascalDeskModel" 82 (0, 7, 32, 0) := mm_LO.k0 (C := "PascalDeskModel") (T := pd_T7) (N := 40) rfl (by decide) pd_w848
theorem pd_l7_85 : pd_LO "PascalDeskModel" 85 (0, 7, 39, 0) := mm_LO.k0 (C := "PascalDeskModel") (T := pd_T7) (N := 40) rfl (by decide) pd_w855
theorem pd_l7_88 : pd_LO "PascalDeskModel" 88 (0, 7, 8, 0) := mm_LO.k0 (C := "PascalDeskModel") (T := pd_T7) (N := 40) rfl (by decide) pd_w824
theorem pd_l7_91 : pd_LO "PascalDeskModel" 91 (0, 7, 12, 0) := mm_LO.k0 (C := "PascalDeskModel") (T := pd_T7) (N := 40) rfl (by decide) pd_w828
theorem pd_l7_94 : pd_LO "PascalDeskModel" 94 (0, 7, 10, 0) := mm_LO.k0 (C := "PascalDeskModel") (T := pd_T7) (N := 40) rfl (by decide) pd_w826
theorem pd_l7_97 : pd_LO "PascalDeskModel" 97 (0, 7, 11, 0) := mm_LO.k0 (C := "PascalDeskModel") (T := pd_T7) (N := 40) rfl (by decide) pd_w827
theorem pd_l7_100 : pd_LO "PascalDeskModel" 100 (1, 99, 0, 7) := mm_LO.k1 rfl pd_ce99 ⟨pd_w966, pd_w968, _, rfl, pd_w45⟩
theorem pd_l7_104 : pd_LO "PascalDeskModel" 104 (1, 106, 1, 7) := mm_LO.k1 rfl pd_ce106 ⟨pd_w994, pd_w996, _, rfl, pd_w52⟩
theorem pd_l7_108 : pd_LO "PascalDeskModel" 108 (0, 7, 16, 0) := mm_LO.k0 (C := "PascalDeskModel") (T := pd_T7) (N := 40) rfl (by decide) pd_w832
theorem pd_l7_112 : pd_LO "PascalDeskModel" 112 (1, 96, 2, 7) := mm_LO.k1 rfl pd_ce96 ⟨pd_w954, pd_w956, _, rfl, pd_w42⟩
theorem pd_l7_116 : pd_LO "PascalDeskModel" 116 (0, 7, 15, 0) := mm_LO.k0 (C := "PascalDeskModel") (T := pd_T7) (N := 40) rfl (by decide) pd_w831
theorem pd_l7_119 : pd_LO "PascalDeskModel" 119 (1, 103, 1, 7) := mm_LO.k1 rfl pd_ce103 ⟨pd_w982, pd_w984, _, rfl, pd_w49⟩
theorem pd_l7_123 : pd_LO "PascalDeskModel" 123 (0, 7, 14, 0) := mm_LO.k0 (C := "PascalDeskModel") (T := pd_T7) (N := 40) rfl (by decide) pd_w830
theorem pd_l7_126 : pd_LO "PascalDeskModel" 126 (1, 101, 1, 7) := mm_LO.k1 rfl pd_ce101 ⟨pd_w974, pd_w976, _, rfl, pd_w47⟩
theorem pd_l7_130 : pd_LO "PascalDeskModel" 130 (1, 102, 1, 7) := mm_LO.k1 rfl pd_ce102 ⟨pd_w978, pd_w980, _, rfl, pd_w48⟩
theorem pd_l7_133 : pd_LO "PascalDeskModel" 133 (0, 7, 13, 0) := mm_LO.k0 (C := "PascalDeskModel") (T := pd_T7) (N := 40) rfl (by decide) pd_w829
theorem pd_l7_136 : pd_LO "PascalDeskModel" 136 (1, 97, 1, 7) := mm_LO.k1 rfl pd_ce97 ⟨pd_w958, pd_w960, _, rfl, pd_w43⟩
theorem pd_l7_140 : pd_LO "PascalDeskModel" 140 (1, 98, 0, 7) := mm_LO.k1 rfl pd_ce98 ⟨pd_w962, pd_w964, _, rfl, pd_w44⟩
theorem pd_l7_143 : pd_LO "PascalDeskModel" 143 (1, 105, 1, 7) := mm_LO.k1 rfl pd_ce105 ⟨pd_w990, pd_w992, _, rfl, pd_w51⟩
theorem pd_l7_146 : pd_LO "PascalDeskModel" 146 (1, 108, 1, 7) := mm_LO.k1 rfl pd_ce108 ⟨pd_w1002, pd_w1004, _, rfl, pd_w54⟩
theorem pd_l7_149 : pd_LO "PascalDeskModel" 149 (1, 110, 0, 7) := mm_LO.k1 rfl pd_ce110 ⟨pd_w1010, pd_w1012, _, rfl, pd_w56⟩
theorem pd_l7_152 : pd_LO "PascalDeskModel" 152 (1, 111, 1, 7) := mm_LO.k1 rfl pd_ce111 ⟨pd_w1014, pd_w1016, _, rfl, pd_w57⟩
theorem pd_l7_155 : pd_LO "PascalDeskModel" 155 (1, 100, 1, 7) := mm_LO.k1 rfl pd_ce100 ⟨pd_w970, pd_w972, _, rfl, pd_w46⟩
theorem pd_l7_158 : pd_LO "PascalDeskModel" 158 (1, 104, 1, 7) := mm_LO.k1 rfl pd_ce104 ⟨pd_w986, pd_w988, _, rfl, pd_w50⟩
theorem pd_l7_161 : pd_LO "PascalDeskModel" 161 (1, 107, 1, 7) := mm_LO.k1 rfl pd_ce107 ⟨pd_w998, pd_w1000, _, rfl, pd_w53⟩
theorem pd_l7_164 : pd_LO "PascalDeskModel" 164 (1, 109, 1, 7) := mm_LO.k1 rfl pd_ce109 ⟨pd_w1006, pd_w1008, _, rfl, pd_w55⟩
theorem pd_l7_167 : pd_LO "PascalDeskModel" 167 (1, 112, 2, 7) := mm_LO.k1 rfl pd_ce112 ⟨pd_w1018, pd_w1020, _, rfl, pd_w58⟩
theorem pd_l7_171 : pd_LO "PascalDeskModel" 171 (1, 95, 0, 7) := mm_LO.k1 rfl pd_ce95 ⟨pd_w950, pd_w952, _, rfl, pd_w41⟩
theorem pd_l7_174 : pd_LO "PascalDeskModel" 174 (8, 4741671816366391296, 0, 0) := mm_LO.k8 pd_w1055
theorem pd_l7_176 : pd_LO "PascalDeskModel" 176 (8, 13965043853221167104, 0, 0) := mm_LO.k8 pd_w1056
theorem pd_l7_178 : pd_LO "PascalDeskModel" 178 (8, 4613937818241073152, 0, 0) := mm_LO.k8 pd_w1050
theorem pd_l7_180 : pd_LO "PascalDeskModel" 180 (1, 120, 4, 7) := mm_LO.k1 rfl pd_ce120 ⟨pd_w1051, pd_w1053, _, rfl, pd_w64⟩
theorem pd_l7_184 : pd_LO "PascalDeskModel" 184 (0, 7, 36, 0) := mm_LO.k0 (C := "PascalDeskModel") (T := pd_T7) (N := 40) rfl (by decide) pd_w852
theorem pd_l7_187 : pd_LO "PascalDeskModel" 187 (1, 116, 0, 7) := mm_LO.k1 rfl pd_ce116 ⟨pd_w1034, pd_w1036, _, rfl, pd_w60⟩
theorem pd_l7_190 : pd_LO "PascalDeskModel" 190 (0, 7, 37, 0) := mm_LO.k0 (C := "PascalDeskModel") (T := pd_T7) (N := 40) rfl (by decide) pd_w853
theorem pd_l7_193 : pd_LO "PascalDeskModel" 193 (0, 7, 33, 0) := mm_LO.k0 (C := "PascalDeskModel") (T := pd_T7) (N := 40) rfl (by decide) pd_w849
theorem pd_l7_196 : pd_LO "PascalDeskModel" 196 (1, 123, 1, 7) := mm_LO.k1 rfl pd_ce123 ⟨pd_w1065, pd_w1067, _, rfl, pd_w67⟩
theorem pd_l7_199 : pd_LO "PascalDeskModel" 199 (1, 119, 1, 7) := mm_LO.k1 rfl pd_ce119 ⟨pd_w1046, pd_w1048, _, rfl, pd_w63⟩
theorem pd_l7_202 : pd_LO "PascalDeskModel" 202 (1, 121, 3, 7) := mm_LO.k1 rfl pd_ce121 ⟨pd_w1057, pd_w1059, _, rfl, pd_w65⟩
theorem pd_l7_206 : pd_LO "PascalDeskModel" 206 (0, 7, 35, 0) := mm_LO.k0 (C := "PascalDeskModel") (T := pd_T7) (N := 40) rfl (by decide) pd_w851
theorem pd_l7_209 : pd_LO "PascalDeskModel" 209 (1, 122, 1, 7) := mm_LO.k1 rfl pd_ce122 ⟨pd_w1061, pd_w1063, _, rfl, pd_w66⟩
theorem pd_l7_212 : pd_LO "PascalDeskModel" 212 (1, 115, 2, 7) := mm_LO.k1 rfl pd_ce115 ⟨pd_w1030, pd_w1032, _, rfl, pd_w59⟩
theorem pd_l7_215 : pd_LO "PascalDeskModel" 215 (0, 7, 38, 0) := mm_LO.k0 (C := "PascalDeskModel") (T := pd_T7) (N := 40) rfl (by decide) pd_w854
theorem pd_l7_218 : pd_LO "PascalDeskModel" 218 (0, 7, 34, 0) := mm_LO.k0 (C := "PascalDeskModel") (T := pd_T7) (N := 40) rfl (by decide) pd_w850
theorem pd_l7_221 : pd_LO "PascalDeskModel" 221 (0, 7, 19, 0) := mm_LO.k0 (C := "PascalDeskModel") (T := pd_T7) (N := 40) rfl (by decide) pd_w835
theorem pd_l7_224 : pd_LO "PascalDeskModel" 224 (1, 117, 1, 7) := mm_LO.k1 rfl pd_ce117 ⟨pd_w1038, pd_w1040, _, rfl, pd_w61⟩
theorem pd_l7_227 : pd_LO "PascalDeskModel" 227 (1, 118, 1, 7) := mm_LO.k1 rfl pd_ce118 ⟨pd_w1042, pd_w1044, _, rfl, pd_w62⟩
theorem pd_l7_230 : pd_LO "PascalDeskModel" 230 (8, 13875379345695965184, 0, 0) := mm_LO.k8 pd_w1077
theorem pd_l7_232 : pd_LO "PascalDeskModel" 232 (8, 4652007308841189376, 0, 0) := mm_LO.k8 pd_w1078
theorem pd_LO7 : ∀ q ∈ pd_lkl7, pd_LO "PascalDeskModel" q.1 q.2 := List.forall_mem_cons.mpr ⟨pd_l7_1, List.forall_mem_cons.mpr ⟨pd_l7_7, List.forall_mem_cons.mpr ⟨pd_l7_13, List.forall_mem_cons.mpr ⟨pd_l7_16, List.forall_mem_cons.mpr ⟨pd_l7_19, List.forall_mem_cons.mpr ⟨pd_l7_22, List.forall_mem_cons.mpr ⟨pd_l7_26, List.forall_mem_cons.mpr ⟨pd_l7_29, List.forall_mem_cons.mpr ⟨pd_l7_32, List.forall_mem_cons.mpr ⟨pd_l7_35, List.forall_mem_cons.mpr ⟨pd_l7_39, List.forall_mem_cons.mpr ⟨pd_l7_42, List.forall_mem_cons.mpr ⟨pd_l7_45, List.forall_mem_cons.mpr ⟨pd_l7_49, List.forall_mem_cons.mpr ⟨pd_l7_52, List.forall_mem_cons.mpr ⟨pd_l7_55, List.forall_mem_cons.mpr ⟨pd_l7_58, List.forall_mem_cons.mpr ⟨pd_l7_61, List.forall_mem_cons.mpr ⟨pd_l7_64, List.forall_mem_cons.mpr ⟨pd_l7_67, List.forall_mem_cons.mpr ⟨pd_l7_70, List.forall_mem_cons.mpr ⟨pd_l7_73, List.forall_mem_cons.mpr ⟨pd_l7_76, List.forall_mem_cons.mpr ⟨pd_l7_79, List.forall_mem_cons.mpr ⟨pd_l7_82, List.forall_mem_cons.mpr ⟨pd_l7_85, List.forall_mem_cons.mpr ⟨pd_l7_88, List.forall_mem_cons.mpr ⟨pd_l7_91, List.forall_mem_cons.mpr ⟨pd_l7_94, List.forall_mem_cons.mpr ⟨pd_l7_97, List.forall_mem_cons.mpr ⟨pd_l7_100, List.forall_mem_cons.mpr ⟨pd_l7_104, List.forall_mem_cons.mpr ⟨pd_l7_108, List.forall_mem_cons.mpr ⟨pd_l7_112, List.forall_mem_cons.mpr ⟨pd_l7_116, List.forall_mem_cons.mpr ⟨pd_l7_119, List.forall_mem_cons.mpr ⟨pd_l7_123, List.forall_mem_cons.mpr ⟨pd_l7_126, List.forall_mem_cons.mpr ⟨pd_l7_130, List.forall_mem_cons.mpr ⟨pd_l7_133, List.forall_mem_cons.mpr ⟨pd_l7_136, List.forall_mem_cons.mpr ⟨pd_l7_140, List.forall_mem_cons.mpr ⟨pd_l7_143, List.forall_mem_cons.mpr ⟨pd_l7_146, List.forall_mem_cons.mpr ⟨pd_l7_149, List.forall_mem_cons.mpr ⟨pd_l7_152, List.forall_mem_cons.mpr ⟨pd_l7_155, List.forall_mem_cons.mpr ⟨pd_l7_158, List.forall_mem_cons.mpr ⟨pd_l7_161, List.forall_mem_cons.mpr ⟨pd_l7_164, List.forall_mem_cons.mpr ⟨pd_l7_167, List.forall_mem_cons.mpr ⟨pd_l7_171, List.forall_mem_cons.mpr ⟨pd_l7_174, List.forall_mem_cons.mpr ⟨pd_l7_176, List.forall_mem_cons.mpr ⟨pd_l7_178, List.forall_mem_cons.mpr ⟨pd_l7_180, List.forall_mem_cons.mpr ⟨pd_l7_184, List.forall_mem_cons.mpr ⟨pd_l7_187, List.forall_mem_cons.mpr ⟨pd_l7_190, List.forall_mem_cons.mpr ⟨pd_l7_193, List.forall_mem_cons.mpr ⟨pd_l7_196, List.forall_mem_cons.mpr ⟨pd_l7_199, List.forall_mem_cons.mpr ⟨pd_l7_202, List.forall_mem_cons.mpr ⟨pd_l7_206, List.forall_mem_cons.mpr ⟨pd_l7_209, List.forall_mem_cons.mpr ⟨pd_l7_212, List.forall_mem_cons.mpr ⟨pd_l7_215, List.forall_mem_cons.mpr ⟨pd_l7_218, List.forall_mem_cons.mpr ⟨pd_l7_221, List.forall_mem_cons.mpr ⟨pd_l7_224, List.forall_mem_cons.mpr ⟨pd_l7_227, List.forall_mem_cons.mpr ⟨pd_l7_230, List.forall_mem_cons.mpr ⟨pd_l7_232, fun _ h => absurd h List.not_mem_nil⟩⟩⟩⟩⟩⟩⟩⟩⟩⟩⟩⟩⟩⟩⟩⟩⟩⟩⟩⟩⟩⟩⟩⟩⟩⟩⟩⟩⟩⟩⟩⟩⟩⟩⟩⟩⟩⟩⟩⟩⟩⟩⟩⟩⟩⟩⟩⟩⟩⟩⟩⟩⟩⟩⟩⟩⟩⟩⟩⟩⟩⟩⟩⟩⟩⟩⟩⟩⟩⟩⟩⟩⟩
theorem pd_l8_7 : pd_LO "PascalDeskLaw" 7 (1, 2, 1, 0) := mm_LO.k1 rfl pd_ce2 ⟨pd_w309, pd_w310, _, rfl, pd_w311⟩
theorem pd_l8_8 : pd_LO "PascalDeskLaw" 8 (4, 0, 0, 0) := mm_LO.k4 (C := "PascalDesk") (T := pd_T0) (N := 3) rfl pd_w86 pd_w87 pd_w69 (fun h => by cases h)
theorem pd_l8_13 : pd_LO "PascalDeskLaw" 13 (5, 0, 0, 0) := mm_LO.k5 pd_w307
theorem pd_l8_15 : pd_LO "PascalDeskLaw" 15 (5, 1, 0, 0) := mm_LO.k5 pd_w308
theorem pd_l8_17 : pd_LO "PascalDeskLaw" 17 (1, 4, 1, 0) := mm_LO.k1 rfl pd_ce4 ⟨pd_w413, pd_w414, _, rfl, pd_w415⟩
theorem pd_l8_21 : pd_LO "PascalDeskLaw" 21 (1, 6, 2, 0) := mm_LO.k1 rfl pd_ce6 ⟨pd_w546, pd_w547, _, rfl, pd_w548⟩
theorem pd_l8_25 : pd_LO "PascalDeskLaw" 25 (1, 7, 3, 0) := mm_LO.k1 rfl pd_ce7 ⟨pd_w561, pd_w562, _, rfl, pd_w563⟩
theorem pd_l8_29 : pd_LO "PascalDeskLaw" 29 (5, 2, 0, 0) := mm_LO.k5 pd_w558
theorem pd_l8_31 : pd_LO "PascalDeskLaw" 31 (5, 3, 0, 0) := mm_LO.k5 pd_w559
theorem pd_l8_33 : pd_LO "PascalDeskLaw" 33 (5, 4, 0, 0) := mm_LO.k5 pd_w560
theorem pd_l8_35 : pd_LO "PascalDeskLaw" 35 (1, 9, 1, 0) := mm_LO.k1 rfl pd_ce9 ⟨pd_w785, pd_w786, _, rfl, pd_w787⟩
theorem pd_l8_39 : pd_LO "PascalDeskLaw" 39 (1, 10, 2, 0) := mm_LO.k1 rfl pd_ce10 ⟨pd_w794, pd_w795, _, rfl, pd_w796⟩
theorem pd_l8_43 : pd_LO "PascalDeskLaw" 43 (1, 11, 1, 0) := mm_LO.k1 rfl pd_ce11 ⟨pd_w805, pd_w806, _, rfl, pd_w807⟩
theorem pd_l8_46 : pd_LO "PascalDeskLaw" 46 (10, 0, 0, 0) := mm_LO.k10 rfl pd_ce0 pd_w88 pd_w89 rfl
theorem pd_l8_47 : pd_LO "PascalDeskLaw" 47 (4, 7, 0, 0) := mm_LO.k4 (C := "PascalDeskModel") (T := pd_T7) (N := 40) rfl pd_w810 pd_w811 pd_w76 (fun h => by cases h)
theorem pd_l8_49 : pd_LO "PascalDeskLaw" 49 (10, 91, 0, 7) := mm_LO.k10 rfl pd_ce91 pd_w812 pd_w813 rfl
theorem pd_l8_50 : pd_LO "PascalDeskLaw" 50 (7, 4294967295, 0, 0) := mm_LO.k7 pd_w1087
theorem pd_l8_52 : pd_LO "PascalDeskLaw" 52 (14, 128, 3, 0) := mm_LO.k14 rfl pd_ce128 pd_w304 pd_w305
theorem pd_l8_57 : pd_LO "PascalDeskLaw" 57 (1, 93, 1, 7) := mm_LO.k1 rfl pd_ce93 ⟨pd_w942, pd_w943, _, rfl, pd_w944⟩
theorem pd_l8_58 : pd_LO "PascalDeskLaw" 58 (1, 92, 0, 7) := mm_LO.k1 rfl pd_ce92 ⟨pd_w938, pd_w939, _, rfl, pd_w940⟩
theorem pd_l8_62 : pd_LO "PascalDeskLaw" 62 (14, 129, 3, 0) := mm_LO.k14 rfl pd_ce129 pd_w410 pd_w411
theorem pd_l8_65 : pd_LO "PascalDeskLaw" 65 (1, 94, 1, 7) := mm_LO.k1 rfl pd_ce94 ⟨pd_w946, pd_w947, _, rfl, pd_w948⟩
theorem pd_l8_66 : pd_LO "PascalDeskLaw" 66 (14, 130, 3, 0) := mm_LO.k14 rfl pd_ce130 pd_w543 pd_w544
theorem pd_l8_69 : pd_LO "PascalDeskLaw" 69 (1, 113, 2, 7) := mm_LO.k1 rfl pd_ce113 ⟨pd_w1022, pd_w1023, _, rfl, pd_w1024⟩
theorem pd_l8_70 : pd_LO "PascalDeskLaw" 70 (14, 131, 5, 0) := mm_LO.k14 rfl pd_ce131 pd_w555 pd_w556
theorem pd_l8_73 : pd_LO "PascalDeskLaw" 73 (1, 114, 3, 7) := mm_LO.k1 rfl pd_ce114 ⟨pd_w1026, pd_w1027, _, rfl, pd_w1028⟩
theorem pd_l8_74 : pd_LO "PascalDeskLaw" 74 (14, 132, 3, 0) := mm_LO.k14 rfl pd_ce132 pd_w782 pd_w783
theorem pd_l8_77 : pd_LO "PascalDeskLaw" 77 (1, 124, 1, 7) := mm_LO.k1 rfl pd_ce124 ⟨pd_w1069, pd_w1070, _, rfl, pd_w1071⟩
theorem pd_l8_78 : pd_LO "PascalDeskLaw" 78 (8, 4593671619917905920, 0, 0) := mm_LO.k8 pd_w1088
theorem pd_l8_80 : pd_LO "PascalDeskLaw" 80 (14, 133, 3, 0) := mm_LO.k14 rfl pd_ce133 pd_w791 pd_w792
theorem pd_l8_83 : pd_LO "PascalDeskLaw" 83 (1, 125, 2, 7) := mm_LO.k1 rfl pd_ce125 ⟨pd_w1073, pd_w1074, _, rfl, pd_w1075⟩
theorem pd_l8_84 : pd_LO "PascalDeskLaw" 84 (14, 134, 3, 0) := mm_LO.k14 rfl pd_ce134 pd_w802 pd_w803
theorem pd_l8_86 : pd_LO "PascalDeskLaw" 86 (1, 126, 1, 7) := mm_LO.k1 rfl pd_ce126 ⟨pd_w1079, pd_w1080, _, rfl, pd_w1081⟩
theorem pd_l8_87 : pd_LO "PascalDeskLaw" 87 (1, 1, 1, 0) := mm_LO.k1 rfl pd_ce1 ⟨pd_w296, pd_w297, _, rfl, pd_w298⟩
theorem pd_l8_90 : pd_LO "PascalDeskLaw" 90 (1, 127, 1, 7) := mm_LO.k1 rfl pd_ce127 ⟨pd_w1083, pd_w1084, _, rfl, pd_w1085⟩
theorem pd_LO8 : ∀ q ∈ pd_lkl8, pd_LO "PascalDeskLaw" q.1 q.2 := List.forall_mem_cons.mpr ⟨pd_l8_7, List.forall_mem_cons.mpr ⟨pd_l8_8, List.forall_mem_cons.mpr ⟨pd_l8_13, List.forall_mem_cons.mpr ⟨pd_l8_15, List.forall_mem_cons.mpr ⟨pd_l8_17, List.forall_mem_cons.mpr ⟨pd_l8_21, List.forall_mem_cons.mpr ⟨pd_l8_25, List.forall_mem_cons.mpr ⟨pd_l8_29, List.forall_mem_cons.mpr ⟨pd_l8_31, List.forall_mem_cons.mpr ⟨pd_l8_33, List.forall_mem_cons.mpr ⟨pd_l8_35, List.forall_mem_cons.mpr ⟨pd_l8_39, List.forall_mem_cons.mpr ⟨pd_l8_43, List.forall_mem_cons.mpr ⟨pd_l8_46, List.forall_mem_cons.mpr ⟨pd_l8_47, List.forall_mem_cons.mpr ⟨pd_l8_49, List.forall_mem_cons.mpr ⟨pd_l8_50, List.forall_mem_cons.mpr ⟨pd_l8_52, List.forall_mem_cons.mpr ⟨pd_l8_57, List.forall_mem_cons.mpr ⟨pd_l8_58, List.forall_mem_cons.mpr ⟨pd_l8_62, List.forall_mem_cons.mpr ⟨pd_l8_65, List.forall_mem_cons.mpr ⟨pd_l8_66, List.forall_mem_cons.mpr ⟨pd_l8_69, List.forall_mem_cons.mpr ⟨pd_l8_70, List.forall_mem_cons.mpr ⟨pd_l8_73, List.forall_mem_cons.mpr ⟨pd_l8_74, List.forall_mem_cons.mpr ⟨pd_l8_77, List.forall_mem_cons.mpr ⟨pd_l8_78, List.forall_mem_cons.mpr ⟨pd_l8_80, List.forall_mem_cons.mpr ⟨pd_l8_83, List.forall_mem_cons.mpr ⟨pd_l8_84, List.forall_mem_cons.mpr ⟨pd_l8_86, List.forall_mem_cons.mpr ⟨pd_l8_87, List.forall_mem_cons.mpr ⟨pd_l8_90, fun _ h => absurd h List.not_mem_nil⟩⟩⟩⟩⟩⟩⟩⟩⟩⟩⟩⟩⟩⟩⟩⟩⟩⟩⟩⟩⟩⟩⟩⟩⟩⟩⟩⟩⟩⟩⟩⟩⟩⟩⟩
theorem pd_LO9 : ∀ q ∈ pd_lkl9, pd_LO "java/lang/Math" q.1 q.2 := fun _ h => absurd h List.not_mem_nil
theorem pd_ws0 : ∀ w ∈ u_ws "PascalDesk" pd_T0 3, w ∈ pd_TT := List.forall_mem_cons.mpr ⟨pd_w289, List.forall_mem_cons.mpr ⟨pd_w291, List.forall_mem_cons.mpr ⟨pd_w293, fun _ h => absurd h List.not_mem_nil⟩⟩⟩
theorem pd_ws1 : ∀ w ∈ u_ws "PascalDesk$Code" pd_T1 5, w ∈ pd_TT := List.forall_mem_cons.mpr ⟨pd_w116, List.forall_mem_cons.mpr ⟨pd_w118, List.forall_mem_cons.mpr ⟨pd_w120, List.forall_mem_cons.mpr ⟨pd_w122, List.forall_mem_cons.mpr ⟨pd_w124, fun _ h => absurd h List.not_mem_nil⟩⟩⟩⟩⟩
theorem pd_ws2 : ∀ w ∈ u_ws "PascalDesk$Reader" pd_T2 6, w ∈ pd_TT := List.forall_mem_cons.mpr ⟨pd_w137, List.forall_mem_cons.mpr ⟨pd_w139, List.forall_mem_cons.mpr ⟨pd_w141, List.forall_mem_cons.mpr ⟨pd_w143, List.forall_mem_cons.mpr ⟨pd_w145, List.forall_mem_cons.mpr ⟨pd_w147, fun _ h => absurd h List.not_mem_nil⟩⟩⟩⟩⟩⟩
theorem pd_ws3 : ∀ w ∈ u_ws "PascalDesk$Runner" pd_T3 12, w ∈ pd_TT := List.forall_mem_cons.mpr ⟨pd_w261, List.forall_mem_cons.mpr ⟨pd_w263, List.forall_mem_cons.mpr ⟨pd_w265, List.forall_mem_cons.mpr ⟨pd_w267, List.forall_mem_cons.mpr ⟨pd_w269, List.forall_mem_cons.mpr ⟨pd_w271, List.forall_mem_cons.mpr ⟨pd_w273, List.forall_mem_cons.mpr ⟨pd_w275, List.forall_mem_cons.mpr ⟨pd_w277, List.forall_mem_cons.mpr ⟨pd_w279, List.forall_mem_cons.mpr ⟨pd_w281, List.forall_mem_cons.mpr ⟨pd_w283, fun _ h => absurd h List.not_mem_nil⟩⟩⟩⟩⟩⟩⟩⟩⟩⟩⟩⟩
theorem pd_ws4 : ∀ w ∈ u_ws "PascalDesk$Calculator" pd_T4 3, w ∈ pd_TT := List.forall_mem_cons.mpr ⟨pd_w169, List.forall_mem_cons.mpr ⟨pd_w171, List.forall_mem_cons.mpr ⟨pd_w173, fun _ h => absurd h List.not_mem_nil⟩⟩⟩
theorem pd_ws5 : ∀ w ∈ u_ws "PascalDesk$Tape" pd_T5 3, w ∈ pd_TT := List.forall_mem_cons.mpr ⟨pd_w186, List.forall_mem_cons.mpr ⟨pd_w188, List.forall_mem_cons.mpr ⟨pd_w190, fun _ h => absurd h List.not_mem_nil⟩⟩⟩
theorem pd_ws6 : ∀ w ∈ u_ws "PascalDesk$Strand" pd_T6 11, w ∈ pd_TT := List.forall_mem_cons.mpr ⟨pd_w216, List.forall_mem_cons.mpr ⟨pd_w218, List.forall_mem_cons.mpr ⟨pd_w220, List.forall_mem_cons.mpr ⟨pd_w222, List.forall_mem_cons.mpr ⟨pd_w224, List.forall_mem_cons.mpr ⟨pd_w226, List.forall_mem_cons.mpr ⟨pd_w228, List.forall_mem_cons.mpr ⟨pd_w230, List.forall_mem_cons.mpr ⟨pd_w232, List.forall_mem_cons.mpr ⟨pd_w234, List.forall_mem_cons.mpr ⟨pd_w236, fun _ h => absurd h List.not_mem_nil⟩⟩⟩⟩⟩⟩⟩⟩⟩⟩⟩
theorem pd_ws7 : ∀ w ∈ u_ws "PascalDeskModel" pd_T7 40, w ∈ pd_TT := List.forall_mem_cons.mpr ⟨pd_w856, List.forall_mem_cons.mpr ⟨pd_w858, List.forall_mem_cons.mpr ⟨pd_w860, List.forall_mem_cons.mpr ⟨pd_w862, List.forall_mem_cons.mpr ⟨pd_w864, List.forall_mem_cons.mpr ⟨pd_w866, List.forall_mem_cons.mpr ⟨pd_w868, List.forall_mem_cons.mpr ⟨pd_w870, List.forall_mem_cons.mpr ⟨pd_w872, List.forall_mem_cons.mpr ⟨pd_w874, List.forall_mem_cons.mpr ⟨pd_w876, List.forall_mem_cons.mpr ⟨pd_w878, List.forall_mem_cons.mpr ⟨pd_w880, List.forall_mem_cons.mpr ⟨pd_w882, List.forall_mem_cons.mpr ⟨pd_w884, List.forall_mem_cons.mpr ⟨pd_w886, List.forall_mem_cons.mpr ⟨pd_w888, List.forall_mem_cons.mpr ⟨pd_w890, List.forall_mem_cons.mpr ⟨pd_w892, List.forall_mem_cons.mpr ⟨pd_w894, List.forall_mem_cons.mpr ⟨pd_w896, List.forall_mem_cons.mpr ⟨pd_w898, List.forall_mem_cons.mpr ⟨pd_w900, List.forall_mem_cons.mpr ⟨pd_w902, List.forall_mem_cons.mpr ⟨pd_w904, List.forall_mem_cons.mpr ⟨pd_w906, List.forall_mem_cons.mpr ⟨pd_w908, List.forall_mem_cons.mpr ⟨pd_w910, List.forall_mem_cons.mpr ⟨pd_w912, List.forall_mem_cons.mpr ⟨pd_w914, List.forall_mem_cons.mpr ⟨pd_w916, List.forall_mem_cons.mpr ⟨pd_w918, List.forall_mem_cons.mpr ⟨pd_w920, List.forall_mem_cons.mpr ⟨pd_w922, List.forall_mem_cons.mpr ⟨pd_w924, List.forall_mem_cons.mpr ⟨pd_w926, List.forall_mem_cons.mpr ⟨pd_w928, List.forall_mem_cons.mpr ⟨pd_w930, List.forall_mem_cons.mpr ⟨pd_w932, List.forall_mem_cons.mpr ⟨pd_w934, fun _ h => absurd h List.not_mem_nil⟩⟩⟩⟩⟩⟩⟩⟩⟩⟩⟩⟩⟩⟩⟩⟩⟩⟩⟩⟩⟩⟩⟩⟩⟩⟩⟩⟩⟩⟩⟩⟩⟩⟩⟩⟩⟩⟩⟩⟩
