theorem zff_X0_9 : zFF RX0 9 0 0 (.array .int) := ⟨RX0, TX0, 12, tyX0, rfl, by decide, inlX0, (zm_3 _ (List.mem_of_getElem? (i := 18) rfl)), rfl, tyX0_ok, nmX0, rfl, by decide +kernel, rfl⟩
theorem zff_X0_15 : zFF RX0 15 0 1 (.array .int) := ⟨RX0, TX0, 12, tyX0, rfl, by decide, inlX0, (zm_3 _ (List.mem_of_getElem? (i := 19) rfl)), rfl, tyX0_ok, nmX0, rfl, by decide +kernel, rfl⟩
theorem zff_X0_18 : zFF RX0 18 0 2 (.array .int) := ⟨RX0, TX0, 12, tyX0, rfl, by decide, inlX0, (zm_3 _ (List.mem_of_getElem? (i := 20) rfl)), rfl, tyX0_ok, nmX0, rfl, by decide +kernel, rfl⟩
theorem zff_X0_21 : zFF RX0 21 0 3 (.array .int) := ⟨RX0, TX0, 12, tyX0, rfl, by decide, inlX0, (zm_3 _ (List.mem_of_getElem? (i := 21) rfl)), rfl, tyX0_ok, nmX0, rfl, by decide +kernel, rfl⟩
theorem zff_X0_24 : zFF RX0 24 0 4 (.array .int) := ⟨RX0, TX0, 12, tyX0, rfl, by decide, inlX0, (zm_3 _ (List.mem_of_getElem? (i := 22) rfl)), rfl, tyX0_ok, nmX0, rfl, by decide +kernel, rfl⟩
theorem zff_X0_27 : zFF RX0 27 0 5 (.array .int) := ⟨RX0, TX0, 12, tyX0, rfl, by decide, inlX0, (zm_3 _ (List.mem_of_getElem? (i := 23) rfl)), rfl, tyX0_ok, nmX0, rfl, by decide +kernel, rfl⟩
theorem zff_X0_30 : zFF RX0 30 0 6 (.array .int) := ⟨RX0, TX0, 12, tyX0, rfl, by decide, inlX0, (zm_4 _ (List.mem_of_getElem? (i := 0) rfl)), rfl, tyX0_ok, nmX0, rfl, by decide +kernel, rfl⟩
theorem zff_X1_9 : zFF RX1 9 1 0 (.array .int) := ⟨RX1, TX1, 12, tyX1, rfl, by decide, inlX1, (zm_4 _ (List.mem_of_getElem? (i := 18) rfl)), rfl, tyX1_ok, nmX1, rfl, by decide +kernel, rfl⟩
theorem zff_X1_15 : zFF RX1 15 1 1 (.array .int) := ⟨RX1, TX1, 12, tyX1, rfl, by decide, inlX1, (zm_4 _ (List.mem_of_getElem? (i := 19) rfl)), rfl, tyX1_ok, nmX1, rfl, by decide +kernel, rfl⟩
theorem zff_X1_18 : zFF RX1 18 1 2 (.array .int) := ⟨RX1, TX1, 12, tyX1, rfl, by decide, inlX1, (zm_4 _ (List.mem_of_getElem? (i := 20) rfl)), rfl, tyX1_ok, nmX1, rfl, by decide +kernel, rfl⟩
theorem zff_X1_21 : zFF RX1 21 1 3 (.array .int) := ⟨RX1, TX1, 12, tyX1, rfl, by decide, inlX1, (zm_4 _ (List.mem_of_getElem? (i := 21) rfl)), rfl, tyX1_ok, nmX1, rfl, by decide +kernel, rfl⟩
theorem zff_X1_24 : zFF RX1 24 1 4 (.array .boolean) := ⟨RX1, TX1, 12, tyX1, rfl, by decide, inlX1, (zm_4 _ (List.mem_of_getElem? (i := 23) rfl)), rfl, tyX1_ok, nmX1, rfl, by decide +kernel, rfl⟩
theorem zff_X1_28 : zFF RX1 28 1 5 (.array .int) := ⟨RX1, TX1, 12, tyX1, rfl, by decide, inlX1, (zm_5 _ (List.mem_of_getElem? (i := 0) rfl)), rfl, tyX1_ok, nmX1, rfl, by decide +kernel, rfl⟩
theorem zff_X1_31 : zFF RX1 31 1 6 (.array .int) := ⟨RX1, TX1, 12, tyX1, rfl, by decide, inlX1, (zm_5 _ (List.mem_of_getElem? (i := 1) rfl)), rfl, tyX1_ok, nmX1, rfl, by decide +kernel, rfl⟩
theorem zff_X1_34 : zFF RX1 34 1 7 (.array .int) := ⟨RX1, TX1, 12, tyX1, rfl, by decide, inlX1, (zm_5 _ (List.mem_of_getElem? (i := 2) rfl)), rfl, tyX1_ok, nmX1, rfl, by decide +kernel, rfl⟩
theorem zff_X1_37 : zFF RX1 37 1 8 (.array .int) := ⟨RX1, TX1, 12, tyX1, rfl, by decide, inlX1, (zm_5 _ (List.mem_of_getElem? (i := 3) rfl)), rfl, tyX1_ok, nmX1, rfl, by decide +kernel, rfl⟩
theorem zff_X10_9 : zFF RX10 9 10 5 (.array .long) := ⟨RX10, TX10, 10, tyX10, rfl, by decide, inlX10, (zm_7 _ (List.mem_of_getElem? (i := 13) rfl)), rfl, tyX10_ok, nmX10, rfl, by decide +kernel, rfl⟩
theorem zff_X10_15 : zFF RX10 15 10 6 (.array .long) := ⟨RX10, TX10, 10, tyX10, rfl, by decide, inlX10, (zm_7 _ (List.mem_of_getElem? (i := 14) rfl)), rfl, tyX10_ok, nmX10, rfl, by decide +kernel, rfl⟩
theorem zff_X10_18 : zFF RX10 18 10 7 (.array .int) := ⟨RX10, TX10, 10, tyX10, rfl, by decide, inlX10, (zm_7 _ (List.mem_of_getElem? (i := 15) rfl)), rfl, tyX10_ok, nmX10, rfl, by decide +kernel, rfl⟩
theorem zff_X10_22 : zFF RX10 22 10 8 (.array .int) := ⟨RX10, TX10, 10, tyX10, rfl, by decide, inlX10, (zm_7 _ (List.mem_of_getElem? (i := 16) rfl)), rfl, tyX10_ok, nmX10, rfl, by decide +kernel, rfl⟩
theorem zff_X10_25 : zFF RX10 25 10 0 (.object "UnreadSigns$Match") := ⟨RX10, TX10, 10, tyX10, rfl, by decide, inlX10, (zm_7 _ (List.mem_of_getElem? (i := 17) rfl)), rfl, tyX10_ok, nmX10, rfl, by decide +kernel, rfl⟩
theorem zff_X10_29 : zFF RX10 29 10 1 (.object "UnreadSigns$Names") := ⟨RX10, TX10, 10, tyX10, rfl, by decide, inlX10, (zm_7 _ (List.mem_of_getElem? (i := 18) rfl)), rfl, tyX10_ok, nmX10, rfl, by decide +kernel, rfl⟩
theorem zff_X10_33 : zFF RX10 33 10 2 (.object "UnreadSigns$Lexicon") := ⟨RX10, TX10, 10, tyX10, rfl, by decide, inlX10, (zm_7 _ (List.mem_of_getElem? (i := 19) rfl)), rfl, tyX10_ok, nmX10, rfl, by decide +kernel, rfl⟩
theorem zff_X10_37 : zFF RX10 37 10 3 (.object "UnreadSigns$Net") := ⟨RX10, TX10, 10, tyX10, rfl, by decide, inlX10, (zm_7 _ (List.mem_of_getElem? (i := 20) rfl)), rfl, tyX10_ok, nmX10, rfl, by decide +kernel, rfl⟩
theorem zff_X10_41 : zFF RX10 41 10 4 (.object "UnreadSigns$Net") := ⟨RX10, TX10, 10, tyX10, rfl, by decide, inlX10, (zm_7 _ (List.mem_of_getElem? (i := 21) rfl)), rfl, tyX10_ok, nmX10, rfl, by decide +kernel, rfl⟩
theorem zff_X11_10 : zFF RX11 10 11 0 (.object "UnreadSigns$Tape") := ⟨RX11, TX11, 16, tyX11, rfl, by decide, inlX11, (zm_1 _ (List.mem_of_getElem? (i := 15) rfl)), rfl, tyX11_ok, nmX11, rfl, by decide +kernel, rfl⟩
theorem zff_X11_19 : zFF RX11 19 11 1 (.object "UnreadSigns$Forms") := ⟨RX11, TX11, 16, tyX11, rfl, by decide, inlX11, (zm_1 _ (List.mem_of_getElem? (i := 19) rfl)), rfl, tyX11_ok, nmX11, rfl, by decide +kernel, rfl⟩
theorem zff_X11_26 : zFF RX11 26 11 2 (.object "UnreadSigns$Stones") := ⟨RX11, TX11, 16, tyX11, rfl, by decide, inlX11, (zm_1 _ (List.mem_of_getElem? (i := 23) rfl)), rfl, tyX11_ok, nmX11, rfl, by decide +kernel, rfl⟩
theorem zff_X11_33 : zFF RX11 33 11 3 (.object "UnreadSigns$Names") := ⟨RX11, TX11, 16, tyX11, rfl, by decide, inlX11, (zm_2 _ (List.mem_of_getElem? (i := 3) rfl)), rfl, tyX11_ok, nmX11, rfl, by decide +kernel, rfl⟩
theorem zff_X11_40 : zFF RX11 40 11 4 (.object "UnreadSigns$Hand") := ⟨RX11, TX11, 16, tyX11, rfl, by decide, inlX11, (zm_2 _ (List.mem_of_getElem? (i := 7) rfl)), rfl, tyX11_ok, nmX11, rfl, by decide +kernel, rfl⟩
theorem zff_X11_47 : zFF RX11 47 11 5 (.object "UnreadSigns$Reading") := ⟨RX11, TX11, 16, tyX11, rfl, by decide, inlX11, (zm_2 _ (List.mem_of_getElem? (i := 11) rfl)), rfl, tyX11_ok, nmX11, rfl, by decide +kernel, rfl⟩
theorem zff_X11_54 : zFF RX11 54 11 6 (.object "UnreadSigns$Lexicon") := ⟨RX11, TX11, 16, tyX11, rfl, by decide, inlX11, (zm_2 _ (List.mem_of_getElem? (i := 15) rfl)), rfl, tyX11_ok, nmX11, rfl, by decide +kernel, rfl⟩
theorem zff_X11_63 : zFF RX11 63 11 7 (.object "UnreadSigns$Net") := ⟨RX11, TX11, 16, tyX11, rfl, by decide, inlX11, (zm_2 _ (List.mem_of_getElem? (i := 19) rfl)), rfl, tyX11_ok, nmX11, rfl, by decide +kernel, rfl⟩
theorem zff_X11_67 : zFF RX11 67 11 8 (.object "UnreadSigns$Net") := ⟨RX11, TX11, 16, tyX11, rfl, by decide, inlX11, (zm_2 _ (List.mem_of_getElem? (i := 20) rfl)), rfl, tyX11_ok, nmX11, rfl, by decide +kernel, rfl⟩
theorem zff_X11_73 : zFF RX11 73 11 9 (.object "UnreadSigns$Values") := ⟨RX11, TX11, 16, tyX11, rfl, by decide, inlX11, (zm_3 _ (List.mem_of_getElem? (i := 0) rfl)), rfl, tyX11_ok, nmX11, rfl, by decide +kernel, rfl⟩
theorem zff_X11_82 : zFF RX11 82 11 10 (.object "UnreadSigns$Match") := ⟨RX11, TX11, 16, tyX11, rfl, by decide, inlX11, (zm_3 _ (List.mem_of_getElem? (i := 4) rfl)), rfl, tyX11_ok, nmX11, rfl, by decide +kernel, rfl⟩
theorem zff_X11_91 : zFF RX11 91 11 11 (.object "UnreadSigns$Ways") := ⟨RX11, TX11, 16, tyX11, rfl, by decide, inlX11, (zm_3 _ (List.mem_of_getElem? (i := 8) rfl)), rfl, tyX11_ok, nmX11, rfl, by decide +kernel, rfl⟩
theorem zff_X12_9 : zFF RX12 9 12 0 (.array .byte) := ⟨RX12, TX12, 46, tyX12, rfl, by decide, inlX12, (zm_8 _ (List.mem_of_getElem? (i := 3) rfl)), rfl, tyX12_ok, nmX12, rfl, by decide +kernel, rfl⟩
theorem zff_X12_13 : zFF RX12 13 12 6 (.array .int) := ⟨RX12, TX12, 46, tyX12, rfl, by decide, inlX12, (zm_8 _ (List.mem_of_getElem? (i := 4) rfl)), rfl, tyX12_ok, nmX12, rfl, by decide +kernel, rfl⟩
theorem zff_X12_17 : zFF RX12 17 12 7 (.array .int) := ⟨RX12, TX12, 46, tyX12, rfl, by decide, inlX12, (zm_8 _ (List.mem_of_getElem? (i := 5) rfl)), rfl, tyX12_ok, nmX12, rfl, by decide +kernel, rfl⟩
theorem zff_X12_20 : zFF RX12 20 12 9 (.array .int) := ⟨RX12, TX12, 46, tyX12, rfl, by decide, inlX12, (zm_8 _ (List.mem_of_getElem? (i := 6) rfl)), rfl, tyX12_ok, nmX12, rfl, by decide +kernel, rfl⟩
theorem zff_X12_23 : zFF RX12 23 12 10 (.array .int) := ⟨RX12, TX12, 46, tyX12, rfl, by decide, inlX12, (zm_8 _ (List.mem_of_getElem? (i := 7) rfl)), rfl, tyX12_ok, nmX12, rfl, by decide +kernel, rfl⟩
theorem zff_X12_26 : zFF RX12 26 12 11 (.array .int) := ⟨RX12, TX12, 46, tyX12, rfl, by decide, inlX12, (zm_8 _ (List.mem_of_getElem? (i := 8) rfl)), rfl, tyX12_ok, nmX12, rfl, by decide +kernel, rfl⟩
theorem zff_X12_29 : zFF RX12 29 12 13 (.array .int) := ⟨RX12, TX12, 46, tyX12, rfl, by decide, inlX12, (zm_8 _ (List.mem_of_getElem? (i := 9) rfl)), rfl, tyX12_ok, nmX12, rfl, by decide +kernel, rfl⟩
theorem zff_X12_32 : zFF RX12 32 12 14 (.array .int) := ⟨RX12, TX12, 46, tyX12, rfl, by decide, inlX12, (zm_8 _ (List.mem_of_getElem? (i := 10) rfl)), rfl, tyX12_ok, nmX12, rfl, by decide +kernel, rfl⟩
theorem zff_X12_35 : zFF RX12 35 12 15 (.array .int) := ⟨RX12, TX12, 46, tyX12, rfl, by decide, inlX12, (zm_8 _ (List.mem_of_getElem? (i := 11) rfl)), rfl, tyX12_ok, nmX12, rfl, by decide +kernel, rfl⟩
theorem zff_X12_38 : zFF RX12 38 12 16 (.array .int) := ⟨RX12, TX12, 46, tyX12, rfl, by decide, inlX12, (zm_8 _ (List.mem_of_getElem? (i := 12) rfl)), rfl, tyX12_ok, nmX12, rfl, by decide +kernel, rfl⟩
theorem zff_X12_41 : zFF RX12 41 12 18 (.array .int) := ⟨RX12, TX12, 46, tyX12, rfl, by decide, inlX12, (zm_8 _ (List.mem_of_getElem? (i := 13) rfl)), rfl, tyX12_ok, nmX12, rfl, by decide +kernel, rfl⟩
theorem zff_X12_44 : zFF RX12 44 12 20 (.array .int) := ⟨RX12, TX12, 46, tyX12, rfl, by decide, inlX12, (zm_8 _ (List.mem_of_getElem? (i := 14) rfl)), rfl, tyX12_ok, nmX12, rfl, by decide +kernel, rfl⟩
theorem zff_X12_47 : zFF RX12 47 12 21 (.array .int) := ⟨RX12, TX12, 46, tyX12, rfl, by decide, inlX12, (zm_8 _ (List.mem_of_getElem? (i := 15) rfl)), rfl, tyX12_ok, nmX12, rfl, by decide +kernel, rfl⟩
theorem zff_X12_50 : zFF RX12 50 12 22 (.array .int) := ⟨RX12, TX12, 46, tyX12, rfl, by decide, inlX12, (zm_8 _ (List.mem_of_getElem? (i := 16) rfl)), rfl, tyX12_ok, nmX12, rfl, by decide +kernel, rfl⟩
theorem zff_X12_53 : zFF RX12 53 12 24 (.array .int) := ⟨RX12, TX12, 46, tyX12, rfl, by decide, inlX12, (zm_8 _ (List.mem_of_getElem? (i := 17) rfl)), rfl, tyX12_ok, nmX12, rfl, by decide +kernel, rfl⟩
theorem zff_X12_56 : zFF RX12 56 12 27 (.array .int) := ⟨RX12, TX12, 46, tyX12, rfl, by decide, inlX12, (zm_8 _ (List.mem_of_getElem? (i := 18) rfl)), rfl, tyX12_ok, nmX12, rfl, by decide +kernel, rfl⟩
theorem zff_X12_59 : zFF RX12 59 12 28 (.array .int) := ⟨RX12, TX12, 46, tyX12, rfl, by decide, inlX12, (zm_8 _ (List.mem_of_getElem? (i := 19) rfl)), rfl, tyX12_ok, nmX12, rfl, by decide +kernel, rfl⟩
theorem zff_X12_62 : zFF RX12 62 12 29 (.array .int) := ⟨RX12, TX12, 46, tyX12, rfl, by decide, inlX12, (zm_8 _ (List.mem_of_getElem? (i := 20) rfl)), rfl, tyX12_ok, nmX12, rfl, by decide +kernel, rfl⟩
theorem zff_X12_65 : zFF RX12 65 12 30 (.array .int) := ⟨RX12, TX12, 46, tyX12, rfl, by decide, inlX12, (zm_8 _ (List.mem_of_getElem? (i := 21) rfl)), rfl, tyX12_ok, nmX12, rfl, by decide +kernel, rfl⟩
theorem zff_X12_68 : zFF RX12 68 12 31 (.array .int) := ⟨RX12, TX12, 46, tyX12, rfl, by decide, inlX12, (zm_8 _ (List.mem_of_getElem? (i := 22) rfl)), rfl, tyX12_ok, nmX12, rfl, by decide +kernel, rfl⟩
theorem zff_X12_71 : zFF RX12 71 12 33 (.array .int) := ⟨RX12, TX12, 46, tyX12, rfl, by decide, inlX12, (zm_8 _ (List.mem_of_getElem? (i := 23) rfl)), rfl, tyX12_ok, nmX12, rfl, by decide +kernel, rfl⟩
theorem zff_X12_74 : zFF RX12 74 12 34 (.array .boolean) := ⟨RX12, TX12, 46, tyX12, rfl, by decide, inlX12, (zm_9 _ (List.mem_of_getElem? (i := 0) rfl)), rfl, tyX12_ok, nmX12, rfl, by decide +kernel, rfl⟩
theorem zff_X12_78 : zFF RX12 78 12 35 (.array .int) := ⟨RX12, TX12, 46, tyX12, rfl, by decide, inlX12, (zm_9 _ (List.mem_of_getElem? (i := 1) rfl)), rfl, tyX12_ok, nmX12, rfl, by decide +kernel, rfl⟩
theorem zff_X12_81 : zFF RX12 81 12 36 (.array .int) := ⟨RX12, TX12, 46, tyX12, rfl, by decide, inlX12, (zm_9 _ (List.mem_of_getElem? (i := 2) rfl)), rfl, tyX12_ok, nmX12, rfl, by decide +kernel, rfl⟩
theorem zff_X12_84 : zFF RX12 84 12 37 (.array .int) := ⟨RX12, TX12, 46, tyX12, rfl, by decide, inlX12, (zm_9 _ (List.mem_of_getElem? (i := 3) rfl)), rfl, tyX12_ok, nmX12, rfl, by decide +kernel, rfl⟩
theorem zff_X12_87 : zFF RX12 87 12 38 (.array .int) := ⟨RX12, TX12, 46, tyX12, rfl, by decide, inlX12, (zm_9 _ (List.mem_of_getElem? (i := 4) rfl)), rfl, tyX12_ok, nmX12, rfl, by decide +kernel, rfl⟩
theorem zff_X12_90 : zFF RX12 90 12 39 (.array .int) := ⟨RX12, TX12, 46, tyX12, rfl, by decide, inlX12, (zm_9 _ (List.mem_of_getElem? (i := 5) rfl)), rfl, tyX12_ok, nmX12, rfl, by decide +kernel, rfl⟩
theorem zff_X12_93 : zFF RX12 93 12 42 (.array .int) := ⟨RX12, TX12, 46, tyX12, rfl, by decide, inlX12, (zm_9 _ (List.mem_of_getElem? (i := 6) rfl)), rfl, tyX12_ok, nmX12, rfl, by decide +kernel, rfl⟩
theorem zff_X12_96 : zFF RX12 96 12 43 (.array .int) := ⟨RX12, TX12, 46, tyX12, rfl, by decide, inlX12, (zm_9 _ (List.mem_of_getElem? (i := 7) rfl)), rfl, tyX12_ok, nmX12, rfl, by decide +kernel, rfl⟩
theorem zff_X12_99 : zFF RX12 99 12 44 (.array .int) := ⟨RX12, TX12, 46, tyX12, rfl, by decide, inlX12, (zm_9 _ (List.mem_of_getElem? (i := 8) rfl)), rfl, tyX12_ok, nmX12, rfl, by decide +kernel, rfl⟩
theorem zff_X2_9 : zFF RX2 9 2 0 (.array .long) := ⟨RX2, TX2, 9, tyX2, rfl, by decide, inlX2, (zm_6 _ (List.mem_of_getElem? (i := 1) rfl)), rfl, tyX2_ok, nmX2, rfl, by decide +kernel, rfl⟩
theorem zff_X2_15 : zFF RX2 15 2 1 (.array .int) := ⟨RX2, TX2, 9, tyX2, rfl, by decide, inlX2, (zm_6 _ (List.mem_of_getElem? (i := 2) rfl)), rfl, tyX2_ok, nmX2, rfl, by decide +kernel, rfl⟩
theorem zff_X2_19 : zFF RX2 19 2 2 (.array .int) := ⟨RX2, TX2, 9, tyX2, rfl, by decide, inlX2, (zm_6 _ (List.mem_of_getElem? (i := 3) rfl)), rfl, tyX2_ok, nmX2, rfl, by decide +kernel, rfl⟩
theorem zff_X2_22 : zFF RX2 22 2 3 (.array .int) := ⟨RX2, TX2, 9, tyX2, rfl, by decide, inlX2, (zm_6 _ (List.mem_of_getElem? (i := 4) rfl)), rfl, tyX2_ok, nmX2, rfl, by decide +kernel, rfl⟩
theorem zff_X2_25 : zFF RX2 25 2 4 (.array .long) := ⟨RX2, TX2, 9, tyX2, rfl, by decide, inlX2, (zm_6 _ (List.mem_of_getElem? (i := 5) rfl)), rfl, tyX2_ok, nmX2, rfl, by decide +kernel, rfl⟩
theorem zff_X2_28 : zFF RX2 28 2 5 (.array .int) := ⟨RX2, TX2, 9, tyX2, rfl, by decide, inlX2, (zm_6 _ (List.mem_of_getElem? (i := 6) rfl)), rfl, tyX2_ok, nmX2, rfl, by decide +kernel, rfl⟩
theorem zff_X3_9 : zFF RX3 9 3 3 (.array .boolean) := ⟨RX3, TX3, 9, tyX3, rfl, by decide, inlX3, (zm_7 _ (List.mem_of_getElem? (i := 2) rfl)), rfl, tyX3_ok, nmX3, rfl, by decide +kernel, rfl⟩
theorem zff_X3_15 : zFF RX3 15 3 4 (.array .int) := ⟨RX3, TX3, 9, tyX3, rfl, by decide, inlX3, (zm_7 _ (List.mem_of_getElem? (i := 3) rfl)), rfl, tyX3_ok, nmX3, rfl, by decide +kernel, rfl⟩
theorem zff_X3_19 : zFF RX3 19 3 5 (.array .int) := ⟨RX3, TX3, 9, tyX3, rfl, by decide, inlX3, (zm_7 _ (List.mem_of_getElem? (i := 4) rfl)), rfl, tyX3_ok, nmX3, rfl, by decide +kernel, rfl⟩
theorem zff_X3_22 : zFF RX3 22 3 6 (.array .int) := ⟨RX3, TX3, 9, tyX3, rfl, by decide, inlX3, (zm_7 _ (List.mem_of_getElem? (i := 5) rfl)), rfl, tyX3_ok, nmX3, rfl, by decide +kernel, rfl⟩
theorem zff_X3_25 : zFF RX3 25 3 0 (.object "UnreadSigns$Names") := ⟨RX3, TX3, 9, tyX3, rfl, by decide, inlX3, (zm_7 _ (List.mem_of_getElem? (i := 6) rfl)), rfl, tyX3_ok, nmX3, rfl, by decide +kernel, rfl⟩
theorem zff_X3_29 : zFF RX3 29 3 1 (.object "UnreadSigns$Lexicon") := ⟨RX3, TX3, 9, tyX3, rfl, by decide, inlX3, (zm_7 _ (List.mem_of_getElem? (i := 7) rfl)), rfl, tyX3_ok, nmX3, rfl, by decide +kernel, rfl⟩
theorem zff_X3_33 : zFF RX3 33 3 2 (.object "UnreadSigns$Values") := ⟨RX3, TX3, 9, tyX3, rfl, by decide, inlX3, (zm_7 _ (List.mem_of_getElem? (i := 8) rfl)), rfl, tyX3_ok, nmX3, rfl, by decide +kernel, rfl⟩
theorem zff_X4_9 : zFF RX4 9 4 0 (.array .int) := ⟨RX4, TX4, 3, tyX4, rfl, by decide, inlX4, (zm_4 _ (List.mem_of_getElem? (i := 12) rfl)), rfl, tyX4_ok, nmX4, rfl, by decide +kernel, rfl⟩
theorem zff_X4_15 : zFF RX4 15 4 1 (.array .int) := ⟨RX4, TX4, 3, tyX4, rfl, by decide, inlX4, (zm_4 _ (List.mem_of_getElem? (i := 13) rfl)), rfl, tyX4_ok, nmX4, rfl, by decide +kernel, rfl⟩
theorem zff_X5_9 : zFF RX5 9 5 1 (.array .int) := ⟨RX5, TX5, 4, tyX5, rfl, by decide, inlX5, (zm_6 _ (List.mem_of_getElem? (i := 11) rfl)), rfl, tyX5_ok, nmX5, rfl, by decide +kernel, rfl⟩
theorem zff_X5_15 : zFF RX5 15 5 2 (.array .int) := ⟨RX5, TX5, 4, tyX5, rfl, by decide, inlX5, (zm_6 _ (List.mem_of_getElem? (i := 12) rfl)), rfl, tyX5_ok, nmX5, rfl, by decide +kernel, rfl⟩
theorem zff_X5_18 : zFF RX5 18 5 3 (.array .int) := ⟨RX5, TX5, 4, tyX5, rfl, by decide, inlX5, (zm_6 _ (List.mem_of_getElem? (i := 13) rfl)), rfl, tyX5_ok, nmX5, rfl, by decide +kernel, rfl⟩
theorem zff_X5_21 : zFF RX5 21 5 0 .boolean := ⟨RX5, TX5, 4, tyX5, rfl, by decide, inlX5, (zm_6 _ (List.mem_of_getElem? (i := 14) rfl)), rfl, tyX5_ok, nmX5, rfl, by decide +kernel, rfl⟩
theorem zff_X6_9 : zFF RX6 9 6 0 (.array .int) := ⟨RX6, TX6, 9, tyX6, rfl, by decide, inlX6, (zm_5 _ (List.mem_of_getElem? (i := 18) rfl)), rfl, tyX6_ok, nmX6, rfl, by decide +kernel, rfl⟩
theorem zff_X6_15 : zFF RX6 15 6 1 (.array .int) := ⟨RX6, TX6, 9, tyX6, rfl, by decide, inlX6, (zm_5 _ (List.mem_of_getElem? (i := 19) rfl)), rfl, tyX6_ok, nmX6, rfl, by decide +kernel, rfl⟩
theorem zff_X6_18 : zFF RX6 18 6 2 (.array .int) := ⟨RX6, TX6, 9, tyX6, rfl, by decide, inlX6, (zm_5 _ (List.mem_of_getElem? (i := 20) rfl)), rfl, tyX6_ok, nmX6, rfl, by decide +kernel, rfl⟩
theorem zff_X7_9 : zFF RX7 9 7 0 (.array .int) := ⟨RX7, TX7, 10, tyX7, rfl, by decide, inlX7, (zm_4 _ (List.mem_of_getElem? (i := 4) rfl)), rfl, tyX7_ok, nmX7, rfl, by decide +kernel, rfl⟩
theorem zff_X7_15 : zFF RX7 15 7 1 (.array .int) := ⟨RX7, TX7, 10, tyX7, rfl, by decide, inlX7, (zm_4 _ (List.mem_of_getElem? (i := 5) rfl)), rfl, tyX7_ok, nmX7, rfl, by decide +kernel, rfl⟩
theorem zff_X7_18 : zFF RX7 18 7 2 (.array .int) := ⟨RX7, TX7, 10, tyX7, rfl, by decide, inlX7, (zm_4 _ (List.mem_of_getElem? (i := 6) rfl)), rfl, tyX7_ok, nmX7, rfl, by decide +kernel, rfl⟩
theorem zff_X7_21 : zFF RX7 21 7 3 (.array .int) := ⟨RX7, TX7, 10, tyX7, rfl, by decide, inlX7, (zm_4 _ (List.mem_of_getElem? (i := 7) rfl)), rfl, tyX7_ok, nmX7, rfl, by decide +kernel, rfl⟩
theorem zff_X7_24 : zFF RX7 24 7 4 (.array .int) := ⟨RX7, TX7, 10, tyX7, rfl, by decide, inlX7, (zm_4 _ (List.mem_of_getElem? (i := 8) rfl)), rfl, tyX7_ok, nmX7, rfl, by decide +kernel, rfl⟩
theorem zff_X8_9 : zFF RX8 9 8 0 (.array .int) := ⟨RX8, TX8, 2, tyX8, rfl, by decide, inlX8, (zm_3 _ (List.mem_of_getElem? (i := 14) rfl)), rfl, tyX8_ok, nmX8, rfl, by decide +kernel, rfl⟩
theorem zff_X9_9 : zFF RX9 9 9 0 (.array .int) := ⟨RX9, TX9, 7, tyX9, rfl, by decide, inlX9, (zm_6 _ (List.mem_of_getElem? (i := 18) rfl)), rfl, tyX9_ok, nmX9, rfl, by decide +kernel, rfl⟩
theorem zff_X9_15 : zFF RX9 15 9 1 (.array .int) := ⟨RX9, TX9, 7, tyX9, rfl, by decide, inlX9, (zm_6 _ (List.mem_of_getElem? (i := 19) rfl)), rfl, tyX9_ok, nmX9, rfl, by decide +kernel, rfl⟩
theorem zff_X9_18 : zFF RX9 18 9 2 (.array .int) := ⟨RX9, TX9, 7, tyX9, rfl, by decide, inlX9, (zm_6 _ (List.mem_of_getElem? (i := 20) rfl)), rfl, tyX9_ok, nmX9, rfl, by decide +kernel, rfl⟩
theorem zff_X9_21 : zFF RX9 21 9 3 (.array .int) := ⟨RX9, TX9, 7, tyX9, rfl, by decide, inlX9, (zm_6 _ (List.mem_of_getElem? (i := 21) rfl)), rfl, tyX9_ok, nmX9, rfl, by decide +kernel, rfl⟩
theorem zoi_X0 : ∀ w ∈ [Cond.methodLink RX0 3 objectInit, .instanceMethod objectInit, .code objectInit ⟨#[0xb1]⟩ 1 none], w ∈ wsL_law := (List.forall_mem_cons.mpr ⟨(zm_3 _ (List.mem_of_getElem? (i := 17) rfl)), (List.forall_mem_cons.mpr ⟨(zm_1 _ (List.mem_of_getElem? (i := 10) rfl)), (List.forall_mem_cons.mpr ⟨(zm_1 _ (List.mem_of_getElem? (i := 11) rfl)), (fun _ h => absurd h List.not_mem_nil)⟩)⟩)⟩)
theorem zoi_X1 : ∀ w ∈ [Cond.methodLink RX1 3 objectInit, .instanceMethod objectInit, .code objectInit ⟨#[0xb1]⟩ 1 none], w ∈ wsL_law := (List.forall_mem_cons.mpr ⟨(zm_4 _ (List.mem_of_getElem? (i := 17) rfl)), (List.forall_mem_cons.mpr ⟨(zm_1 _ (List.mem_of_getElem? (i := 10) rfl)), (List.forall_mem_cons.mpr ⟨(zm_1 _ (List.mem_of_getElem? (i := 11) rfl)), (fun _ h => absurd h List.not_mem_nil)⟩)⟩)⟩)
theorem zoi_X10 : ∀ w ∈ [Cond.methodLink RX10 3 objectInit, .instanceMethod objectInit, .code objectInit ⟨#[0xb1]⟩ 1 none], w ∈ wsL_law := (List.forall_mem_cons.mpr ⟨(zm_7 _ (List.mem_of_getElem? (i := 12) rfl)), (List.forall_mem_cons.mpr ⟨(zm_1 _ (List.mem_of_getElem? (i := 10) rfl)), (List.forall_mem_cons.mpr ⟨(zm_1 _ (List.mem_of_getElem? (i := 11) rfl)), (fun _ h => absurd h List.not_mem_nil)⟩)⟩)⟩)
theorem zoi_X11 : ∀ w ∈ [Cond.methodLink RX11 1 objectInit, .instanceMethod objectInit, .code objectInit ⟨#[0xb1]⟩ 1 none], w ∈ wsL_law := (List.forall_mem_cons.mpr ⟨(zm_1 _ (List.mem_of_getElem? (i := 9) rfl)), (List.forall_mem_cons.mpr ⟨(zm_1 _ (List.mem_of_getElem? (i := 10) rfl)), (List.forall_mem_cons.mpr ⟨(zm_1 _ (List.mem_of_getElem? (i := 11) rfl)), (fun _ h => absurd h List.not_mem_nil)⟩)⟩)⟩)
theorem zoi_X12 : ∀ w ∈ [Cond.methodLink RX12 3 objectInit, .instanceMethod objectInit, .code objectInit ⟨#[0xb1]⟩ 1 none], w ∈ wsL_law := (List.forall_mem_cons.mpr ⟨(zm_8 _ (List.mem_of_getElem? (i := 1) rfl)), (List.forall_mem_cons.mpr ⟨(zm_1 _ (List.mem_of_getElem? (i := 10) rfl)), (List.forall_mem_cons.mpr ⟨(zm_1 _ (List.mem_of_getElem? (i := 11) rfl)), (fun _ h => absurd h List.not_mem_nil)⟩)⟩)⟩)
theorem zoi_X2 : ∀ w ∈ [Cond.methodLink RX2 3 objectInit, .instanceMethod objectInit, .code objectInit ⟨#[0xb1]⟩ 1 none], w ∈ wsL_law := (List.forall_mem_cons.mpr ⟨(zm_5 _ (List.mem_of_getElem? (i := 23) rfl)), (List.forall_mem_cons.mpr ⟨(zm_1 _ (List.mem_of_getElem? (i := 10) rfl)), (List.forall_mem_cons.mpr ⟨(zm_1 _ (List.mem_of_getElem? (i := 11) rfl)), (fun _ h => absurd h List.not_mem_nil)⟩)⟩)⟩)
theorem zoi_X3 : ∀ w ∈ [Cond.methodLink RX3 3 objectInit, .instanceMethod objectInit, .code objectInit ⟨#[0xb1]⟩ 1 none], w ∈ wsL_law := (List.forall_mem_cons.mpr ⟨(zm_7 _ (List.mem_of_getElem? (i := 1) rfl)), (List.forall_mem_cons.mpr ⟨(zm_1 _ (List.mem_of_getElem? (i := 10) rfl)), (List.forall_mem_cons.mpr ⟨(zm_1 _ (List.mem_of_getElem? (i := 11) rfl)), (fun _ h => absurd h List.not_mem_nil)⟩)⟩)⟩)
theorem zoi_X4 : ∀ w ∈ [Cond.methodLink RX4 3 objectInit, .instanceMethod objectInit, .code objectInit ⟨#[0xb1]⟩ 1 none], w ∈ wsL_law := (List.forall_mem_cons.mpr ⟨(zm_4 _ (List.mem_of_getElem? (i := 11) rfl)), (List.forall_mem_cons.mpr ⟨(zm_1 _ (List.mem_of_getElem? (i := 10) rfl)), (List.forall_mem_cons.mpr ⟨(zm_1 _ (List.mem_of_getElem? (i := 11) rfl)), (fun _ h => absurd h List.not_mem_nil)⟩)⟩)⟩)
theorem zoi_X5 : ∀ w ∈ [Cond.methodLink RX5 3 objectInit, .instanceMethod objectInit, .code objectInit ⟨#[0xb1]⟩ 1 none], w ∈ wsL_law := (List.forall_mem_cons.mpr ⟨(zm_6 _ (List.mem_of_getElem? (i := 10) rfl)), (List.forall_mem_cons.mpr ⟨(zm_1 _ (List.mem_of_getElem? (i := 10) rfl)), (List.forall_mem_cons.mpr ⟨(zm_1 _ (List.mem_of_getElem? (i := 11) rfl)), (fun _ h => absurd h List.not_mem_nil)⟩)⟩)⟩)
theorem zoi_X6 : ∀ w ∈ [Cond.methodLink RX6 3 objectInit, .instanceMethod objectInit, .code objectInit ⟨#[0xb1]⟩ 1 none], w ∈ wsL_law := (List.forall_mem_cons.mpr ⟨(zm_5 _ (List.mem_of_getElem? (i := 17) rfl)), (List.forall_mem_cons.mpr ⟨(zm_1 _ (List.mem_of_getElem? (i := 10) rfl)), (List.forall_mem_cons.mpr ⟨(zm_1 _ (List.mem_of_getElem? (i := 11) rfl)), (fun _ h => absurd h List.not_mem_nil)⟩)⟩)⟩)
theorem zoi_X7 : ∀ w ∈ [Cond.methodLink RX7 3 objectInit, .instanceMethod objectInit, .code objectInit ⟨#[0xb1]⟩ 1 none], w ∈ wsL_law := (List.forall_mem_cons.mpr ⟨(zm_4 _ (List.mem_of_getElem? (i := 3) rfl)), (List.forall_mem_cons.mpr ⟨(zm_1 _ (List.mem_of_getElem? (i := 10) rfl)), (List.forall_mem_cons.mpr ⟨(zm_1 _ (List.mem_of_getElem? (i := 11) rfl)), (fun _ h => absurd h List.not_mem_nil)⟩)⟩)⟩)
theorem zoi_X8 : ∀ w ∈ [Cond.methodLink RX8 3 objectInit, .instanceMethod objectInit, .code objectInit ⟨#[0xb1]⟩ 1 none], w ∈ wsL_law := (List.forall_mem_cons.mpr ⟨(zm_3 _ (List.mem_of_getElem? (i := 12) rfl)), (List.forall_mem_cons.mpr ⟨(zm_1 _ (List.mem_of_getElem? (i := 10) rfl)), (List.forall_mem_cons.mpr ⟨(zm_1 _ (List.mem_of_getElem? (i := 11) rfl)), (fun _ h => absurd h List.not_mem_nil)⟩)⟩)⟩)
theorem zoi_X9 : ∀ w ∈ [Cond.methodLink RX9 3 objectInit, .instanceMethod objectInit, .code objectInit ⟨#[0xb1]⟩ 1 none], w ∈ wsL_law := (List.forall_mem_cons.mpr ⟨(zm_6 _ (List.mem_of_getElem? (i := 17) rfl)), (List.forall_mem_cons.mpr ⟨(zm_1 _ (List.mem_of_getElem? (i := 10) rfl)), (List.forall_mem_cons.mpr ⟨(zm_1 _ (List.mem_of_getElem? (i := 11) rfl)), (fun _ h => absurd h List.not_mem_nil)⟩)⟩)⟩)
theorem zra_int (U : State) (cA cB : ClassId) (h1 : va_RA U cA .int) (h2 : va_RA U cB .int) : cA = cB := Option.some.inj ((show U.vm.findClass _ = some cA from h1).symm.trans h2)
theorem zra_boolean (U : State) (cA cB : ClassId) (h1 : va_RA U cA .boolean) (h2 : va_RA U cB .boolean) : cA = cB := Option.some.inj ((show U.vm.findClass _ = some cA from h1).symm.trans h2)
theorem zra_byte (U : State) (cA cB : ClassId) (h1 : va_RA U cA .byte) (h2 : va_RA U cB .byte) : cA = cB := Option.some.inj ((show U.vm.findClass _ = some cA from h1).symm.trans h2)
theorem zra_long (U : State) (cA cB : ClassId) (h1 : va_RA U cA .long) (h2 : va_RA U cB .long) : cA = cB := Option.some.inj ((show U.vm.findClass _ = some cA from h1).symm.trans h2)
theorem dX8_init_0 : decode cX8_init 0 = .ok (.aload_n 0, 1) := by decide +kernel
theorem dX8_init_1 : decode cX8_init 1 = .ok (.invokespecial 3, 3) := by decide +kernel
theorem dX8_init_4 : decode cX8_init 4 = .ok (.aload_n 0, 1) := by decide +kernel
theorem dX8_init_5 : decode cX8_init 5 = .ok (.sipush 300, 3) := by decide +kernel
theorem dX8_init_8 : decode cX8_init 8 = .ok (.newarray .int, 2) := by decide +kernel
theorem dX8_init_10 : decode cX8_init 10 = .ok (.putfield 9, 3) := by decide +kernel
theorem dX8_init_13 : decode cX8_init 13 = .ok (.return_, 1) := by decide +kernel
set_option maxRecDepth 100000 in
set_option maxHeartbeats 4000000 in
theorem ci_X8 (E : ZEv) (h0 : Nat) : zCI (S := Nat → Nat) E yX8_init cX8_init 1 0 1 300 [.ref h0] [(h0, .inr (8, [.null, .int 0]))] (fun _ => True) (fun u => [(h0, .inr (8, [.ref (u 1), .int 0])), ((u 1), .inl (E.2.2.2 0, 300, zzero 0))]) := by
  refine zci_of (L0 := [(0, .ref h0)]) (by decide) rfl rfl (Nat.le_of_ble_eq_true rfl) (fun G Q A p e s m args below meth c h hret => ?_)
  have h : zKu E G (zrk 0 1 300) Q A cX8_init RX8 1 "<init>" p e s m args below meth c := h
  refine zk_aload_n h dX8_init_0 0 rfl rfl ?_
  refine zk_obj h zoi_X8 ⟨Nat.le_of_ble_eq_true rfl, Nat.le_of_ble_eq_true rfl⟩ (Nat.le_of_ble_eq_true rfl) dX8_init_1 ?_
  refine zk_aload_n h dX8_init_4 0 rfl rfl ?_
  refine zk_sipush (v := 300) h dX8_init_5 (by decide) ?_
  refine zk_newa (at' := .int) (t := 0) (ty := .int) (N' := 300) h rfl rfl (zm_3 _ (List.mem_of_getElem? (i := 13) rfl)) (fun _ => rfl) zra_int (by decide) (by decide) (Nat.le_of_ble_eq_true rfl) ⟨Nat.le_of_ble_eq_true rfl, Nat.le_of_ble_eq_true rfl⟩ dX8_init_8 (fun q8 => ?_)
  refine zk_ws (ws' := [(h0, .inr (8, [.null, .int 0])), (q8, .inl (E.2.2.2 0, 300, zzero 0))]) h rfl ?_
  refine zk_putF (q0 := 0) (ws' := [(h0, .inr (8, [.ref q8, .int 0])), (q8, .inl (E.2.2.2 0, 300, zzero 0))]) h zff_X8_9 rfl rfl rfl (Nat.le_of_ble_eq_true rfl) rfl dX8_init_10 ?_
  exact hret (fun k => [h0, q8].getD k 0) _ _ trivial dX8_init_13
theorem dX0_init_0 : decode cX0_init 0 = .ok (.aload_n 0, 1) := by decide +kernel
theorem dX0_init_1 : decode cX0_init 1 = .ok (.invokespecial 3, 3) := by decide +kernel
theorem dX0_init_4 : decode cX0_init 4 = .ok (.aload_n 0, 1) := by decide +kernel
theorem dX0_init_5 : decode cX0_init 5 = .ok (.bipush 20, 2) := by decide +kernel
theorem dX0_init_7 : decode cX0_init 7 = .ok (.newarray .int, 2) := by decide +kernel
theorem dX0_init_9 : decode cX0_init 9 = .ok (.putfield 9, 3) := by decide +kernel
theorem dX0_init_12 : decode cX0_init 12 = .ok (.aload_n 0, 1) := by decide +kernel
theorem dX0_init_13 : decode cX0_init 13 = .ok (.bipush 20, 2) := by decide +kernel
theorem dX0_init_15 : decode cX0_init 15 = .ok (.newarray .int, 2) := by decide +kernel
theorem dX0_init_17 : decode cX0_init 17 = .ok (.putfield 15, 3) := by decide +kernel
theorem dX0_init_20 : decode cX0_init 20 = .ok (.aload_n 0, 1) := by decide +kernel
theorem dX0_init_21 : decode cX0_init 21 = .ok (.sipush 400, 3) := by decide +kernel
theorem dX0_init_24 : decode cX0_init 24 = .ok (.newarray .int, 2) := by decide +kernel
theorem dX0_init_26 : decode cX0_init 26 = .ok (.putfield 18, 3) := by decide +kernel
theorem dX0_init_29 : decode cX0_init 29 = .ok (.aload_n 0, 1) := by decide +kernel
theorem dX0_init_30 : decode cX0_init 30 = .ok (.bipush 40, 2) := by decide +kernel
theorem dX0_init_32 : decode cX0_init 32 = .ok (.newarray .int, 2) := by decide +kernel
theorem dX0_init_34 : decode cX0_init 34 = .ok (.putfield 21, 3) := by decide +kernel
theorem dX0_init_37 : decode cX0_init 37 = .ok (.aload_n 0, 1) := by decide +kernel
theorem dX0_init_38 : decode cX0_init 38 = .ok (.bipush 20, 2) := by decide +kernel
theorem dX0_init_40 : decode cX0_init 40 = .ok (.newarray .int, 2) := by decide +kernel
theorem dX0_init_42 : decode cX0_init 42 = .ok (.putfield 24, 3) := by decide +kernel
theorem dX0_init_45 : decode cX0_init 45 = .ok (.aload_n 0, 1) := by decide +kernel
theorem dX0_init_46 : decode cX0_init 46 = .ok (.bipush 20, 2) := by decide +kernel
theorem dX0_init_48 : decode cX0_init 48 = .ok (.newarray .int, 2) := by decide +kernel
theorem dX0_init_50 : decode cX0_init 50 = .ok (.putfield 27, 3) := by decide +kernel
theorem dX0_init_53 : decode cX0_init 53 = .ok (.aload_n 0, 1) := by decide +kernel
theorem dX0_init_54 : decode cX0_init 54 = .ok (.bipush 20, 2) := by decide +kernel
theorem dX0_init_56 : decode cX0_init 56 = .ok (.newarray .int, 2) := by decide +kernel
theorem dX0_init_58 : decode cX0_init 58 = .ok (.putfield 30, 3) := by decide +kernel
theorem dX0_init_61 : decode cX0_init 61 = .ok (.return_, 1) := by decide +kernel
set_option maxRecDepth 100000 in
set_option maxHeartbeats 4000000 in
theorem ci_X0 (E : ZEv) (h0 : Nat) : zCI (S := Nat → Nat) E yX0_init cX0_init 1 0 7 540 [.ref h0] [(h0, .inr (0, [.null, .null, .null, .null, .null, .null, .null, .int 0, .int 0, .int 0, .int 0, .int 0]))] (fun _ => True) (fun u => [(h0, .inr (0, [.ref (u 1), .ref (u 2), .ref (u 3), .ref (u 4), .ref (u 5), .ref (u 6), .ref (u 7), .int 0, .int 0, .int 0, .int 0, .int 0])), ((u 1), .inl (E.2.2.2 0, 20, zzero 0)), ((u 2), .inl (E.2.2.2 0, 20, zzero 0)), ((u 3), .inl (E.2.2.2 0, 400, zzero 0)), ((u 4), .inl (E.2.2.2 0, 40, zzero 0)), ((u 5), .inl (E.2.2.2 0, 20, zzero 0)), ((u 6), .inl (E.2.2.2 0, 20, zzero 0)), ((u 7), .inl (E.2.2.2 0, 20, zzero 0))]) := by
  refine zci_of (L0 := [(0, .ref h0)]) (by decide) rfl rfl (Nat.le_of_ble_eq_true rfl) (fun G Q A p e s m args below meth c h hret => ?_)
  have h : zKu E G (zrk 0 7 540) Q A cX0_init RX0 1 "<init>" p e s m args below meth c := h
  refine zk_aload_n h dX0_init_0 0 rfl rfl ?_
  refine zk_obj h zoi_X0 ⟨Nat.le_of_ble_eq_true rfl, Nat.le_of_ble_eq_true rfl⟩ (Nat.le_of_ble_eq_true rfl) dX0_init_1 ?_
  refine zk_aload_n h dX0_init_4 0 rfl rfl ?_
  refine zk_bipush (v := 20) h dX0_init_5 (by decide) ?_
  refine zk_newa (at' := .int) (t := 0) (ty := .int) (N' := 20) h rfl rfl (zm_3 _ (List.mem_of_getElem? (i := 13) rfl)) (fun _ => rfl) zra_int (by decide) (by decide) (Nat.le_of_ble_eq_true rfl) ⟨Nat.le_of_ble_eq_true rfl, Nat.le_of_ble_eq_true rfl⟩ dX0_init_7 (fun q7 => ?_)
  refine zk_ws (ws' := [(h0, .inr (0, [.null, .null, .null, .null, .null, .null, .null, .int 0, .int 0, .int 0, .int 0, .int 0])), (q7, .inl (E.2.2.2 0, 20, zzero 0))]) h rfl ?_
  refine zk_putF (q0 := 0) (ws' := [(h0, .inr (0, [.ref q7, .null, .null, .null, .null, .null, .null, .int 0, .int 0, .int 0, .int 0, .int 0])), (q7, .inl (E.2.2.2 0, 20, zzero 0))]) h zff_X0_9 rfl rfl rfl (Nat.le_of_ble_eq_true rfl) rfl dX0_init_9 ?_
  refine zk_aload_n h dX0_init_12 0 rfl rfl ?_
  refine zk_bipush (v := 20) h dX0_init_13 (by decide) ?_
  refine zk_newa (at' := .int) (t := 0) (ty := .int) (N' := 20) h rfl rfl (zm_3 _ (List.mem_of_getElem? (i := 13) rfl)) (fun _ => rfl) zra_int (by decide) (by decide) (Nat.le_of_ble_eq_true rfl) ⟨Nat.le_of_ble_eq_true rfl, Nat.le_of_ble_eq_true rfl⟩ dX0_init_15 (fun q15 => ?_)
  refine zk_ws (ws' := [(h0, .inr (0, [.ref q7, .null, .null, .null, .null, .null, .null, .int 0, .int 0, .int 0, .int 0, .int 0])), (q7, .inl (E.2.2.2 0, 20, zzero 0)), (q15, .inl (E.2.2.2 0, 20, zzero 0))]) h rfl ?_
  refine zk_putF (q0 := 0) (ws' := [(h0, .inr (0, [.ref q7, .ref q15, .null, .null, .null, .null, .null, .int 0, .int 0, .int 0, .int 0, .int 0])), (q7, .inl (E.2.2.2 0, 20, zzero 0)), (q15, .inl (E.2.2.2 0, 20, zzero 0))]) h zff_X0_15 rfl rfl rfl (Nat.le_of_ble_eq_true rfl) rfl dX0_init_17 ?_
  refine zk_aload_n h dX0_init_20 0 rfl rfl ?_
  refine zk_sipush (v := 400) h dX0_init_21 (by decide) ?_
  refine zk_newa (at' := .int) (t := 0) (ty := .int) (N' := 400) h rfl rfl (zm_3 _ (List.mem_of_getElem? (i := 13) rfl)) (fun _ => rfl) zra_int (by decide) (by decide) (Nat.le_of_ble_eq_true rfl) ⟨Nat.le_of_ble_eq_true rfl, Nat.le_of_ble_eq_true rfl⟩ dX0_init_24 (fun q24 => ?_)
  refine zk_ws (ws' := [(h0, .inr (0, [.ref q7, .ref q15, .null, .null, .null, .null, .null, .int 0, .int 0, .int 0, .int 0, .int 0])), (q7, .inl (E.2.2.2 0, 20, zzero 0)), (q15, .inl (E.2.2.2 0, 20, zzero 0)), (q24, .inl (E.2.2.2 0, 400, zzero 0))]) h rfl ?_
  refine zk_putF (q0 := 0) (ws' := [(h0, .inr (0, [.ref q7, .ref q15, .ref q24, .null, .null, .null, .null, .int 0, .int 0, .int 0, .int 0, .int 0])), (q7, .inl (E.2.2.2 0, 20, zzero 0)), (q15, .inl (E.2.2.2 0, 20, zzero 0)), (q24, .inl (E.2.2.2 0, 400, zzero 0))]) h zff_X0_18 rfl rfl rfl (Nat.le_of_ble_eq_true rfl) rfl dX0_init_26 ?_
  refine zk_aload_n h dX0_init_29 0 rfl rfl ?_
  refine zk_bipush (v := 40) h dX0_init_30 (by decide) ?_
  refine zk_newa (at' := .int) (t := 0) (ty := .int) (N' := 40) h rfl rfl (zm_3 _ (List.mem_of_getElem? (i := 13) rfl)) (fun _ => rfl) zra_int (by decide) (by decide) (Nat.le_of_ble_eq_true rfl) ⟨Nat.le_of_ble_eq_true rfl, Nat.le_of_ble_eq_true rfl⟩ dX0_init_32 (fun q32 => ?_)
  refine zk_ws (ws' := [(h0, .inr (0, [.ref q7, .ref q15, .ref q24, .null, .null, .null, .null, .int 0, .int 0, .int 0, .int 0, .int 0])), (q7, .inl (E.2.2.2 0, 20, zzero 0)), (q15, .inl (E.2.2.2 0, 20, zzero 0)), (q24, .inl (E.2.2.2 0, 400, zzero 0)), (q32, .inl (E.2.2.2 0, 40, zzero 0))]) h rfl ?_
  refine zk_putF (q0 := 0) (ws' := [(h0, .inr (0, [.ref q7, .ref q15, .ref q24, .ref q32, .null, .null, .null, .int 0, .int 0, .int 0, .int 0, .int 0])), (q7, .inl (E.2.2.2 0, 20, zzero 0)), (q15, .inl (E.2.2.2 0, 20, zzero 0)), (q24, .inl (E.2.2.2 0, 400, zzero 0)), (q32, .inl (E.2.2.2 0, 40, zzero 0))]) h zff_X0_21 rfl rfl rfl (Nat.le_of_ble_eq_true rfl) rfl dX0_init_34 ?_
  refine zk_aload_n h dX0_init_37 0 rfl rfl ?_
  refine zk_bipush (v := 20) h dX0_init_38 (by decide) ?_
  refine zk_newa (at' := .int) (t := 0) (ty := .int) (N' := 20) h rfl rfl (zm_3 _ (List.mem_of_getElem? (i := 13) rfl)) (fun _ => rfl) zra_int (by decide) (by decide) (Nat.le_of_ble_eq_true rfl) ⟨Nat.le_of_ble_eq_true rfl, Nat.le_of_ble_eq_true rfl⟩ dX0_init_40 (fun q40 => ?_)
  refine zk_ws (ws' := [(h0, .inr (0, [.ref q7, .ref q15, .ref q24, .ref q32, .null, .null, .null, .int 0, .int 0, .int 0, .int 0, .int 0])), (q7, .inl (E.2.2.2 0, 20, zzero 0)), (q15, .inl (E.2.2.2 0, 20, zzero 0)), (q24, .inl (E.2.2.2 0, 400, zzero 0)), (q32, .inl (E.2.2.2 0, 40, zzero 0)), (q40, .inl (E.2.2.2 0, 20, zzero 0))]) h rfl ?_
  refine zk_putF (q0 := 0) (ws' := [(h0, .inr (0, [.ref q7, .ref q15, .ref q24, .ref q32, .ref q40, .null, .null, .int 0, .int 0, .int 0, .int 0, .int 0])), (q7, .inl (E.2.2.2 0, 20, zzero 0)), (q15, .inl (E.2.2.2 0, 20, zzero 0)), (q24, .inl (E.2.2.2 0, 400, zzero 0)), (q32, .inl (E.2.2.2 0, 40, zzero 0)), (q40, .inl (E.2.2.2 0, 20, zzero 0))]) h zff_X0_24 rfl rfl rfl (Nat.le_of_ble_eq_true rfl) rfl dX0_init_42 ?_
  refine zk_aload_n h dX0_init_45 0 rfl rfl ?_
  refine zk_bipush (v := 20) h dX0_init_46 (by decide) ?_
  refine zk_newa (at' := .int) (t := 0) (ty := .int) (N' := 20) h rfl rfl (zm_3 _ (List.mem_of_getElem? (i := 13) rfl)) (fun _ => rfl) zra_int (by decide) (by decide) (Nat.le_of_ble_eq_true rfl) ⟨Nat.le_of_ble_eq_true rfl, Nat.le_of_ble_eq_true rfl⟩ dX0_init_48 (fun q48 => ?_)
  refine zk_ws (ws' := [(h0, .inr (0, [.ref q7, .ref q15, .ref q24, .ref q32, .ref q40, .null, .null, .int 0, .int 0, .int 0, .int 0, .int 0])), (q7, .inl (E.2.2.2 0, 20, zzero 0)), (q15, .inl (E.2.2.2 0, 20, zzero 0)), (q24, .inl (E.2.2.2 0, 400, zzero 0)), (q32, .inl (E.2.2.2 0, 40, zzero 0)), (q40, .inl (E.2.2.2 0, 20, zzero 0)), (q48, .inl (E.2.2.2 0, 20, zzero 0))]) h rfl ?_
  refine zk_putF (q0 := 0) (ws' := [(h0, .inr (0, [.ref q7, .ref q15, .ref q24, .ref q32, .ref q40, .ref q48, .null, .int 0, .int 0, .int 0, .int 0, .int 0])), (q7, .inl (E.2.2.2 0, 20, zzero 0)), (q15, .inl (E.2.2.2 0, 20, zzero 0)), (q24, .inl (E.2.2.2 0, 400, zzero 0)), (q32, .inl (E.2.2.2 0, 40, zzero 0)), (q40, .inl (E.2.2.2 0, 20, zzero 0)), (q48, .inl (E.2.2.2 0, 20, zzero 0))]) h zff_X0_27 rfl rfl rfl (Nat.le_of_ble_eq_true rfl) rfl dX0_init_50 ?_
  refine zk_aload_n h dX0_init_53 0 rfl rfl ?_
  refine zk_bipush (v := 20) h dX0_init_54 (by decide) ?_
  refine zk_newa (at' := .int) (t := 0) (ty := .int) (N' := 20) h rfl rfl (zm_3 _ (List.mem_of_getElem? (i := 13) rfl)) (fun _ => rfl) zra_int (by decide) (by decide) (Nat.le_of_ble_eq_true rfl) ⟨Nat.le_of_ble_eq_true rfl, Nat.le_of_ble_eq_true rfl⟩ dX0_init_56 (fun q56 => ?_)
  refine zk_ws (ws' := [(h0, .inr (0, [.ref q7, .ref q15, .ref q24, .ref q32, .ref q40, .ref q48, .null, .int 0, .int 0, .int 0, .int 0, .int 0])), (q7, .inl (E.2.2.2 0, 20, zzero 0)), (q15, .inl (E.2.2.2 0, 20, zzero 0)), (q24, .inl (E.2.2.2 0, 400, zzero 0)), (q32, .inl (E.2.2.2 0, 40, zzero 0)), (q40, .inl (E.2.2.2 0, 20, zzero 0)), (q48, .inl (E.2.2.2 0, 20, zzero 0)), (q56, .inl (E.2.2.2 0, 20, zzero 0))]) h rfl ?_
  refine zk_putF (q0 := 0) (ws' := [(h0, .inr (0, [.ref q7, .ref q15, .ref q24, .ref q32, .ref q40, .ref q48, .ref q56, .int 0, .int 0, .int 0, .int 0, .int 0])), (q7, .inl (E.2.2.2 0, 20, zzero 0)), (q15, .inl (E.2.2.2 0, 20, zzero 0)), (q24, .inl (E.2.2.2 0, 400, zzero 0)), (q32, .inl (E.2.2.2 0, 40, zzero 0)), (q40, .inl (E.2.2.2 0, 20, zzero 0)), (q48, .inl (E.2.2.2 0, 20, zzero 0)), (q56, .inl (E.2.2.2 0, 20, zzero 0))]) h zff_X0_30 rfl rfl rfl (Nat.le_of_ble_eq_true rfl) rfl dX0_init_58 ?_
  exact hret (fun k => [h0, q7, q15, q24, q32, q40, q48, q56].getD k 0) _ _ trivial dX0_init_61
theorem dX7_init_0 : decode cX7_init 0 = .ok (.aload_n 0, 1) := by decide +kernel
theorem dX7_init_1 : decode cX7_init 1 = .ok (.invokespecial 3, 3) := by decide +kernel
theorem dX7_init_4 : decode cX7_init 4 = .ok (.aload_n 0, 1) := by decide +kernel
theorem dX7_init_5 : decode cX7_init 5 = .ok (.sipush 240, 3) := by decide +kernel
theorem dX7_init_8 : decode cX7_init 8 = .ok (.newarray .int, 2) := by decide +kernel
theorem dX7_init_10 : decode cX7_init 10 = .ok (.putfield 9, 3) := by decide +kernel
theorem dX7_init_13 : decode cX7_init 13 = .ok (.aload_n 0, 1) := by decide +kernel
theorem dX7_init_14 : decode cX7_init 14 = .ok (.bipush 24, 2) := by decide +kernel
theorem dX7_init_16 : decode cX7_init 16 = .ok (.newarray .int, 2) := by decide +kernel
theorem dX7_init_18 : decode cX7_init 18 = .ok (.putfield 15, 3) := by decide +kernel
theorem dX7_init_21 : decode cX7_init 21 = .ok (.aload_n 0, 1) := by decide +kernel
theorem dX7_init_22 : decode cX7_init 22 = .ok (.bipush 24, 2) := by decide +kernel
theorem dX7_init_24 : decode cX7_init 24 = .ok (.newarray .int, 2) := by decide +kernel
theorem dX7_init_26 : decode cX7_init 26 = .ok (.putfield 18, 3) := by decide +kernel
theorem dX7_init_29 : decode cX7_init 29 = .ok (.aload_n 0, 1) := by decide +kernel
theorem dX7_init_30 : decode cX7_init 30 = .ok (.bipush 24, 2) := by decide +kernel
theorem dX7_init_32 : decode cX7_init 32 = .ok (.newarray .int, 2) := by decide +kernel
theorem dX7_init_34 : decode cX7_init 34 = .ok (.putfield 21, 3) := by decide +kernel
theorem dX7_init_37 : decode cX7_init 37 = .ok (.aload_n 0, 1) := by decide +kernel
theorem dX7_init_38 : decode cX7_init 38 = .ok (.bipush 6, 2) := by decide +kernel
theorem dX7_init_40 : decode cX7_init 40 = .ok (.newarray .int, 2) := by decide +kernel
theorem dX7_init_42 : decode cX7_init 42 = .ok (.putfield 24, 3) := by decide +kernel
theorem dX7_init_45 : decode cX7_init 45 = .ok (.return_, 1) := by decide +kernel
set_option maxRecDepth 100000 in
set_option maxHeartbeats 4000000 in
theorem ci_X7 (E : ZEv) (h0 : Nat) : zCI (S := Nat → Nat) E yX7_init cX7_init 1 0 5 318 [.ref h0] [(h0, .inr (7, [.null, .null, .null, .null, .null, .int 0, .int 0, .int 0, .int 0, .int 0]))] (fun _ => True) (fun u => [(h0, .inr (7, [.ref (u 1), .ref (u 2), .ref (u 3), .ref (u 4), .ref (u 5), .int 0, .int 0, .int 0, .int 0, .int 0])), ((u 1), .inl (E.2.2.2 0, 240, zzero 0)), ((u 2), .inl (E.2.2.2 0, 24, zzero 0)), ((u 3), .inl (E.2.2.2 0, 24, zzero 0)), ((u 4), .inl (E.2.2.2 0, 24, zzero 0)), ((u 5), .inl (E.2.2.2 0, 6, zzero 0))]) := by
  refine zci_of (L0 := [(0, .ref h0)]) (by decide) rfl rfl (Nat.le_of_ble_eq_true rfl) (fun G Q A p e s m args below meth c h hret => ?_)
  have h : zKu E G (zrk 0 5 318) Q A cX7_init RX7 1 "<init>" p e s m args below meth c := h
  refine zk_aload_n h dX7_init_0 0 rfl rfl ?_
  refine zk_obj h zoi_X7 ⟨Nat.le_of_ble_eq_true rfl, Nat.le_of_ble_eq_true rfl⟩ (Nat.le_of_ble_eq_true rfl) dX7_init_1 ?_
  refine zk_aload_n h dX7_init_4 0 rfl rfl ?_
  refine zk_sipush (v := 240) h dX7_init_5 (by decide) ?_
  refine zk_newa (at' := .int) (t := 0) (ty := .int) (N' := 240) h rfl rfl (zm_3 _ (List.mem_of_getElem? (i := 13) rfl)) (fun _ => rfl) zra_int (by decide) (by decide) (Nat.le_of_ble_eq_true rfl) ⟨Nat.le_of_ble_eq_true rfl, Nat.le_of_ble_eq_true rfl⟩ dX7_init_8 (fun q8 => ?_)
  refine zk_ws (ws' := [(h0, .inr (7, [.null, .null, .null, .null, .null, .int 0, .int 0, .int 0, .int 0, .int 0])), (q8, .inl (E.2.2.2 0, 240, zzero 0))]) h rfl ?_
  refine zk_putF (q0 := 0) (ws' := [(h0, .inr (7, [.ref q8, .null, .null, .null, .null, .int 0, .int 0, .int 0, .int 0, .int 0])), (q8, .inl (E.2.2.2 0, 240, zzero 0))]) h zff_X7_9 rfl rfl rfl (Nat.le_of_ble_eq_true rfl) rfl dX7_init_10 ?_
  refine zk_aload_n h dX7_init_13 0 rfl rfl ?_
  refine zk_bipush (v := 24) h dX7_init_14 (by decide) ?_
  refine zk_newa (at' := .int) (t := 0) (ty := .int) (N' := 24) h rfl rfl (zm_3 _ (List.mem_of_getElem? (i := 13) rfl)) (fun _ => rfl) zra_int (by decide) (by decide) (Nat.le_of_ble_eq_true rfl) ⟨Nat.le_of_ble_eq_true rfl, Nat.le_of_ble_eq_true rfl⟩ dX7_init_16 (fun q16 => ?_)
  refine zk_ws (ws' := [(h0, .inr (7, [.ref q8, .null, .null, .null, .null, .int 0, .int 0, .int 0, .int 0, .int 0])), (q8, .inl (E.2.2.2 0, 240, zzero 0)), (q16, .inl (E.2.2.2 0, 24, zzero 0))]) h rfl ?_
  refine zk_putF (q0 := 0) (ws' := [(h0, .inr (7, [.ref q8, .ref q16, .null, .null, .null, .int 0, .int 0, .int 0, .int 0, .int 0])), (q8, .inl (E.2.2.2 0, 240, zzero 0)), (q16, .inl (E.2.2.2 0, 24, zzero 0))]) h zff_X7_15 rfl rfl rfl (Nat.le_of_ble_eq_true rfl) rfl dX7_init_18 ?_
  refine zk_aload_n h dX7_init_21 0 rfl rfl ?_
  refine zk_bipush (v := 24) h dX7_init_22 (by decide) ?_
  refine zk_newa (at' := .int) (t := 0) (ty := .int) (N' := 24) h rfl rfl (zm_3 _ (List.mem_of_getElem? (i := 13) rfl)) (fun _ => rfl) zra_int (by decide) (by decide) (Nat.le_of_ble_eq_true rfl) ⟨Nat.le_of_ble_eq_true rfl, Nat.le_of_ble_eq_true rfl⟩ dX7_init_24 (fun q24 => ?_)
  refine zk_ws (ws' := [(h0, .inr (7, [.ref q8, .ref q16, .null, .null, .null, .int 0, .int 0, .int 0, .int 0, .int 0])), (q8, .inl (E.2.2.2 0, 240, zzero 0)), (q16, .inl (E.2.2.2 0, 24, zzero 0)), (q24, .inl (E.2.2.2 0, 24, zzero 0))]) h rfl ?_
  refine zk_putF (q0 := 0) (ws' := [(h0, .inr (7, [.ref q8, .ref q16, .ref q24, .null, .null, .int 0, .int 0, .int 0, .int 0, .int 0])), (q8, .inl (E.2.2.2 0, 240, zzero 0)), (q16, .inl (E.2.2.2 0, 24, zzero 0)), (q24, .inl (E.2.2.2 0, 24, zzero 0))]) h zff_X7_18 rfl rfl rfl (Nat.le_of_ble_eq_true rfl) rfl dX7_init_26 ?_
  refine zk_aload_n h dX7_init_29 0 rfl rfl ?_
  refine zk_bipush (v := 24) h dX7_init_30 (by decide) ?_
  refine zk_newa (at' := .int) (t := 0) (ty := .int) (N' := 24) h rfl rfl (zm_3 _ (List.mem_of_getElem? (i := 13) rfl)) (fun _ => rfl) zra_int (by decide) (by decide) (Nat.le_of_ble_eq_true rfl) ⟨Nat.le_of_ble_eq_true rfl, Nat.le_of_ble_eq_true rfl⟩ dX7_init_32 (fun q32 => ?_)
  refine zk_ws (ws' := [(h0, .inr (7, [.ref q8, .ref q16, .ref q24, .null, .null, .int 0, .int 0, .int 0, .int 0, .int 0])), (q8, .inl (E.2.2.2 0, 240, zzero 0)), (q16, .inl (E.2.2.2 0, 24, zzero 0)), (q24, .inl (E.2.2.2 0, 24, zzero 0)), (q32, .inl (E.2.2.2 0, 24, zzero 0))]) h rfl ?_
  refine zk_putF (q0 := 0) (ws' := [(h0, .inr (7, [.ref q8, .ref q16, .ref q24, .ref q32, .null, .int 0, .int 0, .int 0, .int 0, .int 0])), (q8, .inl (E.2.2.2 0, 240, zzero 0)), (q16, .inl (E.2.2.2 0, 24, zzero 0)), (q24, .inl (E.2.2.2 0, 24, zzero 0)), (q32, .inl (E.2.2.2 0, 24, zzero 0))]) h zff_X7_21 rfl rfl rfl (Nat.le_of_ble_eq_true rfl) rfl dX7_init_34 ?_
  refine zk_aload_n h dX7_init_37 0 rfl rfl ?_
  refine zk_bipush (v := 6) h dX7_init_38 (by decide) ?_
  refine zk_newa (at' := .int) (t := 0) (ty := .int) (N' := 6) h rfl rfl (zm_3 _ (List.mem_of_getElem? (i := 13) rfl)) (fun _ => rfl) zra_int (by decide) (by decide) (Nat.le_of_ble_eq_true rfl) ⟨Nat.le_of_ble_eq_true rfl, Nat.le_of_ble_eq_true rfl⟩ dX7_init_40 (fun q40 => ?_)
  refine zk_ws (ws' := [(h0, .inr (7, [.ref q8, .ref q16, .ref q24, .ref q32, .null, .int 0, .int 0, .int 0, .int 0, .int 0])), (q8, .inl (E.2.2.2 0, 240, zzero 0)), (q16, .inl (E.2.2.2 0, 24, zzero 0)), (q24, .inl (E.2.2.2 0, 24, zzero 0)), (q32, .inl (E.2.2.2 0, 24, zzero 0)), (q40, .inl (E.2.2.2 0, 6, zzero 0))]) h rfl ?_
  refine zk_putF (q0 := 0) (ws' := [(h0, .inr (7, [.ref q8, .ref q16, .ref q24, .ref q32, .ref q40, .int 0, .int 0, .int 0, .int 0, .int 0])), (q8, .inl (E.2.2.2 0, 240, zzero 0)), (q16, .inl (E.2.2.2 0, 24, zzero 0)), (q24, .inl (E.2.2.2 0, 24, zzero 0)), (q32, .inl (E.2.2.2 0, 24, zzero 0)), (q40, .inl (E.2.2.2 0, 6, zzero 0))]) h zff_X7_24 rfl rfl rfl (Nat.le_of_ble_eq_true rfl) rfl dX7_init_42 ?_
  exact hret (fun k => [h0, q8, q16, q24, q32, q40].getD k 0) _ _ trivial dX7_init_45
theorem dX4_init_0 : decode cX4_init 0 = .ok (.aload_n 0, 1) := by decide +kernel
theorem dX4_init_1 : decode cX4_init 1 = .ok (.invokespecial 3, 3) := by decide +kernel
theorem dX4_init_4 : decode cX4_init 4 = .ok (.aload_n 0, 1) := by decide +kernel
theorem dX4_init_5 : decode cX4_init 5 = .ok (.bipush 28, 2) := by decide +kernel
theorem dX4_init_7 : decode cX4_init 7 = .ok (.newarray .int, 2) := by decide +kernel
theorem dX4_init_9 : decode cX4_init 9 = .ok (.putfield 9, 3) := by decide +kernel
theorem dX4_init_12 : decode cX4_init 12 = .ok (.aload_n 0, 1) := by decide +kernel
theorem dX4_init_13 : decode cX4_init 13 = .ok (.iconst 4, 1) := by decide +kernel
theorem dX4_init_14 : decode cX4_init 14 = .ok (.newarray .int, 2) := by decide +kernel
theorem dX4_init_16 : decode cX4_init 16 = .ok (.putfield 15, 3) := by decide +kernel
theorem dX4_init_19 : decode cX4_init 19 = .ok (.return_, 1) := by decide +kernel
set_option maxRecDepth 100000 in
set_option maxHeartbeats 4000000 in
theorem ci_X4 (E : ZEv) (h0 : Nat) : zCI (S := Nat → Nat) E yX4_init cX4_init 1 0 2 32 [.ref h0] [(h0, .inr (4, [.null, .null, .int 0]))] (fun _ => True) (fun u => [(h0, .inr (4, [.ref (u 1), .ref (u 2), .int 0])), ((u 1), .inl (E.2.2.2 0, 28, zzero 0)), ((u 2), .inl (E.2.2.2 0, 4, zzero 0))]) := by
  refine zci_of (L0 := [(0, .ref h0)]) (by decide) rfl rfl (Nat.le_of_ble_eq_true rfl) (fun G Q A p e s m args below meth c h hret => ?_)
  have h : zKu E G (zrk 0 2 32) Q A cX4_init RX4 1 "<init>" p e s m args below meth c := h
  refine zk_aload_n h dX4_init_0 0 rfl rfl ?_
  refine zk_obj h zoi_X4 ⟨Nat.le_of_ble_eq_true rfl, Nat.le_of_ble_eq_true rfl⟩ (Nat.le_of_ble_eq_true rfl) dX4_init_1 ?_
  refine zk_aload_n h dX4_init_4 0 rfl rfl ?_
  refine zk_bipush (v := 28) h dX4_init_5 (by decide) ?_
  refine zk_newa (at' := .int) (t := 0) (ty := .int) (N' := 28) h rfl rfl (zm_3 _ (List.mem_of_getElem? (i := 13) rfl)) (fun _ => rfl) zra_int (by decide) (by decide) (Nat.le_of_ble_eq_true rfl) ⟨Nat.le_of_ble_eq_true rfl, Nat.le_of_ble_eq_true rfl⟩ dX4_init_7 (fun q7 => ?_)
  refine zk_ws (ws' := [(h0, .inr (4, [.null, .null, .int 0])), (q7, .inl (E.2.2.2 0, 28, zzero 0))]) h rfl ?_
  refine zk_putF (q0 := 0) (ws' := [(h0, .inr (4, [.ref q7, .null, .int 0])), (q7, .inl (E.2.2.2 0, 28, zzero 0))]) h zff_X4_9 rfl rfl rfl (Nat.le_of_ble_eq_true rfl) rfl dX4_init_9 ?_
  refine zk_aload_n h dX4_init_12 0 rfl rfl ?_
  refine zk_iconst (v := 4) h dX4_init_13 (by decide) ?_
  refine zk_newa (at' := .int) (t := 0) (ty := .int) (N' := 4) h rfl rfl (zm_3 _ (List.mem_of_getElem? (i := 13) rfl)) (fun _ => rfl) zra_int (by decide) (by decide) (Nat.le_of_ble_eq_true rfl) ⟨Nat.le_of_ble_eq_true rfl, Nat.le_of_ble_eq_true rfl⟩ dX4_init_14 (fun q14 => ?_)
  refine zk_ws (ws' := [(h0, .inr (4, [.ref q7, .null, .int 0])), (q7, .inl (E.2.2.2 0, 28, zzero 0)), (q14, .inl (E.2.2.2 0, 4, zzero 0))]) h rfl ?_
  refine zk_putF (q0 := 0) (ws' := [(h0, .inr (4, [.ref q7, .ref q14, .int 0])), (q7, .inl (E.2.2.2 0, 28, zzero 0)), (q14, .inl (E.2.2.2 0, 4, zzero 0))]) h zff_X4_15 rfl rfl rfl (Nat.le_of_ble_eq_true rfl) rfl dX4_init_16 ?_
  exact hret (fun k => [h0, q7, q14].getD k 0) _ _ trivial dX4_init_19
theorem dX1_init_0 : decode cX1_init 0 = .ok (.aload_n 0, 1) := by decide +kernel
theorem dX1_init_1 : decode cX1_init 1 = .ok (.invokespecial 3, 3) := by decide +kernel
theorem dX1_init_4 : decode cX1_init 4 = .ok (.aload_n 0, 1) := by decide +kernel
theorem dX1_init_5 : decode cX1_init 5 = .ok (.iconst 3, 1) := by decide +kernel
theorem dX1_init_6 : decode cX1_init 6 = .ok (.newarray .int, 2) := by decide +kernel
theorem dX1_init_8 : decode cX1_init 8 = .ok (.putfield 9, 3) := by decide +kernel
theorem dX1_init_11 : decode cX1_init 11 = .ok (.aload_n 0, 1) := by decide +kernel
theorem dX1_init_12 : decode cX1_init 12 = .ok (.sipush 400, 3) := by decide +kernel
theorem dX1_init_15 : decode cX1_init 15 = .ok (.newarray .int, 2) := by decide +kernel
theorem dX1_init_17 : decode cX1_init 17 = .ok (.putfield 15, 3) := by decide +kernel
theorem dX1_init_20 : decode cX1_init 20 = .ok (.aload_n 0, 1) := by decide +kernel
theorem dX1_init_21 : decode cX1_init 21 = .ok (.bipush 12, 2) := by decide +kernel
theorem dX1_init_23 : decode cX1_init 23 = .ok (.newarray .int, 2) := by decide +kernel
theorem dX1_init_25 : decode cX1_init 25 = .ok (.putfield 18, 3) := by decide +kernel
theorem dX1_init_28 : decode cX1_init 28 = .ok (.aload_n 0, 1) := by decide +kernel
theorem dX1_init_29 : decode cX1_init 29 = .ok (.bipush 12, 2) := by decide +kernel
theorem dX1_init_31 : decode cX1_init 31 = .ok (.newarray .int, 2) := by decide +kernel
theorem dX1_init_33 : decode cX1_init 33 = .ok (.putfield 21, 3) := by decide +kernel
theorem dX1_init_36 : decode cX1_init 36 = .ok (.aload_n 0, 1) := by decide +kernel
theorem dX1_init_37 : decode cX1_init 37 = .ok (.bipush 12, 2) := by decide +kernel
theorem dX1_init_39 : decode cX1_init 39 = .ok (.newarray .boolean, 2) := by decide +kernel
theorem dX1_init_41 : decode cX1_init 41 = .ok (.putfield 24, 3) := by decide +kernel
theorem dX1_init_44 : decode cX1_init 44 = .ok (.aload_n 0, 1) := by decide +kernel
theorem dX1_init_45 : decode cX1_init 45 = .ok (.bipush 20, 2) := by decide +kernel
theorem dX1_init_47 : decode cX1_init 47 = .ok (.newarray .int, 2) := by decide +kernel
theorem dX1_init_49 : decode cX1_init 49 = .ok (.putfield 28, 3) := by decide +kernel
theorem dX1_init_52 : decode cX1_init 52 = .ok (.aload_n 0, 1) := by decide +kernel
theorem dX1_init_53 : decode cX1_init 53 = .ok (.bipush 20, 2) := by decide +kernel
theorem dX1_init_55 : decode cX1_init 55 = .ok (.newarray .int, 2) := by decide +kernel
theorem dX1_init_57 : decode cX1_init 57 = .ok (.putfield 31, 3) := by decide +kernel
theorem dX1_init_60 : decode cX1_init 60 = .ok (.aload_n 0, 1) := by decide +kernel
theorem dX1_init_61 : decode cX1_init 61 = .ok (.bipush 20, 2) := by decide +kernel
theorem dX1_init_63 : decode cX1_init 63 = .ok (.newarray .int, 2) := by decide +kernel
theorem dX1_init_65 : decode cX1_init 65 = .ok (.putfield 34, 3) := by decide +kernel
theorem dX1_init_68 : decode cX1_init 68 = .ok (.aload_n 0, 1) := by decide +kernel
theorem dX1_init_69 : decode cX1_init 69 = .ok (.bipush 20, 2) := by decide +kernel
theorem dX1_init_71 : decode cX1_init 71 = .ok (.newarray .int, 2) := by decide +kernel
theorem dX1_init_73 : decode cX1_init 73 = .ok (.putfield 37, 3) := by decide +kernel
theorem dX1_init_76 : decode cX1_init 76 = .ok (.aload_n 0, 1) := by decide +kernel
theorem dX1_init_77 : decode cX1_init 77 = .ok (.invokevirtual 40, 3) := by decide +kernel
theorem dX1_init_80 : decode cX1_init 80 = .ok (.return_, 1) := by decide +kernel
set_option maxRecDepth 100000 in
set_option maxHeartbeats 4000000 in
theorem ci_X1 (E : ZEv) (h0 : Nat) : zCI (S := (Nat → Nat) × ZMem) E yX1_init cX1_init 1 3 9 519 [.ref h0] [(h0, .inr (1, [.null, .null, .null, .null, .null, .null, .null, .null, .null, .int 0, .int 0, .int 0]))] (fun u => u.1 0 = h0 ∧ (∀ k, 1000 ≤ k → u.1 k = E.2.2.1 k) ∧ zKH u.2) (fun u => zcls lyH (zad E u.1) u.2) := by
  refine zci_of (L0 := [(0, .ref h0)]) (by decide) rfl rfl (Nat.le_of_ble_eq_true rfl) (fun G Q A p e s m args below meth c h hret => ?_)
  have h : zKu E G (zrk 3 9 519) Q A cX1_init RX1 1 "<init>" p e s m args below meth c := h
  refine zk_aload_n h dX1_init_0 0 rfl rfl ?_
  refine zk_obj h zoi_X1 ⟨Nat.le_of_ble_eq_true rfl, Nat.le_of_ble_eq_true rfl⟩ (Nat.le_of_ble_eq_true rfl) dX1_init_1 ?_
  refine zk_aload_n h dX1_init_4 0 rfl rfl ?_
  refine zk_iconst (v := 3) h dX1_init_5 (by decide) ?_
  refine zk_newa (at' := .int) (t := 0) (ty := .int) (N' := 3) h rfl rfl (zm_3 _ (List.mem_of_getElem? (i := 13) rfl)) (fun _ => rfl) zra_int (by decide) (by decide) (Nat.le_of_ble_eq_true rfl) ⟨Nat.le_of_ble_eq_true rfl, Nat.le_of_ble_eq_true rfl⟩ dX1_init_6 (fun q6 => ?_)
  refine zk_ws (ws' := [(h0, .inr (1, [.null, .null, .null, .null, .null, .null, .null, .null, .null, .int 0, .int 0, .int 0])), (q6, .inl (E.2.2.2 0, 3, zzero 0))]) h rfl ?_
  refine zk_putF (q0 := 0) (ws' := [(h0, .inr (1, [.ref q6, .null, .null, .null, .null, .null, .null, .null, .null, .int 0, .int 0, .int 0])), (q6, .inl (E.2.2.2 0, 3, zzero 0))]) h zff_X1_9 rfl rfl rfl (Nat.le_of_ble_eq_true rfl) rfl dX1_init_8 ?_
  refine zk_aload_n h dX1_init_11 0 rfl rfl ?_
  refine zk_sipush (v := 400) h dX1_init_12 (by decide) ?_
  refine zk_newa (at' := .int) (t := 0) (ty := .int) (N' := 400) h rfl rfl (zm_3 _ (List.mem_of_getElem? (i := 13) rfl)) (fun _ => rfl) zra_int (by decide) (by decide) (Nat.le_of_ble_eq_true rfl) ⟨Nat.le_of_ble_eq_true rfl, Nat.le_of_ble_eq_true rfl⟩ dX1_init_15 (fun q15 => ?_)
  refine zk_ws (ws' := [(h0, .inr (1, [.ref q6, .null, .null, .null, .null, .null, .null, .null, .null, .int 0, .int 0, .int 0])), (q6, .inl (E.2.2.2 0, 3, zzero 0)), (q15, .inl (E.2.2.2 0, 400, zzero 0))]) h rfl ?_
  refine zk_putF (q0 := 0) (ws' := [(h0, .inr (1, [.ref q6, .ref q15, .null, .null, .null, .null, .null, .null, .null, .int 0, .int 0, .int 0])), (q6, .inl (E.2.2.2 0, 3, zzero 0)), (q15, .inl (E.2.2.2 0, 400, zzero 0))]) h zff_X1_15 rfl rfl rfl (Nat.le_of_ble_eq_true rfl) rfl dX1_init_17 ?_
  refine zk_aload_n h dX1_init_20 0 rfl rfl ?_
  refine zk_bipush (v := 12) h dX1_init_21 (by decide) ?_
  refine zk_newa (at' := .int) (t := 0) (ty := .int) (N' := 12) h rfl rfl (zm_3 _ (List.mem_of_getElem? (i := 13) rfl)) (fun _ => rfl) zra_int (by decide) (by decide) (Nat.le_of_ble_eq_true rfl) ⟨Nat.le_of_ble_eq_true rfl, Nat.le_of_ble_eq_true rfl⟩ dX1_init_23 (fun q23 => ?_)
  refine zk_ws (ws' := [(h0, .inr (1, [.ref q6, .ref q15, .null, .null, .null, .null, .null, .null, .null, .int 0, .int 0, .int 0])), (q6, .inl (E.2.2.2 0, 3, zzero 0)), (q15, .inl (E.2.2.2 0, 400, zzero 0)), (q23, .inl (E.2.2.2 0, 12, zzero 0))]) h rfl ?_
  refine zk_putF (q0 := 0) (ws' := [(h0, .inr (1, [.ref q6, .ref q15, .ref q23, .null, .null, .null, .null, .null, .null, .int 0, .int 0, .int 0])), (q6, .inl (E.2.2.2 0, 3, zzero 0)), (q15, .inl (E.2.2.2 0, 400, zzero 0)), (q23, .inl (E.2.2.2 0, 12, zzero 0))]) h zff_X1_18 rfl rfl rfl (Nat.le_of_ble_eq_true rfl) rfl dX1_init_25 ?_
  refine zk_aload_n h dX1_init_28 0 rfl rfl ?_
  refine zk_bipush (v := 12) h dX1_init_29 (by decide) ?_
  refine zk_newa (at' := .int) (t := 0) (ty := .int) (N' := 12) h rfl rfl (zm_3 _ (List.mem_of_getElem? (i := 13) rfl)) (fun _ => rfl) zra_int (by decide) (by decide) (Nat.le_of_ble_eq_true rfl) ⟨Nat.le_of_ble_eq_true rfl, Nat.le_of_ble_eq_true rfl⟩ dX1_init_31 (fun q31 => ?_)
  refine zk_ws (ws' := [(h0, .inr (1, [.ref q6, .ref q15, .ref q23, .null, .null, .null, .null, .null, .null, .int 0, .int 0, .int 0])), (q6, .inl (E.2.2.2 0, 3, zzero 0)), (q15, .inl (E.2.2.2 0, 400, zzero 0)), (q23, .inl (E.2.2.2 0, 12, zzero 0)), (q31, .inl (E.2.2.2 0, 12, zzero 0))]) h rfl ?_
  refine zk_putF (q0 := 0) (ws' := [(h0, .inr (1, [.ref q6, .ref q15, .ref q23, .ref q31, .null, .null, .null, .null, .null, .int 0, .int 0, .int 0])), (q6, .inl (E.2.2.2 0, 3, zzero 0)), (q15, .inl (E.2.2.2 0, 400, zzero 0)), (q23, .inl (E.2.2.2 0, 12, zzero 0)), (q31, .inl (E.2.2.2 0, 12, zzero 0))]) h zff_X1_21 rfl rfl rfl (Nat.le_of_ble_eq_true rfl) rfl dX1_init_33 ?_
  refine zk_aload_n h dX1_init_36 0 rfl rfl ?_
  refine zk_bipush (v := 12) h dX1_init_37 (by decide) ?_
  refine zk_newa (at' := .boolean) (t := 1) (ty := .boolean) (N' := 12) h rfl rfl (zm_4 _ (List.mem_of_getElem? (i := 22) rfl)) (fun _ => rfl) zra_boolean (by decide) (by decide) (Nat.le_of_ble_eq_true rfl) ⟨Nat.le_of_ble_eq_true rfl, Nat.le_of_ble_eq_true rfl⟩ dX1_init_39 (fun q39 => ?_)
  refine zk_ws (ws' := [(h0, .inr (1, [.ref q6, .ref q15, .ref q23, .ref q31, .null, .null, .null, .null, .null, .int 0, .int 0, .int 0])), (q6, .inl (E.2.2.2 0, 3, zzero 0)), (q15, .inl (E.2.2.2 0, 400, zzero 0)), (q23, .inl (E.2.2.2 0, 12, zzero 0)), (q31, .inl (E.2.2.2 0, 12, zzero 0)), (q39, .inl (E.2.2.2 1, 12, zzero 1))]) h rfl ?_
  refine zk_putF (q0 := 0) (ws' := [(h0, .inr (1, [.ref q6, .ref q15, .ref q23, .ref q31, .ref q39, .null, .null, .null, .null, .int 0, .int 0, .int 0])), (q6, .inl (E.2.2.2 0, 3, zzero 0)), (q15, .inl (E.2.2.2 0, 400, zzero 0)), (q23, .inl (E.2.2.2 0, 12, zzero 0)), (q31, .inl (E.2.2.2 0, 12, zzero 0)), (q39, .inl (E.2.2.2 1, 12, zzero 1))]) h zff_X1_24 rfl rfl rfl (Nat.le_of_ble_eq_true rfl) rfl dX1_init_41 ?_
  refine zk_aload_n h dX1_init_44 0 rfl rfl ?_
  refine zk_bipush (v := 20) h dX1_init_45 (by decide) ?_
  refine zk_newa (at' := .int) (t := 0) (ty := .int) (N' := 20) h rfl rfl (zm_3 _ (List.mem_of_getElem? (i := 13) rfl)) (fun _ => rfl) zra_int (by decide) (by decide) (Nat.le_of_ble_eq_true rfl) ⟨Nat.le_of_ble_eq_true rfl, Nat.le_of_ble_eq_true rfl⟩ dX1_init_47 (fun q47 => ?_)
  refine zk_ws (ws' := [(h0, .inr (1, [.ref q6, .ref q15, .ref q23, .ref q31, .ref q39, .null, .null, .null, .null, .int 0, .int 0, .int 0])), (q6, .inl (E.2.2.2 0, 3, zzero 0)), (q15, .inl (E.2.2.2 0, 400, zzero 0)), (q23, .inl (E.2.2.2 0, 12, zzero 0)), (q31, .inl (E.2.2.2 0, 12, zzero 0)), (q39, .inl (E.2.2.2 1, 12, zzero 1)), (q47, .inl (E.2.2.2 0, 20, zzero 0))]) h rfl ?_
  refine zk_putF (q0 := 0) (ws' := [(h0, .inr (1, [.ref q6, .ref q15, .ref q23, .ref q31, .ref q39, .ref q47, .null, .null, .null, .int 0, .int 0, .int 0])), (q6, .inl (E.2.2.2 0, 3, zzero 0)), (q15, .inl (E.2.2.2 0, 400, zzero 0)), (q23, .inl (E.2.2.2 0, 12, zzero 0)), (q31, .inl (E.2.2.2 0, 12, zzero 0)), (q39, .inl (E.2.2.2 1, 12, zzero 1)), (q47, .inl (E.2.2.2 0, 20, zzero 0))]) h zff_X1_28 rfl rfl rfl (Nat.le_of_ble_eq_true rfl) rfl dX1_init_49 ?_
  refine zk_aload_n h dX1_init_52 0 rfl rfl ?_
  refine zk_bipush (v := 20) h dX1_init_53 (by decide) ?_
  refine zk_newa (at' := .int) (t := 0) (ty := .int) (N' := 20) h rfl rfl (zm_3 _ (List.mem_of_getElem? (i := 13) rfl)) (fun _ => rfl) zra_int (by decide) (by decide) (Nat.le_of_ble_eq_true rfl) ⟨Nat.le_of_ble_eq_true rfl, Nat.le_of_ble_eq_true rfl⟩ dX1_init_55 (fun q55 => ?_)
  refine zk_ws (ws' := [(h0, .inr (1, [.ref q6, .ref q15, .ref q23, .ref q31, .ref q39, .ref q47, .null, .null, .null, .int 0, .int 0, .int 0])), (q6, .inl (E.2.2.2 0, 3, zzero 0)), (q15, .inl (E.2.2.2 0, 400, zzero 0)), (q23, .inl (E.2.2.2 0, 12, zzero 0)), (q31, .inl (E.2.2.2 0, 12, zzero 0)), (q39, .inl (E.2.2.2 1, 12, zzero 1)), (q47, .inl (E.2.2.2 0, 20, zzero 0)), (q55, .inl (E.2.2.2 0, 20, zzero 0))]) h rfl ?_
  refine zk_putF (q0 := 0) (ws' := [(h0, .inr (1, [.ref q6, .ref q15, .ref q23, .ref q31, .ref q39, .ref q47, .ref q55, .null, .null, .int 0, .int 0, .int 0])), (q6, .inl (E.2.2.2 0, 3, zzero 0)), (q15, .inl (E.2.2.2 0, 400, zzero 0)), (q23, .inl (E.2.2.2 0, 12, zzero 0)), (q31, .inl (E.2.2.2 0, 12, zzero 0)), (q39, .inl (E.2.2.2 1, 12, zzero 1)), (q47, .inl (E.2.2.2 0, 20, zzero 0)), (q55, .inl (E.2.2.2 0, 20, zzero 0))]) h zff_X1_31 rfl rfl rfl (Nat.le_of_ble_eq_true rfl) rfl dX1_init_57 ?_
  refine zk_aload_n h dX1_init_60 0 rfl rfl ?_
  refine zk_bipush (v := 20) h dX1_init_61 (by decide) ?_
  refine zk_newa (at' := .int) (t := 0) (ty := .int) (N' := 20) h rfl rfl (zm_3 _ (List.mem_of_getElem? (i := 13) rfl)) (fun _ => rfl) zra_int (by decide) (by decide) (Nat.le_of_ble_eq_true rfl) ⟨Nat.le_of_ble_eq_true rfl, Nat.le_of_ble_eq_true rfl⟩ dX1_init_63 (fun q63 => ?_)
  refine zk_ws (ws' := [(h0, .inr (1, [.ref q6, .ref q15, .ref q23, .ref q31, .ref q39, .ref q47, .ref q55, .null, .null, .int 0, .int 0, .int 0])), (q6, .inl (E.2.2.2 0, 3, zzero 0)), (q15, .inl (E.2.2.2 0, 400, zzero 0)), (q23, .inl (E.2.2.2 0, 12, zzero 0)), (q31, .inl (E.2.2.2 0, 12, zzero 0)), (q39, .inl (E.2.2.2 1, 12, zzero 1)), (q47, .inl (E.2.2.2 0, 20, zzero 0)), (q55, .inl (E.2.2.2 0, 20, zzero 0)), (q63, .inl (E.2.2.2 0, 20, zzero 0))]) h rfl ?_
  refine zk_putF (q0 := 0) (ws' := [(h0, .inr (1, [.ref q6, .ref q15, .ref q23, .ref q31, .ref q39, .ref q47, .ref q55, .ref q63, .null, .int 0, .int 0, .int 0])), (q6, .inl (E.2.2.2 0, 3, zzero 0)), (q15, .inl (E.2.2.2 0, 400, zzero 0)), (q23, .inl (E.2.2.2 0, 12, zzero 0)), (q31, .inl (E.2.2.2 0, 12, zzero 0)), (q39, .inl (E.2.2.2 1, 12, zzero 1)), (q47, .inl (E.2.2.2 0, 20, zzero 0)), (q55, .inl (E.2.2.2 0, 20, zzero 0)), (q63, .inl (E.2.2.2 0, 20, zzero 0))]) h zff_X1_34 rfl rfl rfl (Nat.le_of_ble_eq_true rfl) rfl dX1_init_65 ?_
  refine zk_aload_n h dX1_init_68 0 rfl rfl ?_
  refine zk_bipush (v := 20) h dX1_init_69 (by decide) ?_
  refine zk_newa (at' := .int) (t := 0) (ty := .int) (N' := 20) h rfl rfl (zm_3 _ (List.mem_of_getElem? (i := 13) rfl)) (fun _ => rfl) zra_int (by decide) (by decide) (Nat.le_of_ble_eq_true rfl) ⟨Nat.le_of_ble_eq_true rfl, Nat.le_of_ble_eq_true rfl⟩ dX1_init_71 (fun q71 => ?_)
  refine zk_ws (ws' := [(h0, .inr (1, [.ref q6, .ref q15, .ref q23, .ref q31, .ref q39, .ref q47, .ref q55, .ref q63, .null, .int 0, .int 0, .int 0])), (q6, .inl (E.2.2.2 0, 3, zzero 0)), (q15, .inl (E.2.2.2 0, 400, zzero 0)), (q23, .inl (E.2.2.2 0, 12, zzero 0)), (q31, .inl (E.2.2.2 0, 12, zzero 0)), (q39, .inl (E.2.2.2 1, 12, zzero 1)), (q47, .inl (E.2.2.2 0, 20, zzero 0)), (q55, .inl (E.2.2.2 0, 20, zzero 0)), (q63, .inl (E.2.2.2 0, 20, zzero 0)), (q71, .inl (E.2.2.2 0, 20, zzero 0))]) h rfl ?_
  refine zk_putF (q0 := 0) (ws' := [(h0, .inr (1, [.ref q6, .ref q15, .ref q23, .ref q31, .ref q39, .ref q47, .ref q55, .ref q63, .ref q71, .int 0, .int 0, .int 0])), (q6, .inl (E.2.2.2 0, 3, zzero 0)), (q15, .inl (E.2.2.2 0, 400, zzero 0)), (q23, .inl (E.2.2.2 0, 12, zzero 0)), (q31, .inl (E.2.2.2 0, 12, zzero 0)), (q39, .inl (E.2.2.2 1, 12, zzero 1)), (q47, .inl (E.2.2.2 0, 20, zzero 0)), (q55, .inl (E.2.2.2 0, 20, zzero 0)), (q63, .inl (E.2.2.2 0, 20, zzero 0)), (q71, .inl (E.2.2.2 0, 20, zzero 0))]) h zff_X1_37 rfl rfl rfl (Nat.le_of_ble_eq_true rfl) rfl dX1_init_73 ?_
  refine zk_aload_n h dX1_init_76 0 rfl rfl ?_
  refine zk_ws (ws' := zcls lyH (zad E (fun k => if k < 1000 then [h0, q6, q15, q23, q31, q39, q47, q55, q63, q71].getD k 0 else E.2.2.1 k)) zMZ) h ?_ ?_
  · rw [zcls_R]
    unfold lyH
    refine zc_consO rfl ?_ ?_
    · refine zf_cons rfl ?_
      refine zf_cons rfl ?_
      refine zf_cons rfl ?_
      refine zf_cons rfl ?_
      refine zf_cons rfl ?_
      refine zf_cons rfl ?_
      refine zf_cons rfl ?_
      refine zf_cons rfl ?_
      refine zf_cons rfl ?_
      refine zf_cons rfl ?_
      refine zf_cons rfl ?_
      refine zf_cons rfl ?_
      rfl
    refine zc_cons rfl rfl ?_
    refine zc_cons rfl rfl ?_
    refine zc_cons rfl rfl ?_
    refine zc_cons rfl rfl ?_
    refine zc_cons rfl rfl ?_
    refine zc_cons rfl rfl ?_
    refine zc_cons rfl rfl ?_
    refine zc_cons rfl rfl ?_
    refine zc_cons rfl rfl ?_
    rfl
  refine zk_callM (ly := lyH) (ad := (fun k => if k < 1000 then [h0, q6, q15, q23, q31, q39, q47, q55, q63, q71].getD k 0 else E.2.2.1 k)) (M := zMZ) (As := []) h (fun k hk => if_neg (by omega)) rfl lH_0 zcw_X1_40 (c_X1_startAnewH (zad E (fun k => if k < 1000 then [h0, q6, q15, q23, q31, q39, q47, q55, q63, q71].getD k 0 else E.2.2.1 k)) zMZ zKH zKH_ok) ⟨Nat.le_of_ble_eq_true rfl, Nat.le_of_ble_eq_true rfl⟩ rfl rfl (Nat.le_of_ble_eq_true rfl) ⟨Nat.le_of_ble_eq_true rfl, Nat.le_of_ble_eq_true rfl⟩ dX1_init_77 (fun M1 v1 hr1 => ?_)
  obtain ⟨rfl, hr1⟩ := hr1
  exact hret (fun k => if k < 1000 then [h0, q6, q15, q23, q31, q39, q47, q55, q63, q71].getD k 0 else E.2.2.1 k, M1) _ _ ⟨rfl, fun k hk => if_neg (by omega), hr1⟩ dX1_init_80
theorem dX6_init_0 : decode cX6_init 0 = .ok (.aload_n 0, 1) := by decide +kernel
theorem dX6_init_1 : decode cX6_init 1 = .ok (.invokespecial 3, 3) := by decide +kernel
theorem dX6_init_4 : decode cX6_init 4 = .ok (.aload_n 0, 1) := by decide +kernel
theorem dX6_init_5 : decode cX6_init 5 = .ok (.sipush 240, 3) := by decide +kernel
theorem dX6_init_8 : decode cX6_init 8 = .ok (.newarray .int, 2) := by decide +kernel
theorem dX6_init_10 : decode cX6_init 10 = .ok (.putfield 9, 3) := by decide +kernel
theorem dX6_init_13 : decode cX6_init 13 = .ok (.aload_n 0, 1) := by decide +kernel
theorem dX6_init_14 : decode cX6_init 14 = .ok (.bipush 24, 2) := by decide +kernel
theorem dX6_init_16 : decode cX6_init 16 = .ok (.newarray .int, 2) := by decide +kernel
theorem dX6_init_18 : decode cX6_init 18 = .ok (.putfield 15, 3) := by decide +kernel
theorem dX6_init_21 : decode cX6_init 21 = .ok (.aload_n 0, 1) := by decide +kernel
theorem dX6_init_22 : decode cX6_init 22 = .ok (.sipush 240, 3) := by decide +kernel
theorem dX6_init_25 : decode cX6_init 25 = .ok (.newarray .int, 2) := by decide +kernel
theorem dX6_init_27 : decode cX6_init 27 = .ok (.putfield 18, 3) := by decide +kernel
theorem dX6_init_30 : decode cX6_init 30 = .ok (.return_, 1) := by decide +kernel
set_option maxRecDepth 100000 in
set_option maxHeartbeats 4000000 in
theorem ci_X6 (E : ZEv) (h0 : Nat) : zCI (S := Nat → Nat) E yX6_init cX6_init 1 0 3 504 [.ref h0] [(h0, .inr (6, [.null, .null, .null, .int 0, .int 0, .int 0, .int 0, .int 0, .int 0]))] (fun _ => True) (fun u => [(h0, .inr (6, [.ref (u 1), .ref (u 2), .ref (u 3), .int 0, .int 0, .int 0, .int 0, .int 0, .int 0])), ((u 1), .inl (E.2.2.2 0, 240, zzero 0)), ((u 2), .inl (E.2.2.2 0, 24, zzero 0)), ((u 3), .inl (E.2.2.2 0, 240, zzero 0))]) := by
  refine zci_of (L0 := [(0, .ref h0)]) (by decide) rfl rfl (Nat.le_of_ble_eq_true rfl) (fun G Q A p e s m args below meth c h hret => ?_)
  have h : zKu E G (zrk 0 3 504) Q A cX6_init RX6 1 "<init>" p e s m args below meth c := h
  refine zk_aload_n h dX6_init_0 0 rfl rfl ?_
  refine zk_obj h zoi_X6 ⟨Nat.le_of_ble_eq_true rfl, Nat.le_of_ble_eq_true rfl⟩ (Nat.le_of_ble_eq_true rfl) dX6_init_1 ?_
  refine zk_aload_n h dX6_init_4 0 rfl rfl ?_
  refine zk_sipush (v := 240) h dX6_init_5 (by decide) ?_
  refine zk_newa (at' := .int) (t := 0) (ty := .int) (N' := 240) h rfl rfl (zm_3 _ (List.mem_of_getElem? (i := 13) rfl)) (fun _ => rfl) zra_int (by decide) (by decide) (Nat.le_of_ble_eq_true rfl) ⟨Nat.le_of_ble_eq_true rfl, Nat.le_of_ble_eq_true rfl⟩ dX6_init_8 (fun q8 => ?_)
  refine zk_ws (ws' := [(h0, .inr (6, [.null, .null, .null, .int 0, .int 0, .int 0, .int 0, .int 0, .int 0])), (q8, .inl (E.2.2.2 0, 240, zzero 0))]) h rfl ?_
  refine zk_putF (q0 := 0) (ws' := [(h0, .inr (6, [.ref q8, .null, .null, .int 0, .int 0, .int 0, .int 0, .int 0, .int 0])), (q8, .inl (E.2.2.2 0, 240, zzero 0))]) h zff_X6_9 rfl rfl rfl (Nat.le_of_ble_eq_true rfl) rfl dX6_init_10 ?_
  refine zk_aload_n h dX6_init_13 0 rfl rfl ?_
  refine zk_bipush (v := 24) h dX6_init_14 (by decide) ?_
  refine zk_newa (at' := .int) (t := 0) (ty := .int) (N' := 24) h rfl rfl (zm_3 _ (List.mem_of_getElem? (i := 13) rfl)) (fun _ => rfl) zra_int (by decide) (by decide) (Nat.le_of_ble_eq_true rfl) ⟨Nat.le_of_ble_eq_true rfl, Nat.le_of_ble_eq_true rfl⟩ dX6_init_16 (fun q16 => ?_)
  refine zk_ws (ws' := [(h0, .inr (6, [.ref q8, .null, .null, .int 0, .int 0, .int 0, .int 0, .int 0, .int 0])), (q8, .inl (E.2.2.2 0, 240, zzero 0)), (q16, .inl (E.2.2.2 0, 24, zzero 0))]) h rfl ?_
  refine zk_putF (q0 := 0) (ws' := [(h0, .inr (6, [.ref q8, .ref q16, .null, .int 0, .int 0, .int 0, .int 0, .int 0, .int 0])), (q8, .inl (E.2.2.2 0, 240, zzero 0)), (q16, .inl (E.2.2.2 0, 24, zzero 0))]) h zff_X6_15 rfl rfl rfl (Nat.le_of_ble_eq_true rfl) rfl dX6_init_18 ?_
  refine zk_aload_n h dX6_init_21 0 rfl rfl ?_
  refine zk_sipush (v := 240) h dX6_init_22 (by decide) ?_
  refine zk_newa (at' := .int) (t := 0) (ty := .int) (N' := 240) h rfl rfl (zm_3 _ (List.mem_of_getElem? (i := 13) rfl)) (fun _ => rfl) zra_int (by decide) (by decide) (Nat.le_of_ble_eq_true rfl) ⟨Nat.le_of_ble_eq_true rfl, Nat.le_of_ble_eq_true rfl⟩ dX6_init_25 (fun q25 => ?_)
  refine zk_ws (ws' := [(h0, .inr (6, [.ref q8, .ref q16, .null, .int 0, .int 0, .int 0, .int 0, .int 0, .int 0])), (q8, .inl (E.2.2.2 0, 240, zzero 0)), (q16, .inl (E.2.2.2 0, 24, zzero 0)), (q25, .inl (E.2.2.2 0, 240, zzero 0))]) h rfl ?_
  refine zk_putF (q0 := 0) (ws' := [(h0, .inr (6, [.ref q8, .ref q16, .ref q25, .int 0, .int 0, .int 0, .int 0, .int 0, .int 0])), (q8, .inl (E.2.2.2 0, 240, zzero 0)), (q16, .inl (E.2.2.2 0, 24, zzero 0)), (q25, .inl (E.2.2.2 0, 240, zzero 0))]) h zff_X6_18 rfl rfl rfl (Nat.le_of_ble_eq_true rfl) rfl dX6_init_27 ?_
  exact hret (fun k => [h0, q8, q16, q25].getD k 0) _ _ trivial dX6_init_30
theorem dX2_init_0 : decode cX2_init 0 = .ok (.aload_n 0, 1) := by decide +kernel
theorem dX2_init_1 : decode cX2_init 1 = .ok (.invokespecial 3, 3) := by decide +kernel
theorem dX2_init_4 : decode cX2_init 4 = .ok (.aload_n 0, 1) := by decide +kernel
theorem dX2_init_5 : decode cX2_init 5 = .ok (.bipush 120, 2) := by decide +kernel
theorem dX2_init_7 : decode cX2_init 7 = .ok (.newarray .long, 2) := by decide +kernel
theorem dX2_init_9 : decode cX2_init 9 = .ok (.putfield 9, 3) := by decide +kernel
theorem dX2_init_12 : decode cX2_init 12 = .ok (.aload_n 0, 1) := by decide +kernel
theorem dX2_init_13 : decode cX2_init 13 = .ok (.bipush 120, 2) := by decide +kernel
theorem dX2_init_15 : decode cX2_init 15 = .ok (.newarray .int, 2) := by decide +kernel
theorem dX2_init_17 : decode cX2_init 17 = .ok (.putfield 15, 3) := by decide +kernel
theorem dX2_init_20 : decode cX2_init 20 = .ok (.aload_n 0, 1) := by decide +kernel
theorem dX2_init_21 : decode cX2_init 21 = .ok (.bipush 120, 2) := by decide +kernel
theorem dX2_init_23 : decode cX2_init 23 = .ok (.newarray .int, 2) := by decide +kernel
theorem dX2_init_25 : decode cX2_init 25 = .ok (.putfield 19, 3) := by decide +kernel
theorem dX2_init_28 : decode cX2_init 28 = .ok (.aload_n 0, 1) := by decide +kernel
theorem dX2_init_29 : decode cX2_init 29 = .ok (.bipush 120, 2) := by decide +kernel
theorem dX2_init_31 : decode cX2_init 31 = .ok (.newarray .int, 2) := by decide +kernel
theorem dX2_init_33 : decode cX2_init 33 = .ok (.putfield 22, 3) := by decide +kernel
theorem dX2_init_36 : decode cX2_init 36 = .ok (.aload_n 0, 1) := by decide +kernel
theorem dX2_init_37 : decode cX2_init 37 = .ok (.bipush 60, 2) := by decide +kernel
theorem dX2_init_39 : decode cX2_init 39 = .ok (.newarray .long, 2) := by decide +kernel
theorem dX2_init_41 : decode cX2_init 41 = .ok (.putfield 25, 3) := by decide +kernel
theorem dX2_init_44 : decode cX2_init 44 = .ok (.aload_n 0, 1) := by decide +kernel
theorem dX2_init_45 : decode cX2_init 45 = .ok (.bipush 60, 2) := by decide +kernel
theorem dX2_init_47 : decode cX2_init 47 = .ok (.newarray .int, 2) := by decide +kernel
theorem dX2_init_49 : decode cX2_init 49 = .ok (.putfield 28, 3) := by decide +kernel
theorem dX2_init_52 : decode cX2_init 52 = .ok (.return_, 1) := by decide +kernel
set_option maxRecDepth 100000 in
set_option maxHeartbeats 4000000 in
theorem ci_X2 (E : ZEv) (h0 : Nat) : zCI (S := Nat → Nat) E yX2_init cX2_init 1 0 6 600 [.ref h0] [(h0, .inr (2, [.null, .null, .null, .null, .null, .null, .int 0, .int 0, .int 0]))] (fun _ => True) (fun u => [(h0, .inr (2, [.ref (u 1), .ref (u 2), .ref (u 3), .ref (u 4), .ref (u 5), .ref (u 6), .int 0, .int 0, .int 0])), ((u 1), .inl (E.2.2.2 3, 120, zzero 3)), ((u 2), .inl (E.2.2.2 0, 120, zzero 0)), ((u 3), .inl (E.2.2.2 0, 120, zzero 0)), ((u 4), .inl (E.2.2.2 0, 120, zzero 0)), ((u 5), .inl (E.2.2.2 3, 60, zzero 3)), ((u 6), .inl (E.2.2.2 0, 60, zzero 0))]) := by
  refine zci_of (L0 := [(0, .ref h0)]) (by decide) rfl rfl (Nat.le_of_ble_eq_true rfl) (fun G Q A p e s m args below meth c h hret => ?_)
  have h : zKu E G (zrk 0 6 600) Q A cX2_init RX2 1 "<init>" p e s m args below meth c := h
  refine zk_aload_n h dX2_init_0 0 rfl rfl ?_
  refine zk_obj h zoi_X2 ⟨Nat.le_of_ble_eq_true rfl, Nat.le_of_ble_eq_true rfl⟩ (Nat.le_of_ble_eq_true rfl) dX2_init_1 ?_
  refine zk_aload_n h dX2_init_4 0 rfl rfl ?_
  refine zk_bipush (v := 120) h dX2_init_5 (by decide) ?_
  refine zk_newa (at' := .long) (t := 3) (ty := .long) (N' := 120) h rfl rfl (zm_6 _ (List.mem_of_getElem? (i := 0) rfl)) (fun _ => rfl) zra_long (by decide) (by decide) (Nat.le_of_ble_eq_true rfl) ⟨Nat.le_of_ble_eq_true rfl, Nat.le_of_ble_eq_true rfl⟩ dX2_init_7 (fun q7 => ?_)
  refine zk_ws (ws' := [(h0, .inr (2, [.null, .null, .null, .null, .null, .null, .int 0, .int 0, .int 0])), (q7, .inl (E.2.2.2 3, 120, zzero 3))]) h rfl ?_
  refine zk_putF (q0 := 0) (ws' := [(h0, .inr (2, [.ref q7, .null, .null, .null, .null, .null, .int 0, .int 0, .int 0])), (q7, .inl (E.2.2.2 3, 120, zzero 3))]) h zff_X2_9 rfl rfl rfl (Nat.le_of_ble_eq_true rfl) rfl dX2_init_9 ?_
  refine zk_aload_n h dX2_init_12 0 rfl rfl ?_
  refine zk_bipush (v := 120) h dX2_init_13 (by decide) ?_
  refine zk_newa (at' := .int) (t := 0) (ty := .int) (N' := 120) h rfl rfl (zm_3 _ (List.mem_of_getElem? (i := 13) rfl)) (fun _ => rfl) zra_int (by decide) (by decide) (Nat.le_of_ble_eq_true rfl) ⟨Nat.le_of_ble_eq_true rfl, Nat.le_of_ble_eq_true rfl⟩ dX2_init_15 (fun q15 => ?_)
  refine zk_ws (ws' := [(h0, .inr (2, [.ref q7, .null, .null, .null, .null, .null, .int 0, .int 0, .int 0])), (q7, .inl (E.2.2.2 3, 120, zzero 3)), (q15, .inl (E.2.2.2 0, 120, zzero 0))]) h rfl ?_
  refine zk_putF (q0 := 0) (ws' := [(h0, .inr (2, [.ref q7, .ref q15, .null, .null, .null, .null, .int 0, .int 0, .int 0])), (q7, .inl (E.2.2.2 3, 120, zzero 3)), (q15, .inl (E.2.2.2 0, 120, zzero 0))]) h zff_X2_15 rfl rfl rfl (Nat.le_of_ble_eq_true rfl) rfl dX2_init_17 ?_
  refine zk_aload_n h dX2_init_20 0 rfl rfl ?_
  refine zk_bipush (v := 120) h dX2_init_21 (by decide) ?_
  refine zk_newa (at' := .int) (t := 0) (ty := .int) (N' := 120) h rfl rfl (zm_3 _ (List.mem_of_getElem? (i := 13) rfl)) (fun _ => rfl) zra_int (by decide) (by decide) (Nat.le_of_ble_eq_true rfl) ⟨Nat.le_of_ble_eq_true rfl, Nat.le_of_ble_eq_true rfl⟩ dX2_init_23 (fun q23 => ?_)
  refine zk_ws (ws' := [(h0, .inr (2, [.ref q7, .ref q15, .null, .null, .null, .null, .int 0, .int 0, .int 0])), (q7, .inl (E.2.2.2 3, 120, zzero 3)), (q15, .inl (E.2.2.2 0, 120, zzero 0)), (q23, .inl (E.2.2.2 0, 120, zzero 0))]) h rfl ?_
  refine zk_putF (q0 := 0) (ws' := [(h0, .inr (2, [.ref q7, .ref q15, .ref q23, .null, .null, .null, .int 0, .int 0, .int 0])), (q7, .inl (E.2.2.2 3, 120, zzero 3)), (q15, .inl (E.2.2.2 0, 120, zzero 0)), (q23, .inl (E.2.2.2 0, 120, zzero 0))]) h zff_X2_19 rfl rfl rfl (Nat.le_of_ble_eq_true rfl) rfl dX2_init_25 ?_
  refine zk_aload_n h dX2_init_28 0 rfl rfl ?_
  refine zk_bipush (v := 120) h dX2_init_29 (by decide) ?_
  refine zk_newa (at' := .int) (t := 0) (ty := .int) (N' := 120) h rfl rfl (zm_3 _ (List.mem_of_getElem? (i := 13) rfl)) (fun _ => rfl) zra_int (by decide) (by decide) (Nat.le_of_ble_eq_true rfl) ⟨Nat.le_of_ble_eq_true rfl, Nat.le_of_ble_eq_true rfl⟩ dX2_init_31 (fun q31 => ?_)
  refine zk_ws (ws' := [(h0, .inr (2, [.ref q7, .ref q15, .ref q23, .null, .null, .null, .int 0, .int 0, .int 0])), (q7, .inl (E.2.2.2 3, 120, zzero 3)), (q15, .inl (E.2.2.2 0, 120, zzero 0)), (q23, .inl (E.2.2.2 0, 120, zzero 0)), (q31, .inl (E.2.2.2 0, 120, zzero 0))]) h rfl ?_
  refine zk_putF (q0 := 0) (ws' := [(h0, .inr (2, [.ref q7, .ref q15, .ref q23, .ref q31, .null, .null, .int 0, .int 0, .int 0])), (q7, .inl (E.2.2.2 3, 120, zzero 3)), (q15, .inl (E.2.2.2 0, 120, zzero 0)), (q23, .inl (E.2.2.2 0, 120, zzero 0)), (q31, .inl (E.2.2.2 0, 120, zzero 0))]) h zff_X2_22 rfl rfl rfl (Nat.le_of_ble_eq_true rfl) rfl dX2_init_33 ?_
  refine zk_aload_n h dX2_init_36 0 rfl rfl ?_
  refine zk_bipush (v := 60) h dX2_init_37 (by decide) ?_
  refine zk_newa (at' := .long) (t := 3) (ty := .long) (N' := 60) h rfl rfl (zm_6 _ (List.mem_of_getElem? (i := 0) rfl)) (fun _ => rfl) zra_long (by decide) (by decide) (Nat.le_of_ble_eq_true rfl) ⟨Nat.le_of_ble_eq_true rfl, Nat.le_of_ble_eq_true rfl⟩ dX2_init_39 (fun q39 => ?_)
  refine zk_ws (ws' := [(h0, .inr (2, [.ref q7, .ref q15, .ref q23, .ref q31, .null, .null, .int 0, .int 0, .int 0])), (q7, .inl (E.2.2.2 3, 120, zzero 3)), (q15, .inl (E.2.2.2 0, 120, zzero 0)), (q23, .inl (E.2.2.2 0, 120, zzero 0)), (q31, .inl (E.2.2.2 0, 120, zzero 0)), (q39, .inl (E.2.2.2 3, 60, zzero 3))]) h rfl ?_
  refine zk_putF (q0 := 0) (ws' := [(h0, .inr (2, [.ref q7, .ref q15, .ref q23, .ref q31, .ref q39, .null, .int 0, .int 0, .int 0])), (q7, .inl (E.2.2.2 3, 120, zzero 3)), (q15, .inl (E.2.2.2 0, 120, zzero 0)), (q23, .inl (E.2.2.2 0, 120, zzero 0)), (q31, .inl (E.2.2.2 0, 120, zzero 0)), (q39, .inl (E.2.2.2 3, 60, zzero 3))]) h zff_X2_25 rfl rfl rfl (Nat.le_of_ble_eq_true rfl) rfl dX2_init_41 ?_
  refine zk_aload_n h dX2_init_44 0 rfl rfl ?_
  refine zk_bipush (v := 60) h dX2_init_45 (by decide) ?_
  refine zk_newa (at' := .int) (t := 0) (ty := .int) (N' := 60) h rfl rfl (zm_3 _ (List.mem_of_getElem? (i := 13) rfl)) (fun _ => rfl) zra_int (by decide) (by decide) (Nat.le_of_ble_eq_true rfl) ⟨Nat.le_of_ble_eq_true rfl, Nat.le_of_ble_eq_true rfl⟩ dX2_init_47 (fun q47 => ?_)
  refine zk_ws (ws' := [(h0, .inr (2, [.ref q7, .ref q15, .ref q23, .ref q31, .ref q39, .null, .int 0, .int 0, .int 0])), (q7, .inl (E.2.2.2 3, 120, zzero 3)), (q15, .inl (E.2.2.2 0, 120, zzero 0)), (q23, .inl (E.2.2.2 0, 120, zzero 0)), (q31, .inl (E.2.2.2 0, 120, zzero 0)), (q39, .inl (E.2.2.2 3, 60, zzero 3)), (q47, .inl (E.2.2.2 0, 60, zzero 0))]) h rfl ?_
  refine zk_putF (q0 := 0) (ws' := [(h0, .inr (2, [.ref q7, .ref q15, .ref q23, .ref q31, .ref q39, .ref q47, .int 0, .int 0, .int 0])), (q7, .inl (E.2.2.2 3, 120, zzero 3)), (q15, .inl (E.2.2.2 0, 120, zzero 0)), (q23, .inl (E.2.2.2 0, 120, zzero 0)), (q31, .inl (E.2.2.2 0, 120, zzero 0)), (q39, .inl (E.2.2.2 3, 60, zzero 3)), (q47, .inl (E.2.2.2 0, 60, zzero 0))]) h zff_X2_28 rfl rfl rfl (Nat.le_of_ble_eq_true rfl) rfl dX2_init_49 ?_
  exact hret (fun k => [h0, q7, q15, q23, q31, q39, q47].getD k 0) _ _ trivial dX2_init_52
theorem dX5_init_0 : decode cX5_init 0 = .ok (.aload_n 0, 1) := by decide +kernel
theorem dX5_init_1 : decode cX5_init 1 = .ok (.invokespecial 3, 3) := by decide +kernel
theorem dX5_init_4 : decode cX5_init 4 = .ok (.aload_n 0, 1) := by decide +kernel
theorem dX5_init_5 : decode cX5_init 5 = .ok (.bipush 20, 2) := by decide +kernel
theorem dX5_init_7 : decode cX5_init 7 = .ok (.newarray .int, 2) := by decide +kernel
theorem dX5_init_9 : decode cX5_init 9 = .ok (.putfield 9, 3) := by decide +kernel
theorem dX5_init_12 : decode cX5_init 12 = .ok (.aload_n 0, 1) := by decide +kernel
theorem dX5_init_13 : decode cX5_init 13 = .ok (.bipush 20, 2) := by decide +kernel
theorem dX5_init_15 : decode cX5_init 15 = .ok (.newarray .int, 2) := by decide +kernel
theorem dX5_init_17 : decode cX5_init 17 = .ok (.putfield 15, 3) := by decide +kernel
theorem dX5_init_20 : decode cX5_init 20 = .ok (.aload_n 0, 1) := by decide +kernel
theorem dX5_init_21 : decode cX5_init 21 = .ok (.bipush 20, 2) := by decide +kernel
theorem dX5_init_23 : decode cX5_init 23 = .ok (.newarray .int, 2) := by decide +kernel
theorem dX5_init_25 : decode cX5_init 25 = .ok (.putfield 18, 3) := by decide +kernel
theorem dX5_init_28 : decode cX5_init 28 = .ok (.aload_n 0, 1) := by decide +kernel
theorem dX5_init_29 : decode cX5_init 29 = .ok (.iload_n 1, 1) := by decide +kernel
theorem dX5_init_30 : decode cX5_init 30 = .ok (.putfield 21, 3) := by decide +kernel
theorem dX5_init_33 : decode cX5_init 33 = .ok (.return_, 1) := by decide +kernel
set_option maxRecDepth 100000 in
set_option maxHeartbeats 4000000 in
theorem ci_X5 (E : ZEv) (h0 : Nat) (p1 : Int32) (hp1 : zisB p1 = true) : zCI (S := Nat → Nat) E yX5_init cX5_init 2 0 3 60 [.ref h0, .int p1] [(h0, .inr (5, [.int 0, .null, .null, .null]))] (fun _ => True) (fun u => [(h0, .inr (5, [.int p1, .ref (u 1), .ref (u 2), .ref (u 3)])), ((u 1), .inl (E.2.2.2 0, 20, zzero 0)), ((u 2), .inl (E.2.2.2 0, 20, zzero 0)), ((u 3), .inl (E.2.2.2 0, 20, zzero 0))]) := by
  refine zci_of (L0 := [(0, .ref h0), (1, .int p1)]) (by decide) rfl rfl (Nat.le_of_ble_eq_true rfl) (fun G Q A p e s m args below meth c h hret => ?_)
  have h : zKu E G (zrk 0 3 60) Q A cX5_init RX5 2 "<init>" p e s m args below meth c := h
  refine zk_aload_n h dX5_init_0 0 rfl rfl ?_
  refine zk_obj h zoi_X5 ⟨Nat.le_of_ble_eq_true rfl, Nat.le_of_ble_eq_true rfl⟩ (Nat.le_of_ble_eq_true rfl) dX5_init_1 ?_
  refine zk_aload_n h dX5_init_4 0 rfl rfl ?_
  refine zk_bipush (v := 20) h dX5_init_5 (by decide) ?_
  refine zk_newa (at' := .int) (t := 0) (ty := .int) (N' := 20) h rfl rfl (zm_3 _ (List.mem_of_getElem? (i := 13) rfl)) (fun _ => rfl) zra_int (by decide) (by decide) (Nat.le_of_ble_eq_true rfl) ⟨Nat.le_of_ble_eq_true rfl, Nat.le_of_ble_eq_true rfl⟩ dX5_init_7 (fun q7 => ?_)
  refine zk_ws (ws' := [(h0, .inr (5, [.int 0, .null, .null, .null])), (q7, .inl (E.2.2.2 0, 20, zzero 0))]) h rfl ?_
  refine zk_putF (q0 := 0) (ws' := [(h0, .inr (5, [.int 0, .ref q7, .null, .null])), (q7, .inl (E.2.2.2 0, 20, zzero 0))]) h zff_X5_9 rfl rfl rfl (Nat.le_of_ble_eq_true rfl) rfl dX5_init_9 ?_
  refine zk_aload_n h dX5_init_12 0 rfl rfl ?_
  refine zk_bipush (v := 20) h dX5_init_13 (by decide) ?_
  refine zk_newa (at' := .int) (t := 0) (ty := .int) (N' := 20) h rfl rfl (zm_3 _ (List.mem_of_getElem? (i := 13) rfl)) (fun _ => rfl) zra_int (by decide) (by decide) (Nat.le_of_ble_eq_true rfl) ⟨Nat.le_of_ble_eq_true rfl, Nat.le_of_ble_eq_true rfl⟩ dX5_init_15 (fun q15 => ?_)
  refine zk_ws (ws' := [(h0, .inr (5, [.int 0, .ref q7, .null, .null])), (q7, .inl (E.2.2.2 0, 20, zzero 0)), (q15, .inl (E.2.2.2 0, 20, zzero 0))]) h rfl ?_
  refine zk_putF (q0 := 0) (ws' := [(h0, .inr (5, [.int 0, .ref q7, .ref q15, .null])), (q7, .inl (E.2.2.2 0, 20, zzero 0)), (q15, .inl (E.2.2.2 0, 20, zzero 0))]) h zff_X5_15 rfl rfl rfl (Nat.le_of_ble_eq_true rfl) rfl dX5_init_17 ?_
  refine zk_aload_n h dX5_init_20 0 rfl rfl ?_
  refine zk_bipush (v := 20) h dX5_init_21 (by decide) ?_
  refine zk_newa (at' := .int) (t := 0) (ty := .int) (N' := 20) h rfl rfl (zm_3 _ (List.mem_of_getElem? (i := 13) rfl)) (fun _ => rfl) zra_int (by decide) (by decide) (Nat.le_of_ble_eq_true rfl) ⟨Nat.le_of_ble_eq_true rfl, Nat.le_of_ble_eq_true rfl⟩ dX5_init_23 (fun q23 => ?_)
  refine zk_ws (ws' := [(h0, .inr (5, [.int 0, .ref q7, .ref q15, .null])), (q7, .inl (E.2.2.2 0, 20, zzero 0)), (q15, .inl (E.2.2.2 0, 20, zzero 0)), (q23, .inl (E.2.2.2 0, 20, zzero 0))]) h rfl ?_
  refine zk_putF (q0 := 0) (ws' := [(h0, .inr (5, [.int 0, .ref q7, .ref q15, .ref q23])), (q7, .inl (E.2.2.2 0, 20, zzero 0)), (q15, .inl (E.2.2.2 0, 20, zzero 0)), (q23, .inl (E.2.2.2 0, 20, zzero 0))]) h zff_X5_18 rfl rfl rfl (Nat.le_of_ble_eq_true rfl) rfl dX5_init_25 ?_
  refine zk_aload_n h dX5_init_28 0 rfl rfl ?_
  refine zk_iload_n h dX5_init_29 1 rfl rfl ?_
  refine zk_putF (q0 := 0) (ws' := [(h0, .inr (5, [.int p1, .ref q7, .ref q15, .ref q23])), (q7, .inl (E.2.2.2 0, 20, zzero 0)), (q15, .inl (E.2.2.2 0, 20, zzero 0)), (q23, .inl (E.2.2.2 0, 20, zzero 0))]) h zff_X5_21 rfl (by rcases zisB_or hp1 with rfl | rfl <;> rfl) (by rcases zisB_or hp1 with rfl | rfl <;> rfl) (Nat.le_of_ble_eq_true rfl) rfl dX5_init_30 ?_
  exact hret (fun k => [h0, q7, q15, q23].getD k 0) _ _ trivial dX5_init_33
theorem dX9_init_0 : decode cX9_init 0 = .ok (.aload_n 0, 1) := by decide +kernel
theorem dX9_init_1 : decode cX9_init 1 = .ok (.invokespecial 3, 3) := by decide +kernel
theorem dX9_init_4 : decode cX9_init 4 = .ok (.aload_n 0, 1) := by decide +kernel
theorem dX9_init_5 : decode cX9_init 5 = .ok (.bipush 20, 2) := by decide +kernel
theorem dX9_init_7 : decode cX9_init 7 = .ok (.newarray .int, 2) := by decide +kernel
theorem dX9_init_9 : decode cX9_init 9 = .ok (.putfield 9, 3) := by decide +kernel
theorem dX9_init_12 : decode cX9_init 12 = .ok (.aload_n 0, 1) := by decide +kernel
theorem dX9_init_13 : decode cX9_init 13 = .ok (.bipush 20, 2) := by decide +kernel
theorem dX9_init_15 : decode cX9_init 15 = .ok (.newarray .int, 2) := by decide +kernel
theorem dX9_init_17 : decode cX9_init 17 = .ok (.putfield 15, 3) := by decide +kernel
theorem dX9_init_20 : decode cX9_init 20 = .ok (.aload_n 0, 1) := by decide +kernel
theorem dX9_init_21 : decode cX9_init 21 = .ok (.bipush 20, 2) := by decide +kernel
theorem dX9_init_23 : decode cX9_init 23 = .ok (.newarray .int, 2) := by decide +kernel
theorem dX9_init_25 : decode cX9_init 25 = .ok (.putfield 18, 3) := by decide +kernel
theorem dX9_init_28 : decode cX9_init 28 = .ok (.aload_n 0, 1) := by decide +kernel
theorem dX9_init_29 : decode cX9_init 29 = .ok (.bipush 20, 2) := by decide +kernel
theorem dX9_init_31 : decode cX9_init 31 = .ok (.newarray .int, 2) := by decide +kernel
theorem dX9_init_33 : decode cX9_init 33 = .ok (.putfield 21, 3) := by decide +kernel
theorem dX9_init_36 : decode cX9_init 36 = .ok (.return_, 1) := by decide +kernel
set_option maxRecDepth 100000 in
set_option maxHeartbeats 4000000 in
theorem ci_X9 (E : ZEv) (h0 : Nat) : zCI (S := Nat → Nat) E yX9_init cX9_init 1 0 4 80 [.ref h0] [(h0, .inr (9, [.null, .null, .null, .null, .int 0, .int 0, .int 0]))] (fun _ => True) (fun u => [(h0, .inr (9, [.ref (u 1), .ref (u 2), .ref (u 3), .ref (u 4), .int 0, .int 0, .int 0])), ((u 1), .inl (E.2.2.2 0, 20, zzero 0)), ((u 2), .inl (E.2.2.2 0, 20, zzero 0)), ((u 3), .inl (E.2.2.2 0, 20, zzero 0)), ((u 4), .inl (E.2.2.2 0, 20, zzero 0))]) := by
  refine zci_of (L0 := [(0, .ref h0)]) (by decide) rfl rfl (Nat.le_of_ble_eq_true rfl) (fun G Q A p e s m args below meth c h hret => ?_)
  have h : zKu E G (zrk 0 4 80) Q A cX9_init RX9 1 "<init>" p e s m args below meth c := h
  refine zk_aload_n h dX9_init_0 0 rfl rfl ?_
  refine zk_obj h zoi_X9 ⟨Nat.le_of_ble_eq_true rfl, Nat.le_of_ble_eq_true rfl⟩ (Nat.le_of_ble_eq_true rfl) dX9_init_1 ?_
  refine zk_aload_n h dX9_init_4 0 rfl rfl ?_
  refine zk_bipush (v := 20) h dX9_init_5 (by decide) ?_
  refine zk_newa (at' := .int) (t := 0) (ty := .int) (N' := 20) h rfl rfl (zm_3 _ (List.mem_of_getElem? (i := 13) rfl)) (fun _ => rfl) zra_int (by decide) (by decide) (Nat.le_of_ble_eq_true rfl) ⟨Nat.le_of_ble_eq_true rfl, Nat.le_of_ble_eq_true rfl⟩ dX9_init_7 (fun q7 => ?_)
  refine zk_ws (ws' := [(h0, .inr (9, [.null, .null, .null, .null, .int 0, .int 0, .int 0])), (q7, .inl (E.2.2.2 0, 20, zzero 0))]) h rfl ?_
  refine zk_putF (q0 := 0) (ws' := [(h0, .inr (9, [.ref q7, .null, .null, .null, .int 0, .int 0, .int 0])), (q7, .inl (E.2.2.2 0, 20, zzero 0))]) h zff_X9_9 rfl rfl rfl (Nat.le_of_ble_eq_true rfl) rfl dX9_init_9 ?_
  refine zk_aload_n h dX9_init_12 0 rfl rfl ?_
  refine zk_bipush (v := 20) h dX9_init_13 (by decide) ?_
  refine zk_newa (at' := .int) (t := 0) (ty := .int) (N' := 20) h rfl rfl (zm_3 _ (List.mem_of_getElem? (i := 13) rfl)) (fun _ => rfl) zra_int (by decide) (by decide) (Nat.le_of_ble_eq_true rfl) ⟨Nat.le_of_ble_eq_true rfl, Nat.le_of_ble_eq_true rfl⟩ dX9_init_15 (fun q15 => ?_)
  refine zk_ws (ws' := [(h0, .inr (9, [.ref q7, .null, .null, .null, .int 0, .int 0, .int 0])), (q7, .inl (E.2.2.2 0, 20, zzero 0)), (q15, .inl (E.2.2.2 0, 20, zzero 0))]) h rfl ?_
  refine zk_putF (q0 := 0) (ws' := [(h0, .inr (9, [.ref q7, .ref q15, .null, .null, .int 0, .int 0, .int 0])), (q7, .inl (E.2.2.2 0, 20, zzero 0)), (q15, .inl (E.2.2.2 0, 20, zzero 0))]) h zff_X9_15 rfl rfl rfl (Nat.le_of_ble_eq_true rfl) rfl dX9_init_17 ?_
  refine zk_aload_n h dX9_init_20 0 rfl rfl ?_
  refine zk_bipush (v := 20) h dX9_init_21 (by decide) ?_
  refine zk_newa (at' := .int) (t := 0) (ty := .int) (N' := 20) h rfl rfl (zm_3 _ (List.mem_of_getElem? (i := 13) rfl)) (fun _ => rfl) zra_int (by decide) (by decide) (Nat.le_of_ble_eq_true rfl) ⟨Nat.le_of_ble_eq_true rfl, Nat.le_of_ble_eq_true rfl⟩ dX9_init_23 (fun q23 => ?_)
  refine zk_ws (ws' := [(h0, .inr (9, [.ref q7, .ref q15, .null, .null, .int 0, .int 0, .int 0])), (q7, .inl (E.2.2.2 0, 20, zzero 0)), (q15, .inl (E.2.2.2 0, 20, zzero 0)), (q23, .inl (E.2.2.2 0, 20, zzero 0))]) h rfl ?_
  refine zk_putF (q0 := 0) (ws' := [(h0, .inr (9, [.ref q7, .ref q15, .ref q23, .null, .int 0, .int 0, .int 0])), (q7, .inl (E.2.2.2 0, 20, zzero 0)), (q15, .inl (E.2.2.2 0, 20, zzero 0)), (q23, .inl (E.2.2.2 0, 20, zzero 0))]) h zff_X9_18 rfl rfl rfl (Nat.le_of_ble_eq_true rfl) rfl dX9_init_25 ?_
  refine zk_aload_n h dX9_init_28 0 rfl rfl ?_
  refine zk_bipush (v := 20) h dX9_init_29 (by decide) ?_
  refine zk_newa (at' := .int) (t := 0) (ty := .int) (N' := 20) h rfl rfl (zm_3 _ (List.mem_of_getElem? (i := 13) rfl)) (fun _ => rfl) zra_int (by decide) (by decide) (Nat.le_of_ble_eq_true rfl) ⟨Nat.le_of_ble_eq_true rfl, Nat.le_of_ble_eq_true rfl⟩ dX9_init_31 (fun q31 => ?_)
  refine zk_ws (ws' := [(h0, .inr (9, [.ref q7, .ref q15, .ref q23, .null, .int 0, .int 0, .int 0])), (q7, .inl (E.2.2.2 0, 20, zzero 0)), (q15, .inl (E.2.2.2 0, 20, zzero 0)), (q23, .inl (E.2.2.2 0, 20, zzero 0)), (q31, .inl (E.2.2.2 0, 20, zzero 0))]) h rfl ?_
  refine zk_putF (q0 := 0) (ws' := [(h0, .inr (9, [.ref q7, .ref q15, .ref q23, .ref q31, .int 0, .int 0, .int 0])), (q7, .inl (E.2.2.2 0, 20, zzero 0)), (q15, .inl (E.2.2.2 0, 20, zzero 0)), (q23, .inl (E.2.2.2 0, 20, zzero 0)), (q31, .inl (E.2.2.2 0, 20, zzero 0))]) h zff_X9_21 rfl rfl rfl (Nat.le_of_ble_eq_true rfl) rfl dX9_init_33 ?_
  exact hret (fun k => [h0, q7, q15, q23, q31].getD k 0) _ _ trivial dX9_init_36
theorem dX3_init_0 : decode cX3_init 0 = .ok (.aload_n 0, 1) := by decide +kernel
theorem dX3_init_1 : decode cX3_init 1 = .ok (.invokespecial 3, 3) := by decide +kernel
theorem dX3_init_4 : decode cX3_init 4 = .ok (.aload_n 0, 1) := by decide +kernel
theorem dX3_init_5 : decode cX3_init 5 = .ok (.sipush 480, 3) := by decide +kernel
theorem dX3_init_8 : decode cX3_init 8 = .ok (.newarray .boolean, 2) := by decide +kernel
theorem dX3_init_10 : decode cX3_init 10 = .ok (.putfield 9, 3) := by decide +kernel
theorem dX3_init_13 : decode cX3_init 13 = .ok (.aload_n 0, 1) := by decide +kernel
theorem dX3_init_14 : decode cX3_init 14 = .ok (.bipush 20, 2) := by decide +kernel
theorem dX3_init_16 : decode cX3_init 16 = .ok (.newarray .int, 2) := by decide +kernel
theorem dX3_init_18 : decode cX3_init 18 = .ok (.putfield 15, 3) := by decide +kernel
theorem dX3_init_21 : decode cX3_init 21 = .ok (.aload_n 0, 1) := by decide +kernel
theorem dX3_init_22 : decode cX3_init 22 = .ok (.bipush 20, 2) := by decide +kernel
theorem dX3_init_24 : decode cX3_init 24 = .ok (.newarray .int, 2) := by decide +kernel
theorem dX3_init_26 : decode cX3_init 26 = .ok (.putfield 19, 3) := by decide +kernel
theorem dX3_init_29 : decode cX3_init 29 = .ok (.aload_n 0, 1) := by decide +kernel
theorem dX3_init_30 : decode cX3_init 30 = .ok (.bipush 20, 2) := by decide +kernel
theorem dX3_init_32 : decode cX3_init 32 = .ok (.newarray .int, 2) := by decide +kernel
theorem dX3_init_34 : decode cX3_init 34 = .ok (.putfield 22, 3) := by decide +kernel
theorem dX3_init_37 : decode cX3_init 37 = .ok (.aload_n 0, 1) := by decide +kernel
theorem dX3_init_38 : decode cX3_init 38 = .ok (.aload_n 1, 1) := by decide +kernel
theorem dX3_init_39 : decode cX3_init 39 = .ok (.putfield 25, 3) := by decide +kernel
theorem dX3_init_42 : decode cX3_init 42 = .ok (.aload_n 0, 1) := by decide +kernel
theorem dX3_init_43 : decode cX3_init 43 = .ok (.aload_n 2, 1) := by decide +kernel
theorem dX3_init_44 : decode cX3_init 44 = .ok (.putfield 29, 3) := by decide +kernel
theorem dX3_init_47 : decode cX3_init 47 = .ok (.aload_n 0, 1) := by decide +kernel
theorem dX3_init_48 : decode cX3_init 48 = .ok (.aload_n 3, 1) := by decide +kernel
theorem dX3_init_49 : decode cX3_init 49 = .ok (.putfield 33, 3) := by decide +kernel
theorem dX3_init_52 : decode cX3_init 52 = .ok (.return_, 1) := by decide +kernel
set_option maxRecDepth 100000 in
set_option maxHeartbeats 4000000 in
theorem ci_X3 (E : ZEv) (h0 : Nat) (p1 : Nat) (p2 : Nat) (p3 : Nat) : zCI (S := Nat → Nat) E yX3_init cX3_init 4 0 4 540 [.ref h0, .ref p1, .ref p2, .ref p3] [(h0, .inr (3, [.null, .null, .null, .null, .null, .null, .null, .int 0, .int 0]))] (fun _ => True) (fun u => [(h0, .inr (3, [.ref p1, .ref p2, .ref p3, .ref (u 1), .ref (u 2), .ref (u 3), .ref (u 4), .int 0, .int 0])), ((u 1), .inl (E.2.2.2 1, 480, zzero 1)), ((u 2), .inl (E.2.2.2 0, 20, zzero 0)), ((u 3), .inl (E.2.2.2 0, 20, zzero 0)), ((u 4), .inl (E.2.2.2 0, 20, zzero 0))]) := by
  refine zci_of (L0 := [(0, .ref h0), (1, .ref p1), (2, .ref p2), (3, .ref p3)]) (by decide) rfl rfl (Nat.le_of_ble_eq_true rfl) (fun G Q A p e s m args below meth c h hret => ?_)
  have h : zKu E G (zrk 0 4 540) Q A cX3_init RX3 4 "<init>" p e s m args below meth c := h
  refine zk_aload_n h dX3_init_0 0 rfl rfl ?_
  refine zk_obj h zoi_X3 ⟨Nat.le_of_ble_eq_true rfl, Nat.le_of_ble_eq_true rfl⟩ (Nat.le_of_ble_eq_true rfl) dX3_init_1 ?_
  refine zk_aload_n h dX3_init_4 0 rfl rfl ?_
  refine zk_sipush (v := 480) h dX3_init_5 (by decide) ?_
  refine zk_newa (at' := .boolean) (t := 1) (ty := .boolean) (N' := 480) h rfl rfl (zm_4 _ (List.mem_of_getElem? (i := 22) rfl)) (fun _ => rfl) zra_boolean (by decide) (by decide) (Nat.le_of_ble_eq_true rfl) ⟨Nat.le_of_ble_eq_true rfl, Nat.le_of_ble_eq_true rfl⟩ dX3_init_8 (fun q8 => ?_)
  refine zk_ws (ws' := [(h0, .inr (3, [.null, .null, .null, .null, .null, .null, .null, .int 0, .int 0])), (q8, .inl (E.2.2.2 1, 480, zzero 1))]) h rfl ?_
  refine zk_putF (q0 := 0) (ws' := [(h0, .inr (3, [.null, .null, .null, .ref q8, .null, .null, .null, .int 0, .int 0])), (q8, .inl (E.2.2.2 1, 480, zzero 1))]) h zff_X3_9 rfl rfl rfl (Nat.le_of_ble_eq_true rfl) rfl dX3_init_10 ?_
  refine zk_aload_n h dX3_init_13 0 rfl rfl ?_
  refine zk_bipush (v := 20) h dX3_init_14 (by decide) ?_
  refine zk_newa (at' := .int) (t := 0) (ty := .int) (N' := 20) h rfl rfl (zm_3 _ (List.mem_of_getElem? (i := 13) rfl)) (fun _ => rfl) zra_int (by decide) (by decide) (Nat.le_of_ble_eq_true rfl) ⟨Nat.le_of_ble_eq_true rfl, Nat.le_of_ble_eq_true rfl⟩ dX3_init_16 (fun q16 => ?_)
  refine zk_ws (ws' := [(h0, .inr (3, [.null, .null, .null, .ref q8, .null, .null, .null, .int 0, .int 0])), (q8, .inl (E.2.2.2 1, 480, zzero 1)), (q16, .inl (E.2.2.2 0, 20, zzero 0))]) h rfl ?_
  refine zk_putF (q0 := 0) (ws' := [(h0, .inr (3, [.null, .null, .null, .ref q8, .ref q16, .null, .null, .int 0, .int 0])), (q8, .inl (E.2.2.2 1, 480, zzero 1)), (q16, .inl (E.2.2.2 0, 20, zzero 0))]) h zff_X3_15 rfl rfl rfl (Nat.le_of_ble_eq_true rfl) rfl dX3_init_18 ?_
  refine zk_aload_n h dX3_init_21 0 rfl rfl ?_
  refine zk_bipush (v := 20) h dX3_init_22 (by decide) ?_
  refine zk_newa (at' := .int) (t := 0) (ty := .int) (N' := 20) h rfl rfl (zm_3 _ (List.mem_of_getElem? (i := 13) rfl)) (fun _ => rfl) zra_int (by decide) (by decide) (Nat.le_of_ble_eq_true rfl) ⟨Nat.le_of_ble_eq_true rfl, Nat.le_of_ble_eq_true rfl⟩ dX3_init_24 (fun q24 => ?_)
  refine zk_ws (ws' := [(h0, .inr (3, [.null, .null, .null, .ref q8, .ref q16, .null, .null, .int 0, .int 0])), (q8, .inl (E.2.2.2 1, 480, zzero 1)), (q16, .inl (E.2.2.2 0, 20, zzero 0)), (q24, .inl (E.2.2.2 0, 20, zzero 0))]) h rfl ?_
  refine zk_putF (q0 := 0) (ws' := [(h0, .inr (3, [.null, .null, .null, .ref q8, .ref q16, .ref q24, .null, .int 0, .int 0])), (q8, .inl (E.2.2.2 1, 480, zzero 1)), (q16, .inl (E.2.2.2 0, 20, zzero 0)), (q24, .inl (E.2.2.2 0, 20, zzero 0))]) h zff_X3_19 rfl rfl rfl (Nat.le_of_ble_eq_true rfl) rfl dX3_init_26 ?_
  refine zk_aload_n h dX3_init_29 0 rfl rfl ?_
  refine zk_bipush (v := 20) h dX3_init_30 (by decide) ?_
  refine zk_newa (at' := .int) (t := 0) (ty := .int) (N' := 20) h rfl rfl (zm_3 _ (List.mem_of_getElem? (i := 13) rfl)) (fun _ => rfl) zra_int (by decide) (by decide) (Nat.le_of_ble_eq_true rfl) ⟨Nat.le_of_ble_eq_true rfl, Nat.le_of_ble_eq_true rfl⟩ dX3_init_32 (fun q32 => ?_)
  refine zk_ws (ws' := [(h0, .inr (3, [.null, .null, .null, .ref q8, .ref q16, .ref q24, .null, .int 0, .int 0])), (q8, .inl (E.2.2.2 1, 480, zzero 1)), (q16, .inl (E.2.2.2 0, 20, zzero 0)), (q24, .inl (E.2.2.2 0, 20, zzero 0)), (q32, .inl (E.2.2.2 0, 20, zzero 0))]) h rfl ?_
  refine zk_putF (q0 := 0) (ws' := [(h0, .inr (3, [.null, .null, .null, .ref q8, .ref q16, .ref q24, .ref q32, .int 0, .int 0])), (q8, .inl (E.2.2.2 1, 480, zzero 1)), (q16, .inl (E.2.2.2 0, 20, zzero 0)), (q24, .inl (E.2.2.2 0, 20, zzero 0)), (q32, .inl (E.2.2.2 0, 20, zzero 0))]) h zff_X3_22 rfl rfl rfl (Nat.le_of_ble_eq_true rfl) rfl dX3_init_34 ?_
  refine zk_aload_n h dX3_init_37 0 rfl rfl ?_
  refine zk_aload_n h dX3_init_38 1 rfl rfl ?_
  refine zk_putF (q0 := 0) (ws' := [(h0, .inr (3, [.ref p1, .null, .null, .ref q8, .ref q16, .ref q24, .ref q32, .int 0, .int 0])), (q8, .inl (E.2.2.2 1, 480, zzero 1)), (q16, .inl (E.2.2.2 0, 20, zzero 0)), (q24, .inl (E.2.2.2 0, 20, zzero 0)), (q32, .inl (E.2.2.2 0, 20, zzero 0))]) h zff_X3_25 rfl rfl rfl (Nat.le_of_ble_eq_true rfl) rfl dX3_init_39 ?_
  refine zk_aload_n h dX3_init_42 0 rfl rfl ?_
  refine zk_aload_n h dX3_init_43 2 rfl rfl ?_
  refine zk_putF (q0 := 0) (ws' := [(h0, .inr (3, [.ref p1, .ref p2, .null, .ref q8, .ref q16, .ref q24, .ref q32, .int 0, .int 0])), (q8, .inl (E.2.2.2 1, 480, zzero 1)), (q16, .inl (E.2.2.2 0, 20, zzero 0)), (q24, .inl (E.2.2.2 0, 20, zzero 0)), (q32, .inl (E.2.2.2 0, 20, zzero 0))]) h zff_X3_29 rfl rfl rfl (Nat.le_of_ble_eq_true rfl) rfl dX3_init_44 ?_
  refine zk_aload_n h dX3_init_47 0 rfl rfl ?_
  refine zk_aload_n h dX3_init_48 3 rfl rfl ?_
  refine zk_putF (q0 := 0) (ws' := [(h0, .inr (3, [.ref p1, .ref p2, .ref p3, .ref q8, .ref q16, .ref q24, .ref q32, .int 0, .int 0])), (q8, .inl (E.2.2.2 1, 480, zzero 1)), (q16, .inl (E.2.2.2 0, 20, zzero 0)), (q24, .inl (E.2.2.2 0, 20, zzero 0)), (q32, .inl (E.2.2.2 0, 20, zzero 0))]) h zff_X3_33 rfl rfl rfl (Nat.le_of_ble_eq_true rfl) rfl dX3_init_49 ?_
  exact hret (fun k => [h0, q8, q16, q24, q32].getD k 0) _ _ trivial dX3_init_52
theorem dX10_init_0 : decode cX10_init 0 = .ok (.aload_n 0, 1) := by decide +kernel
theorem dX10_init_1 : decode cX10_init 1 = .ok (.invokespecial 3, 3) := by decide +kernel
theorem dX10_init_4 : decode cX10_init 4 = .ok (.aload_n 0, 1) := by decide +kernel
theorem dX10_init_5 : decode cX10_init 5 = .ok (.sipush 2160, 3) := by decide +kernel
theorem dX10_init_8 : decode cX10_init 8 = .ok (.newarray .long, 2) := by decide +kernel
theorem dX10_init_10 : decode cX10_init 10 = .ok (.putfield 9, 3) := by decide +kernel
theorem dX10_init_13 : decode cX10_init 13 = .ok (.aload_n 0, 1) := by decide +kernel
theorem dX10_init_14 : decode cX10_init 14 = .ok (.bipush 48, 2) := by decide +kernel
theorem dX10_init_16 : decode cX10_init 16 = .ok (.newarray .long, 2) := by decide +kernel
theorem dX10_init_18 : decode cX10_init 18 = .ok (.putfield 15, 3) := by decide +kernel
theorem dX10_init_21 : decode cX10_init 21 = .ok (.aload_n 0, 1) := by decide +kernel
theorem dX10_init_22 : decode cX10_init 22 = .ok (.iconst 4, 1) := by decide +kernel
theorem dX10_init_23 : decode cX10_init 23 = .ok (.newarray .int, 2) := by decide +kernel
theorem dX10_init_25 : decode cX10_init 25 = .ok (.putfield 18, 3) := by decide +kernel
theorem dX10_init_28 : decode cX10_init 28 = .ok (.aload_n 0, 1) := by decide +kernel
theorem dX10_init_29 : decode cX10_init 29 = .ok (.iconst 4, 1) := by decide +kernel
theorem dX10_init_30 : decode cX10_init 30 = .ok (.newarray .int, 2) := by decide +kernel
theorem dX10_init_32 : decode cX10_init 32 = .ok (.putfield 22, 3) := by decide +kernel
theorem dX10_init_35 : decode cX10_init 35 = .ok (.aload_n 0, 1) := by decide +kernel
theorem dX10_init_36 : decode cX10_init 36 = .ok (.aload_n 1, 1) := by decide +kernel
theorem dX10_init_37 : decode cX10_init 37 = .ok (.putfield 25, 3) := by decide +kernel
theorem dX10_init_40 : decode cX10_init 40 = .ok (.aload_n 0, 1) := by decide +kernel
theorem dX10_init_41 : decode cX10_init 41 = .ok (.aload_n 2, 1) := by decide +kernel
theorem dX10_init_42 : decode cX10_init 42 = .ok (.putfield 29, 3) := by decide +kernel
theorem dX10_init_45 : decode cX10_init 45 = .ok (.aload_n 0, 1) := by decide +kernel
theorem dX10_init_46 : decode cX10_init 46 = .ok (.aload_n 3, 1) := by decide +kernel
theorem dX10_init_47 : decode cX10_init 47 = .ok (.putfield 33, 3) := by decide +kernel
theorem dX10_init_50 : decode cX10_init 50 = .ok (.aload_n 0, 1) := by decide +kernel
theorem dX10_init_51 : decode cX10_init 51 = .ok (.aload 4, 2) := by decide +kernel
theorem dX10_init_53 : decode cX10_init 53 = .ok (.putfield 37, 3) := by decide +kernel
theorem dX10_init_56 : decode cX10_init 56 = .ok (.aload_n 0, 1) := by decide +kernel
theorem dX10_init_57 : decode cX10_init 57 = .ok (.aload 5, 2) := by decide +kernel
theorem dX10_init_59 : decode cX10_init 59 = .ok (.putfield 41, 3) := by decide +kernel
theorem dX10_init_62 : decode cX10_init 62 = .ok (.return_, 1) := by decide +kernel
set_option maxRecDepth 100000 in
set_option maxHeartbeats 4000000 in
theorem ci_X10 (E : ZEv) (h0 : Nat) (p1 : Nat) (p2 : Nat) (p3 : Nat) (p4 : Nat) (p5 : Nat) : zCI (S := Nat → Nat) E yX10_init cX10_init 6 0 4 2216 [.ref h0, .ref p1, .ref p2, .ref p3, .ref p4, .ref p5] [(h0, .inr (10, [.null, .null, .null, .null, .null, .null, .null, .null, .null, .int 0]))] (fun _ => True) (fun u => [(h0, .inr (10, [.ref p1, .ref p2, .ref p3, .ref p4, .ref p5, .ref (u 1), .ref (u 2), .ref (u 3), .ref (u 4), .int 0])), ((u 1), .inl (E.2.2.2 3, 2160, zzero 3)), ((u 2), .inl (E.2.2.2 3, 48, zzero 3)), ((u 3), .inl (E.2.2.2 0, 4, zzero 0)), ((u 4), .inl (E.2.2.2 0, 4, zzero 0))]) := by
  refine zci_of (L0 := [(0, .ref h0), (1, .ref p1), (2, .ref p2), (3, .ref p3), (4, .ref p4), (5, .ref p5)]) (by decide) rfl rfl (Nat.le_of_ble_eq_true rfl) (fun G Q A p e s m args below meth c h hret => ?_)
  have h : zKu E G (zrk 0 4 2216) Q A cX10_init RX10 6 "<init>" p e s m args below meth c := h
  refine zk_aload_n h dX10_init_0 0 rfl rfl ?_
  refine zk_obj h zoi_X10 ⟨Nat.le_of_ble_eq_true rfl, Nat.le_of_ble_eq_true rfl⟩ (Nat.le_of_ble_eq_true rfl) dX10_init_1 ?_
  refine zk_aload_n h dX10_init_4 0 rfl rfl ?_
  refine zk_sipush (v := 2160) h dX10_init_5 (by decide) ?_
  refine zk_newa (at' := .long) (t := 3) (ty := .long) (N' := 2160) h rfl rfl (zm_6 _ (List.mem_of_getElem? (i := 0) rfl)) (fun _ => rfl) zra_long (by decide) (by decide) (Nat.le_of_ble_eq_true rfl) ⟨Nat.le_of_ble_eq_true rfl, Nat.le_of_ble_eq_true rfl⟩ dX10_init_8 (fun q8 => ?_)
  refine zk_ws (ws' := [(h0, .inr (10, [.null, .null, .null, .null, .null, .null, .null, .null, .null, .int 0])), (q8, .inl (E.2.2.2 3, 2160, zzero 3))]) h rfl ?_
  refine zk_putF (q0 := 0) (ws' := [(h0, .inr (10, [.null, .null, .null, .null, .null, .ref q8, .null, .null, .null, .int 0])), (q8, .inl (E.2.2.2 3, 2160, zzero 3))]) h zff_X10_9 rfl rfl rfl (Nat.le_of_ble_eq_true rfl) rfl dX10_init_10 ?_
  refine zk_aload_n h dX10_init_13 0 rfl rfl ?_
  refine zk_bipush (v := 48) h dX10_init_14 (by decide) ?_
  refine zk_newa (at' := .long) (t := 3) (ty := .long) (N' := 48) h rfl rfl (zm_6 _ (List.mem_of_getElem? (i := 0) rfl)) (fun _ => rfl) zra_long (by decide) (by decide) (Nat.le_of_ble_eq_true rfl) ⟨Nat.le_of_ble_eq_true rfl, Nat.le_of_ble_eq_true rfl⟩ dX10_init_16 (fun q16 => ?_)
  refine zk_ws (ws' := [(h0, .inr (10, [.null, .null, .null, .null, .null, .ref q8, .null, .null, .null, .int 0])), (q8, .inl (E.2.2.2 3, 2160, zzero 3)), (q16, .inl (E.2.2.2 3, 48, zzero 3))]) h rfl ?_
  refine zk_putF (q0 := 0) (ws' := [(h0, .inr (10, [.null, .null, .null, .null, .null, .ref q8, .ref q16, .null, .null, .int 0])), (q8, .inl (E.2.2.2 3, 2160, zzero 3)), (q16, .inl (E.2.2.2 3, 48, zzero 3))]) h zff_X10_15 rfl rfl rfl (Nat.le_of_ble_eq_true rfl) rfl dX10_init_18 ?_
  refine zk_aload_n h dX10_init_21 0 rfl rfl ?_
  refine zk_iconst (v := 4) h dX10_init_22 (by decide) ?_
  refine zk_newa (at' := .int) (t := 0) (ty := .int) (N' := 4) h rfl rfl (zm_3 _ (List.mem_of_getElem? (i := 13) rfl)) (fun _ => rfl) zra_int (by decide) (by decide) (Nat.le_of_ble_eq_true rfl) ⟨Nat.le_of_ble_eq_true rfl, Nat.le_of_ble_eq_true rfl⟩ dX10_init_23 (fun q23 => ?_)
  refine zk_ws (ws' := [(h0, .inr (10, [.null, .null, .null, .null, .null, .ref q8, .ref q16, .null, .null, .int 0])), (q8, .inl (E.2.2.2 3, 2160, zzero 3)), (q16, .inl (E.2.2.2 3, 48, zzero 3)), (q23, .inl (E.2.2.2 0, 4, zzero 0))]) h rfl ?_
  refine zk_putF (q0 := 0) (ws' := [(h0, .inr (10, [.null, .null, .null, .null, .null, .ref q8, .ref q16, .ref q23, .null, .int 0])), (q8, .inl (E.2.2.2 3, 2160, zzero 3)), (q16, .inl (E.2.2.2 3, 48, zzero 3)), (q23, .inl (E.2.2.2 0, 4, zzero 0))]) h zff_X10_18 rfl rfl rfl (Nat.le_of_ble_eq_true rfl) rfl dX10_init_25 ?_
  refine zk_aload_n h dX10_init_28 0 rfl rfl ?_
  refine zk_iconst (v := 4) h dX10_init_29 (by decide) ?_
  refine zk_newa (at' := .int) (t := 0) (ty := .int) (N' := 4) h rfl rfl (zm_3 _ (List.mem_of_getElem? (i := 13) rfl)) (fun _ => rfl) zra_int (by decide) (by decide) (Nat.le_of_ble_eq_true rfl) ⟨Nat.le_of_ble_eq_true rfl, Nat.le_of_ble_eq_true rfl⟩ dX10_init_30 (fun q30 => ?_)
  refine zk_ws (ws' := [(h0, .inr (10, [.null, .null, .null, .null, .null, .ref q8, .ref q16, .ref q23, .null, .int 0])), (q8, .inl (E.2.2.2 3, 2160, zzero 3)), (q16, .inl (E.2.2.2 3, 48, zzero 3)), (q23, .inl (E.2.2.2 0, 4, zzero 0)), (q30, .inl (E.2.2.2 0, 4, zzero 0))]) h rfl ?_
  refine zk_putF (q0 := 0) (ws' := [(h0, .inr (10, [.null, .null, .null, .null, .null, .ref q8, .ref q16, .ref q23, .ref q30, .int 0])), (q8, .inl (E.2.2.2 3, 2160, zzero 3)), (q16, .inl (E.2.2.2 3, 48, zzero 3)), (q23, .inl (E.2.2.2 0, 4, zzero 0)), (q30, .inl (E.2.2.2 0, 4, zzero 0))]) h zff_X10_22 rfl rfl rfl (Nat.le_of_ble_eq_true rfl) rfl dX10_init_32 ?_
  refine zk_aload_n h dX10_init_35 0 rfl rfl ?_
  refine zk_aload_n h dX10_init_36 1 rfl rfl ?_
  refine zk_putF (q0 := 0) (ws' := [(h0, .inr (10, [.ref p1, .null, .null, .null, .null, .ref q8, .ref q16, .ref q23, .ref q30, .int 0])), (q8, .inl (E.2.2.2 3, 2160, zzero 3)), (q16, .inl (E.2.2.2 3, 48, zzero 3)), (q23, .inl (E.2.2.2 0, 4, zzero 0)), (q30, .inl (E.2.2.2 0, 4, zzero 0))]) h zff_X10_25 rfl rfl rfl (Nat.le_of_ble_eq_true rfl) rfl dX10_init_37 ?_
  refine zk_aload_n h dX10_init_40 0 rfl rfl ?_
  refine zk_aload_n h dX10_init_41 2 rfl rfl ?_
  refine zk_putF (q0 := 0) (ws' := [(h0, .inr (10, [.ref p1, .ref p2, .null, .null, .null, .ref q8, .ref q16, .ref q23, .ref q30, .int 0])), (q8, .inl (E.2.2.2 3, 2160, zzero 3)), (q16, .inl (E.2.2.2 3, 48, zzero 3)), (q23, .inl (E.2.2.2 0, 4, zzero 0)), (q30, .inl (E.2.2.2 0, 4, zzero 0))]) h zff_X10_29 rfl rfl rfl (Nat.le_of_ble_eq_true rfl) rfl dX10_init_42 ?_
  refine zk_aload_n h dX10_init_45 0 rfl rfl ?_
  refine zk_aload_n h dX10_init_46 3 rfl rfl ?_
  refine zk_putF (q0 := 0) (ws' := [(h0, .inr (10, [.ref p1, .ref p2, .ref p3, .null, .null, .ref q8, .ref q16, .ref q23, .ref q30, .int 0])), (q8, .inl (E.2.2.2 3, 2160, zzero 3)), (q16, .inl (E.2.2.2 3, 48, zzero 3)), (q23, .inl (E.2.2.2 0, 4, zzero 0)), (q30, .inl (E.2.2.2 0, 4, zzero 0))]) h zff_X10_33 rfl rfl rfl (Nat.le_of_ble_eq_true rfl) rfl dX10_init_47 ?_
  refine zk_aload_n h dX10_init_50 0 rfl rfl ?_
  refine zk_aload h dX10_init_51 4 rfl ?_
  refine zk_putF (q0 := 0) (ws' := [(h0, .inr (10, [.ref p1, .ref p2, .ref p3, .ref p4, .null, .ref q8, .ref q16, .ref q23, .ref q30, .int 0])), (q8, .inl (E.2.2.2 3, 2160, zzero 3)), (q16, .inl (E.2.2.2 3, 48, zzero 3)), (q23, .inl (E.2.2.2 0, 4, zzero 0)), (q30, .inl (E.2.2.2 0, 4, zzero 0))]) h zff_X10_37 rfl rfl rfl (Nat.le_of_ble_eq_true rfl) rfl dX10_init_53 ?_
  refine zk_aload_n h dX10_init_56 0 rfl rfl ?_
  refine zk_aload h dX10_init_57 5 rfl ?_
  refine zk_putF (q0 := 0) (ws' := [(h0, .inr (10, [.ref p1, .ref p2, .ref p3, .ref p4, .ref p5, .ref q8, .ref q16, .ref q23, .ref q30, .int 0])), (q8, .inl (E.2.2.2 3, 2160, zzero 3)), (q16, .inl (E.2.2.2 3, 48, zzero 3)), (q23, .inl (E.2.2.2 0, 4, zzero 0)), (q30, .inl (E.2.2.2 0, 4, zzero 0))]) h zff_X10_41 rfl rfl rfl (Nat.le_of_ble_eq_true rfl) rfl dX10_init_59 ?_
  exact hret (fun k => [h0, q8, q16, q23, q30].getD k 0) _ _ trivial dX10_init_62
