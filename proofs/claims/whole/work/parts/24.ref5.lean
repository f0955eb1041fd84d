theorem dX12_stem_0 : decode cX12_stem 0 = .ok (.aload_n 0, 1) := by decide +kernel
theorem dX12_stem_1 : decode cX12_stem 1 = .ok (.invokevirtual 235, 3) := by decide +kernel
theorem dX12_stem_4 : decode cX12_stem 4 = .ok (.aload_n 0, 1) := by decide +kernel
theorem dX12_stem_5 : decode cX12_stem 5 = .ok (.invokevirtual 337, 3) := by decide +kernel
theorem dX12_stem_8 : decode cX12_stem 8 = .ok (.iload_n 1, 1) := by decide +kernel
theorem dX12_stem_9 : decode cX12_stem 9 = .ok (.iconst (-1), 1) := by decide +kernel
theorem dX12_stem_10 : decode cX12_stem 10 = .ok (.if_icmp .ne 8, 3) := by decide +kernel
theorem dX12_stem_13 : decode cX12_stem 13 = .ok (.aload_n 0, 1) := by decide +kernel
theorem dX12_stem_14 : decode cX12_stem 14 = .ok (.getfield 322, 3) := by decide +kernel
theorem dX12_stem_17 : decode cX12_stem 17 = .ok (.ireturn, 1) := by decide +kernel
theorem dX12_stem_18 : decode cX12_stem 18 = .ok (.iload_n 1, 1) := by decide +kernel
theorem dX12_stem_19 : decode cX12_stem 19 = .ok (.iconst 0, 1) := by decide +kernel
theorem dX12_stem_20 : decode cX12_stem 20 = .ok (.aload_n 0, 1) := by decide +kernel
theorem dX12_stem_21 : decode cX12_stem 21 = .ok (.getfield 322, 3) := by decide +kernel
theorem dX12_stem_24 : decode cX12_stem 24 = .ok (.iconst 1, 1) := by decide +kernel
theorem dX12_stem_25 : decode cX12_stem 25 = .ok (.isub, 1) := by decide +kernel
theorem dX12_stem_26 : decode cX12_stem 26 = .ok (.invokestatic 123, 3) := by decide +kernel
theorem dX12_stem_29 : decode cX12_stem 29 = .ok (.ifCond .eq 13, 3) := by decide +kernel
theorem dX12_stem_32 : decode cX12_stem 32 = .ok (.iload_n 2, 1) := by decide +kernel
theorem dX12_stem_33 : decode cX12_stem 33 = .ok (.iconst 0, 1) := by decide +kernel
theorem dX12_stem_34 : decode cX12_stem 34 = .ok (.bipush 8, 2) := by decide +kernel
theorem dX12_stem_36 : decode cX12_stem 36 = .ok (.invokestatic 123, 3) := by decide +kernel
theorem dX12_stem_39 : decode cX12_stem 39 = .ok (.ifCond .ne 5, 3) := by decide +kernel
theorem dX12_stem_42 : decode cX12_stem 42 = .ok (.iconst (-1), 1) := by decide +kernel
theorem dX12_stem_43 : decode cX12_stem 43 = .ok (.ireturn, 1) := by decide +kernel
theorem dX12_stem_44 : decode cX12_stem 44 = .ok (.aload_n 0, 1) := by decide +kernel
theorem dX12_stem_45 : decode cX12_stem 45 = .ok (.getfield 71, 3) := by decide +kernel
theorem dX12_stem_48 : decode cX12_stem 48 = .ok (.iload_n 1, 1) := by decide +kernel
theorem dX12_stem_49 : decode cX12_stem 49 = .ok (.iaload, 1) := by decide +kernel
theorem dX12_stem_50 : decode cX12_stem 50 = .ok (.istore_n 3, 1) := by decide +kernel
theorem dX12_stem_51 : decode cX12_stem 51 = .ok (.aload_n 0, 1) := by decide +kernel
theorem dX12_stem_52 : decode cX12_stem 52 = .ok (.getfield 56, 3) := by decide +kernel
theorem dX12_stem_55 : decode cX12_stem 55 = .ok (.iload_n 3, 1) := by decide +kernel
theorem dX12_stem_56 : decode cX12_stem 56 = .ok (.iaload, 1) := by decide +kernel
theorem dX12_stem_57 : decode cX12_stem 57 = .ok (.iconst 1, 1) := by decide +kernel
theorem dX12_stem_58 : decode cX12_stem 58 = .ok (.isub, 1) := by decide +kernel
theorem dX12_stem_59 : decode cX12_stem 59 = .ok (.istore 4, 2) := by decide +kernel
theorem dX12_stem_61 : decode cX12_stem 61 = .ok (.aload_n 0, 1) := by decide +kernel
theorem dX12_stem_62 : decode cX12_stem 62 = .ok (.iload_n 3, 1) := by decide +kernel
theorem dX12_stem_63 : decode cX12_stem 63 = .ok (.iload 4, 2) := by decide +kernel
theorem dX12_stem_65 : decode cX12_stem 65 = .ok (.invokevirtual 325, 3) := by decide +kernel
theorem dX12_stem_68 : decode cX12_stem 68 = .ok (.iload_n 2, 1) := by decide +kernel
theorem dX12_stem_69 : decode cX12_stem 69 = .ok (.iconst 2, 1) := by decide +kernel
theorem dX12_stem_70 : decode cX12_stem 70 = .ok (.if_icmp .ge 26, 3) := by decide +kernel
theorem dX12_stem_73 : decode cX12_stem 73 = .ok (.iload_n 2, 1) := by decide +kernel
theorem dX12_stem_74 : decode cX12_stem 74 = .ok (.ifCond .ne 15, 3) := by decide +kernel
theorem dX12_stem_77 : decode cX12_stem 77 = .ok (.aload_n 0, 1) := by decide +kernel
theorem dX12_stem_78 : decode cX12_stem 78 = .ok (.iload 4, 2) := by decide +kernel
theorem dX12_stem_80 : decode cX12_stem 80 = .ok (.invokevirtual 328, 3) := by decide +kernel
theorem dX12_stem_83 : decode cX12_stem 83 = .ok (.invokestatic 268, 3) := by decide +kernel
theorem dX12_stem_86 : decode cX12_stem 86 = .ok (.goto 9, 3) := by decide +kernel
theorem dX12_stem_89 : decode cX12_stem 89 = .ok (.aload_n 0, 1) := by decide +kernel
theorem dX12_stem_90 : decode cX12_stem 90 = .ok (.iload 4, 2) := by decide +kernel
theorem dX12_stem_92 : decode cX12_stem 92 = .ok (.invokevirtual 328, 3) := by decide +kernel
theorem dX12_stem_95 : decode cX12_stem 95 = .ok (.ireturn, 1) := by decide +kernel
theorem dX12_stem_96 : decode cX12_stem 96 = .ok (.iload_n 2, 1) := by decide +kernel
theorem dX12_stem_97 : decode cX12_stem 97 = .ok (.iconst 2, 1) := by decide +kernel
theorem dX12_stem_98 : decode cX12_stem 98 = .ok (.if_icmp .ne 8, 3) := by decide +kernel
theorem dX12_stem_101 : decode cX12_stem 101 = .ok (.iload 4, 2) := by decide +kernel
theorem dX12_stem_103 : decode cX12_stem 103 = .ok (.goto 23, 3) := by decide +kernel
theorem dX12_stem_106 : decode cX12_stem 106 = .ok (.iload_n 2, 1) := by decide +kernel
theorem dX12_stem_107 : decode cX12_stem 107 = .ok (.iconst 3, 1) := by decide +kernel
theorem dX12_stem_108 : decode cX12_stem 108 = .ok (.isub, 1) := by decide +kernel
theorem dX12_stem_109 : decode cX12_stem 109 = .ok (.iload 4, 2) := by decide +kernel
theorem dX12_stem_111 : decode cX12_stem 111 = .ok (.if_icmp .ge 14, 3) := by decide +kernel
theorem dX12_stem_114 : decode cX12_stem 114 = .ok (.aload_n 0, 1) := by decide +kernel
theorem dX12_stem_115 : decode cX12_stem 115 = .ok (.getfield 53, 3) := by decide +kernel
theorem dX12_stem_118 : decode cX12_stem 118 = .ok (.iload_n 2, 1) := by decide +kernel
theorem dX12_stem_119 : decode cX12_stem 119 = .ok (.iconst 3, 1) := by decide +kernel
theorem dX12_stem_120 : decode cX12_stem 120 = .ok (.isub, 1) := by decide +kernel
theorem dX12_stem_121 : decode cX12_stem 121 = .ok (.iaload, 1) := by decide +kernel
theorem dX12_stem_122 : decode cX12_stem 122 = .ok (.goto 4, 3) := by decide +kernel
theorem dX12_stem_125 : decode cX12_stem 125 = .ok (.iconst (-1), 1) := by decide +kernel
theorem dX12_stem_126 : decode cX12_stem 126 = .ok (.ireturn, 1) := by decide +kernel
noncomputable def f_X12_stem (M : ZMem) (x1 : Int32) (x2 : Int32) : Option (ZMem × Int32) := zbind (f_X12_lays M) (fun M_1 => zbind (f_X12_laysStems M_1) (fun M_5 => if x1 = (zI (-1)) then some (M_5, (M_5.1 0 32)) else zbind (f_X12_in M_5 x1 (zI 0) ((M_5.1 0 32) - (zI 1))) (fun r_26 => if r_26 = (zI 0) then some (M_5, (zI (-1))) else zbind (f_X12_in M_5 x2 (zI 0) (zI 8)) (fun r_36 => if r_36 = (zI 0) then some (M_5, (zI (-1))) else zchk (zin x1 240) (zbnd (M_5.1 21 (zix x1)) (fun x3_50 => zchk (zin x3_50 241) (zbnd ((M_5.1 16 (zix x3_50)) - (zI 1)) (fun x4_59 => zbind (f_X12_laysPiece M_5 x3_50 x4_59) (fun M_65 => if (zI 2) ≤ x2 then if x2 = (zI 2) then some (M_65, x4_59) else if x4_59 ≤ (x2 - (zI 3)) then some (M_65, (zI (-1))) else zchk (zin (x2 - (zI 3)) 7) (some (M_65, (M_65.1 15 (zix (x2 - (zI 3)))))) else if x2 = (zI 0) then zbind (f_X12_endingsOf M_65 x4_59) (fun r_80 => zbind (f_J6_bitCount_0f7a4 M_65 r_80) (fun r_83 => some (M_65, r_83))) else zbind (f_X12_endingsOf M_65 x4_59) (fun r_92 => some (M_65, r_92)))))))))))
set_option maxRecDepth 100000 in
set_option maxHeartbeats 4000000 in
theorem c_X12_stem (E : ZEv) (M : ZMem) (x1 : Int32) (x2 : Int32) (K : ZMem × Int32 → Prop) (hk : zOk (f_X12_stem M x1 x2) K) : zCon lyR E yX12_stem cX12_stem 5 (some .int) 6 [zrf E 0, .int x1, .int x2] M (zRm K) := by
  refine zcon_of (L0 := [(0, zrf E 0), (1, .int x1), (2, .int x2)]) (by decide) rfl (Nat.le_of_ble_eq_true rfl) (fun G h => ?_)
  have h : zRu lyR E G (zRm K) cX12_stem RX12 5 (some .int) 6 := h
  unfold f_X12_stem at hk
  refine zr_aload_n h dX12_stem_0 0 rfl rfl ?_
  refine zr_callVv h lR_0 zcw_X12_235 (by decide) (c_X12_lays E M _ (zOk_bind hk)) rfl rfl (Nat.le_of_ble_eq_true rfl) dX12_stem_1 (fun M_1 hk => ?_)
  refine zr_aload_n h dX12_stem_4 0 rfl rfl ?_
  refine zr_callVv h lR_0 zcw_X12_337 (by decide) (c_X12_laysStems E M_1 _ (zOk_bind hk)) rfl rfl (Nat.le_of_ble_eq_true rfl) dX12_stem_5 (fun M_5 hk => ?_)
  refine zr_iload_n h dX12_stem_8 1 rfl rfl ?_
  refine zr_iconst (v := (zI (-1))) h dX12_stem_9 rfl ?_
  refine zr_icmp_ne (tgt := 18) h dX12_stem_10 (by decide) (fun c => ?_) (fun c => ?_)
  · have hk := zOk_t c hk
    refine zr_aload_n h dX12_stem_13 0 rfl rfl ?_
    refine zr_getI h zfo_X12_322 lR_0 rfl dX12_stem_14 ?_
    have hk := zOk_some hk
    exact zr_iret h dX12_stem_17 ⟨_, rfl, hk⟩
  · have hk := zOk_f c hk
    refine zr_iload_n h dX12_stem_18 1 rfl rfl ?_
    refine zr_iconst (v := (zI 0)) h dX12_stem_19 rfl ?_
    refine zr_aload_n h dX12_stem_20 0 rfl rfl ?_
    refine zr_getI h zfo_X12_322 lR_0 rfl dX12_stem_21 ?_
    refine zr_iconst (v := (zI 1)) h dX12_stem_24 rfl ?_
    refine zr_isub h dX12_stem_25 ?_
    refine zr_callSp h zcw_X12_123 (by decide) (c_X12_in E M_5 x1 (zI 0) ((M_5.1 0 32) - (zI 1)) _ (zOk_bind hk)) rfl rfl (Nat.le_of_ble_eq_true rfl) dX12_stem_26 (fun r_26 hk => ?_)
    refine zr_if_eq (tgt := 42) h dX12_stem_29 (by decide) (fun c => ?_) (fun c => ?_)
    · have hk := zOk_t c hk
      refine zr_iconst (v := (zI (-1))) h dX12_stem_42 rfl ?_
      have hk := zOk_some hk
      exact zr_iret h dX12_stem_43 ⟨_, rfl, hk⟩
    · have hk := zOk_f c hk
      refine zr_iload_n h dX12_stem_32 2 rfl rfl ?_
      refine zr_iconst (v := (zI 0)) h dX12_stem_33 rfl ?_
      refine zr_bipush (v := (zI 8)) h dX12_stem_34 (by decide) ?_
      refine zr_callSp h zcw_X12_123 (by decide) (c_X12_in E M_5 x2 (zI 0) (zI 8) _ (zOk_bind hk)) rfl rfl (Nat.le_of_ble_eq_true rfl) dX12_stem_36 (fun r_36 hk => ?_)
      refine zr_if_ne (tgt := 44) h dX12_stem_39 (by decide) (fun c => ?_) (fun c => ?_)
      · have hk := zOk_t c hk
        refine zr_iconst (v := (zI (-1))) h dX12_stem_42 rfl ?_
        have hk := zOk_some hk
        exact zr_iret h dX12_stem_43 ⟨_, rfl, hk⟩
      · have hk := zOk_f c hk
        refine zr_aload_n h dX12_stem_44 0 rfl rfl ?_
        refine zr_getR h zfo_X12_71 lR_0 rfl dX12_stem_45 ?_
        refine zr_iload_n h dX12_stem_48 1 rfl rfl ?_
        have hb := zOk_chk hk
        have hk := hb.2
        refine zr_iald h lR_21 hb.1 dX12_stem_49 ?_
        refine zr_topi (fun x3_50 ex => ?_)
        have hk := zOk_bnd ex hk
        refine zr_istore_n (L' := [(0, zrf E 0), (2, .int x2), (3, .int x3_50)]) h [1, 3, 0] dX12_stem_50 rfl (by decide) rfl ?_
        refine zr_aload_n h dX12_stem_51 0 rfl rfl ?_
        refine zr_getR h zfo_X12_56 lR_0 rfl dX12_stem_52 ?_
        refine zr_iload_n h dX12_stem_55 2 rfl rfl ?_
        have hb := zOk_chk hk
        have hk := hb.2
        refine zr_iald h lR_16 hb.1 dX12_stem_56 ?_
        refine zr_iconst (v := (zI 1)) h dX12_stem_57 rfl ?_
        refine zr_isub h dX12_stem_58 ?_
        refine zr_topi (fun x4_59 ex => ?_)
        have hk := zOk_bnd ex hk
        refine zr_istore (L' := [(0, zrf E 0), (2, .int x2), (3, .int x3_50), (4, .int x4_59)]) h [1, 2, 3, 0] dX12_stem_59 (by decide) rfl ?_
        refine zr_aload_n h dX12_stem_61 0 rfl rfl ?_
        refine zr_iload_n h dX12_stem_62 2 rfl rfl ?_
        refine zr_iload h dX12_stem_63 3 rfl ?_
        refine zr_callVv h lR_0 zcw_X12_325 (by decide) (c_X12_laysPiece E M_5 x3_50 x4_59 _ (zOk_bind hk)) rfl rfl (Nat.le_of_ble_eq_true rfl) dX12_stem_65 (fun M_65 hk => ?_)
        refine zr_iload_n h dX12_stem_68 1 rfl rfl ?_
        refine zr_iconst (v := (zI 2)) h dX12_stem_69 rfl ?_
        refine zr_icmp_ge (tgt := 96) h dX12_stem_70 (by decide) (fun c => ?_) (fun c => ?_)
        · have hk := zOk_t c hk
          refine zr_iload_n h dX12_stem_96 1 rfl rfl ?_
          refine zr_iconst (v := (zI 2)) h dX12_stem_97 rfl ?_
          refine zr_icmp_ne (tgt := 106) h dX12_stem_98 (by decide) (fun c => ?_) (fun c => ?_)
          · have hk := zOk_t c hk
            refine zr_iload h dX12_stem_101 3 rfl ?_
            refine zr_goto (tgt := 126) h dX12_stem_103 (by decide) ?_
            have hk := zOk_some hk
            exact zr_iret h dX12_stem_126 ⟨_, rfl, hk⟩
          · have hk := zOk_f c hk
            refine zr_iload_n h dX12_stem_106 1 rfl rfl ?_
            refine zr_iconst (v := (zI 3)) h dX12_stem_107 rfl ?_
            refine zr_isub h dX12_stem_108 ?_
            refine zr_iload h dX12_stem_109 3 rfl ?_
            refine zr_icmp_ge (tgt := 125) h dX12_stem_111 (by decide) (fun c => ?_) (fun c => ?_)
            · have hk := zOk_t c hk
              refine zr_iconst (v := (zI (-1))) h dX12_stem_125 rfl ?_
              have hk := zOk_some hk
              exact zr_iret h dX12_stem_126 ⟨_, rfl, hk⟩
            · have hk := zOk_f c hk
              refine zr_aload_n h dX12_stem_114 0 rfl rfl ?_
              refine zr_getR h zfo_X12_53 lR_0 rfl dX12_stem_115 ?_
              refine zr_iload_n h dX12_stem_118 1 rfl rfl ?_
              refine zr_iconst (v := (zI 3)) h dX12_stem_119 rfl ?_
              refine zr_isub h dX12_stem_120 ?_
              have hb := zOk_chk hk
              have hk := hb.2
              refine zr_iald h lR_15 hb.1 dX12_stem_121 ?_
              refine zr_goto (tgt := 126) h dX12_stem_122 (by decide) ?_
              have hk := zOk_some hk
              exact zr_iret h dX12_stem_126 ⟨_, rfl, hk⟩
        · have hk := zOk_f c hk
          refine zr_iload_n h dX12_stem_73 1 rfl rfl ?_
          refine zr_if_ne (tgt := 89) h dX12_stem_74 (by decide) (fun c => ?_) (fun c => ?_)
          · have hk := zOk_t c hk
            refine zr_aload_n h dX12_stem_77 0 rfl rfl ?_
            refine zr_iload h dX12_stem_78 3 rfl ?_
            refine zr_callVp h lR_0 zcw_X12_328 (by decide) (c_X12_endingsOf E M_65 x4_59 _ (zOk_bind hk)) rfl rfl (Nat.le_of_ble_eq_true rfl) dX12_stem_80 (fun r_80 hk => ?_)
            refine zr_callSp h zcw_X12_268 (by decide) (c_J6_bitCount_0f7a4 E M_65 r_80 _ (zOk_bind hk)) rfl rfl (Nat.le_of_ble_eq_true rfl) dX12_stem_83 (fun r_83 hk => ?_)
            refine zr_goto (tgt := 95) h dX12_stem_86 (by decide) ?_
            have hk := zOk_some hk
            exact zr_iret h dX12_stem_95 ⟨_, rfl, hk⟩
          · have hk := zOk_f c hk
            refine zr_aload_n h dX12_stem_89 0 rfl rfl ?_
            refine zr_iload h dX12_stem_90 3 rfl ?_
            refine zr_callVp h lR_0 zcw_X12_328 (by decide) (c_X12_endingsOf E M_65 x4_59 _ (zOk_bind hk)) rfl rfl (Nat.le_of_ble_eq_true rfl) dX12_stem_92 (fun r_92 hk => ?_)
            have hk := zOk_some hk
            exact zr_iret h dX12_stem_95 ⟨_, rfl, hk⟩
theorem dX12_clues_0 : decode cX12_clues 0 = .ok (.aload_n 0, 1) := by decide +kernel
theorem dX12_clues_1 : decode cX12_clues 1 = .ok (.invokevirtual 235, 3) := by decide +kernel
theorem dX12_clues_4 : decode cX12_clues 4 = .ok (.iconst 0, 1) := by decide +kernel
theorem dX12_clues_5 : decode cX12_clues 5 = .ok (.istore_n 2, 1) := by decide +kernel
theorem dX12_clues_6 : decode cX12_clues 6 = .ok (.iconst 0, 1) := by decide +kernel
theorem dX12_clues_7 : decode cX12_clues 7 = .ok (.istore_n 3, 1) := by decide +kernel
theorem dX12_clues_8 : decode cX12_clues 8 = .ok (.iload_n 3, 1) := by decide +kernel
theorem dX12_clues_9 : decode cX12_clues 9 = .ok (.aload_n 0, 1) := by decide +kernel
theorem dX12_clues_10 : decode cX12_clues 10 = .ok (.getfield 162, 3) := by decide +kernel
theorem dX12_clues_13 : decode cX12_clues 13 = .ok (.if_icmp .ge 50, 3) := by decide +kernel
theorem dX12_clues_16 : decode cX12_clues 16 = .ok (.iload_n 3, 1) := by decide +kernel
theorem dX12_clues_17 : decode cX12_clues 17 = .ok (.iconst 1, 1) := by decide +kernel
theorem dX12_clues_18 : decode cX12_clues 18 = .ok (.iadd, 1) := by decide +kernel
theorem dX12_clues_19 : decode cX12_clues 19 = .ok (.istore 4, 2) := by decide +kernel
theorem dX12_clues_21 : decode cX12_clues 21 = .ok (.iload 4, 2) := by decide +kernel
theorem dX12_clues_23 : decode cX12_clues 23 = .ok (.aload_n 0, 1) := by decide +kernel
theorem dX12_clues_24 : decode cX12_clues 24 = .ok (.getfield 162, 3) := by decide +kernel
theorem dX12_clues_27 : decode cX12_clues 27 = .ok (.if_icmp .ge 30, 3) := by decide +kernel
theorem dX12_clues_30 : decode cX12_clues 30 = .ok (.iload_n 2, 1) := by decide +kernel
theorem dX12_clues_31 : decode cX12_clues 31 = .ok (.aload_n 0, 1) := by decide +kernel
theorem dX12_clues_32 : decode cX12_clues 32 = .ok (.getfield 74, 3) := by decide +kernel
theorem dX12_clues_35 : decode cX12_clues 35 = .ok (.iload_n 1, 1) := by decide +kernel
theorem dX12_clues_36 : decode cX12_clues 36 = .ok (.invokestatic 177, 3) := by decide +kernel
theorem dX12_clues_39 : decode cX12_clues 39 = .ok (.iload_n 3, 1) := by decide +kernel
theorem dX12_clues_40 : decode cX12_clues 40 = .ok (.iload 4, 2) := by decide +kernel
theorem dX12_clues_42 : decode cX12_clues 42 = .ok (.invokestatic 340, 3) := by decide +kernel
theorem dX12_clues_45 : decode cX12_clues 45 = .ok (.baload, 1) := by decide +kernel
theorem dX12_clues_46 : decode cX12_clues 46 = .ok (.invokestatic 177, 3) := by decide +kernel
theorem dX12_clues_49 : decode cX12_clues 49 = .ok (.iadd, 1) := by decide +kernel
theorem dX12_clues_50 : decode cX12_clues 50 = .ok (.istore_n 2, 1) := by decide +kernel
theorem dX12_clues_51 : decode cX12_clues 51 = .ok (.iinc 4 1, 3) := by decide +kernel
theorem dX12_clues_54 : decode cX12_clues 54 = .ok (.goto (-33), 3) := by decide +kernel
theorem dX12_clues_57 : decode cX12_clues 57 = .ok (.iinc 3 1, 3) := by decide +kernel
theorem dX12_clues_60 : decode cX12_clues 60 = .ok (.goto (-52), 3) := by decide +kernel
theorem dX12_clues_63 : decode cX12_clues 63 = .ok (.iload_n 2, 1) := by decide +kernel
theorem dX12_clues_64 : decode cX12_clues 64 = .ok (.ireturn, 1) := by decide +kernel
noncomputable def f_X12_clues_L21 (M : ZMem) (x1 : Int32) (x3 : Int32) (s : (Int32 × Int32)) : Option ((Int32 × Int32) ⊕ (Int32)) := if (M.1 0 4) ≤ s.2 then some (.inr s.1) else zbind (f_X12_truth M x1) (fun r_36 => zbind (f_X12_clueAt M r_36 x3 s.2) (fun r_42 => zchk (zin r_42 800) (zbind (f_X12_truth M (M.1 22 (zix r_42))) (fun r_46 => zbnd (s.1 + r_46) (fun x2_50 => zbnd (s.2 + (zI 1)) (fun x4_51 => some (.inl (x2_50, x4_51))))))))
set_option maxRecDepth 100000 in
set_option maxHeartbeats 4000000 in
theorem w_X12_clues_L21 {E : ZEv} {G : ZG} {K : (ZMem × Int32) → Prop} (h : zRu lyR E G (zRm K) cX12_clues RX12 5 (some .int) 6) (M : ZMem) (x1 : Int32) (x3 : Int32) (s : (Int32 × Int32)) (hk : zOk (zloop (f_X12_clues_L21 M x1 x3) s) (fun e => G M 57 [(0, zrf E 0), (1, .int x1), (2, .int e), (3, .int x3)] [])) : G M 21 [(0, zrf E 0), (1, .int x1), (2, .int s.1), (3, .int x3), (4, .int s.2)] [] := by
  refine zloop_walk (P := fun s => G M 21 [(0, zrf E 0), (1, .int x1), (2, .int s.1), (3, .int x3), (4, .int s.2)] []) hk (fun s hk => ?_)
  unfold f_X12_clues_L21 at hk
  refine zr_iload h dX12_clues_21 4 rfl ?_
  refine zr_aload_n h dX12_clues_23 0 rfl rfl ?_
  refine zr_getI h zfo_X12_162 lR_0 rfl dX12_clues_24 ?_
  refine zr_icmp_ge (tgt := 57) h dX12_clues_27 (by decide) (fun c => ?_) (fun c => ?_)
  · have hk := zOk_t c hk
    have hk := zOk_some hk
    exact zr_weak h [0, 1, 2, 3] rfl hk
  · have hk := zOk_f c hk
    refine zr_iload_n h dX12_clues_30 2 rfl rfl ?_
    refine zr_aload_n h dX12_clues_31 0 rfl rfl ?_
    refine zr_getR h zfo_X12_74 lR_0 rfl dX12_clues_32 ?_
    refine zr_iload_n h dX12_clues_35 1 rfl rfl ?_
    refine zr_callSp h zcw_X12_177 (by decide) (c_X12_truth E M x1 _ (zOk_bind hk)) rfl rfl (Nat.le_of_ble_eq_true rfl) dX12_clues_36 (fun r_36 hk => ?_)
    refine zr_iload_n h dX12_clues_39 3 rfl rfl ?_
    refine zr_iload h dX12_clues_40 4 rfl ?_
    refine zr_callSp h zcw_X12_340 (by decide) (c_X12_clueAt E M r_36 x3 s.2 _ (zOk_bind hk)) rfl rfl (Nat.le_of_ble_eq_true rfl) dX12_clues_42 (fun r_42 hk => ?_)
    have hb := zOk_chk hk
    have hk := hb.2
    refine zr_zald h lR_22 hb.1 dX12_clues_45 ?_
    refine zr_callSp h zcw_X12_177 (by decide) (c_X12_truth E M (M.1 22 (zix r_42)) _ (zOk_bind hk)) rfl rfl (Nat.le_of_ble_eq_true rfl) dX12_clues_46 (fun r_46 hk => ?_)
    refine zr_iadd h dX12_clues_49 ?_
    refine zr_topi (fun x2_50 ex => ?_)
    have hk := zOk_bnd ex hk
    refine zr_istore_n (L' := [(0, zrf E 0), (1, .int x1), (2, .int x2_50), (3, .int x3), (4, .int s.2)]) h [1, 2, 0, 3, 4] dX12_clues_50 rfl (by decide) rfl ?_
    obtain ⟨x4_51, ex⟩ : ∃ y : Int32, y = s.2 + (zI 1) := ⟨_, rfl⟩
    have hk := zOk_bnd ex hk
    refine zr_iinc (v := x4_51) (L' := [(0, zrf E 0), (1, .int x1), (2, .int x2_50), (3, .int x3), (4, .int x4_51)]) h 4 [1, 2, 3, 4, 0] dX12_clues_51 rfl (by rw [ex]; rfl) (by decide) rfl ?_
    refine zr_goto (tgt := 21) h dX12_clues_54 (by decide) ?_
    have hk := zOk_some hk
    exact zr_weak h [0, 1, 2, 3, 4] rfl hk
noncomputable def f_X12_clues_L8 (M : ZMem) (x1 : Int32) (s : (Int32 × Int32)) : Option ((Int32 × Int32) ⊕ (Int32)) := if (M.1 0 4) ≤ s.2 then some (.inr s.1) else zbnd (s.2 + (zI 1)) (fun x4_19 => zbind (zloop (f_X12_clues_L21 M x1 s.2) (s.1, x4_19)) (fun e21 => zbnd (s.2 + (zI 1)) (fun x3_57 => some (.inl (e21, x3_57)))))
set_option maxRecDepth 100000 in
set_option maxHeartbeats 4000000 in
theorem w_X12_clues_L8 {E : ZEv} {G : ZG} {K : (ZMem × Int32) → Prop} (h : zRu lyR E G (zRm K) cX12_clues RX12 5 (some .int) 6) (M : ZMem) (x1 : Int32) (s : (Int32 × Int32)) (hk : zOk (zloop (f_X12_clues_L8 M x1) s) (fun e => G M 63 [(2, .int e)] [])) : G M 8 [(0, zrf E 0), (1, .int x1), (2, .int s.1), (3, .int s.2)] [] := by
  refine zloop_walk (P := fun s => G M 8 [(0, zrf E 0), (1, .int x1), (2, .int s.1), (3, .int s.2)] []) hk (fun s hk => ?_)
  unfold f_X12_clues_L8 at hk
  refine zr_iload_n h dX12_clues_8 3 rfl rfl ?_
  refine zr_aload_n h dX12_clues_9 0 rfl rfl ?_
  refine zr_getI h zfo_X12_162 lR_0 rfl dX12_clues_10 ?_
  refine zr_icmp_ge (tgt := 63) h dX12_clues_13 (by decide) (fun c => ?_) (fun c => ?_)
  · have hk := zOk_t c hk
    have hk := zOk_some hk
    exact zr_weak h [2] rfl hk
  · have hk := zOk_f c hk
    refine zr_iload_n h dX12_clues_16 3 rfl rfl ?_
    refine zr_iconst (v := (zI 1)) h dX12_clues_17 rfl ?_
    refine zr_iadd h dX12_clues_18 ?_
    refine zr_topi (fun x4_19 ex => ?_)
    have hk := zOk_bnd ex hk
    refine zr_istore (L' := [(0, zrf E 0), (1, .int x1), (2, .int s.1), (3, .int s.2), (4, .int x4_19)]) h [1, 2, 3, 4, 0] dX12_clues_19 (by decide) rfl ?_
    refine w_X12_clues_L21 h M x1 s.2 (s.1, x4_19) (zOk_mono (zOk_bind hk) (fun e21 hk => ?_))
    obtain ⟨x3_57, ex⟩ : ∃ y : Int32, y = s.2 + (zI 1) := ⟨_, rfl⟩
    have hk := zOk_bnd ex hk
    refine zr_iinc (v := x3_57) (L' := [(0, zrf E 0), (1, .int x1), (2, .int e21), (3, .int x3_57)]) h 3 [1, 2, 3, 0] dX12_clues_57 rfl (by rw [ex]; rfl) (by decide) rfl ?_
    refine zr_goto (tgt := 8) h dX12_clues_60 (by decide) ?_
    have hk := zOk_some hk
    exact zr_weak h [0, 1, 2, 3] rfl hk
noncomputable def f_X12_clues (M : ZMem) (x1 : Int32) : Option (ZMem × Int32) := zbind (f_X12_lays M) (fun M_1 => zbind (zloop (f_X12_clues_L8 M_1 x1) ((zI 0), (zI 0))) (fun e8 => some (M_1, e8)))
set_option maxRecDepth 100000 in
set_option maxHeartbeats 4000000 in
theorem c_X12_clues (E : ZEv) (M : ZMem) (x1 : Int32) (K : ZMem × Int32 → Prop) (hk : zOk (f_X12_clues M x1) K) : zCon lyR E yX12_clues cX12_clues 5 (some .int) 6 [zrf E 0, .int x1] M (zRm K) := by
  refine zcon_of (L0 := [(0, zrf E 0), (1, .int x1)]) (by decide) rfl (Nat.le_of_ble_eq_true rfl) (fun G h => ?_)
  have h : zRu lyR E G (zRm K) cX12_clues RX12 5 (some .int) 6 := h
  unfold f_X12_clues at hk
  refine zr_aload_n h dX12_clues_0 0 rfl rfl ?_
  refine zr_callVv h lR_0 zcw_X12_235 (by decide) (c_X12_lays E M _ (zOk_bind hk)) rfl rfl (Nat.le_of_ble_eq_true rfl) dX12_clues_1 (fun M_1 hk => ?_)
  refine zr_iconst (v := (zI 0)) h dX12_clues_4 rfl ?_
  refine zr_istore_n (L' := [(0, zrf E 0), (1, .int x1), (2, .int (zI 0))]) h [1, 2, 0] dX12_clues_5 rfl (by decide) rfl ?_
  refine zr_iconst (v := (zI 0)) h dX12_clues_6 rfl ?_
  refine zr_istore_n (L' := [(0, zrf E 0), (1, .int x1), (2, .int (zI 0)), (3, .int (zI 0))]) h [1, 2, 3, 0] dX12_clues_7 rfl (by decide) rfl ?_
  refine w_X12_clues_L8 h M_1 x1 ((zI 0), (zI 0)) (zOk_mono (zOk_bind hk) (fun e8 hk => ?_))
  refine zr_iload_n h dX12_clues_63 0 rfl rfl ?_
  have hk := zOk_some hk
  exact zr_iret h dX12_clues_64 ⟨_, rfl, hk⟩
theorem dX12_place_0 : decode cX12_place 0 = .ok (.aload_n 0, 1) := by decide +kernel
theorem dX12_place_1 : decode cX12_place 1 = .ok (.iload_n 1, 1) := by decide +kernel
theorem dX12_place_2 : decode cX12_place 2 = .ok (.invokevirtual 224, 3) := by decide +kernel
theorem dX12_place_5 : decode cX12_place 5 = .ok (.ifCond .ne 5, 3) := by decide +kernel
theorem dX12_place_8 : decode cX12_place 8 = .ok (.iconst (-1), 1) := by decide +kernel
theorem dX12_place_9 : decode cX12_place 9 = .ok (.ireturn, 1) := by decide +kernel
theorem dX12_place_10 : decode cX12_place 10 = .ok (.aload_n 0, 1) := by decide +kernel
theorem dX12_place_11 : decode cX12_place 11 = .ok (.invokevirtual 235, 3) := by decide +kernel
theorem dX12_place_14 : decode cX12_place 14 = .ok (.aload_n 0, 1) := by decide +kernel
theorem dX12_place_15 : decode cX12_place 15 = .ok (.getfield 78, 3) := by decide +kernel
theorem dX12_place_18 : decode cX12_place 18 = .ok (.bipush 20, 2) := by decide +kernel
theorem dX12_place_20 : decode cX12_place 20 = .ok (.iload_n 2, 1) := by decide +kernel
theorem dX12_place_21 : decode cX12_place 21 = .ok (.invokestatic 177, 3) := by decide +kernel
theorem dX12_place_24 : decode cX12_place 24 = .ok (.imul, 1) := by decide +kernel
theorem dX12_place_25 : decode cX12_place 25 = .ok (.iload_n 1, 1) := by decide +kernel
theorem dX12_place_26 : decode cX12_place 26 = .ok (.iadd, 1) := by decide +kernel
theorem dX12_place_27 : decode cX12_place 27 = .ok (.iaload, 1) := by decide +kernel
theorem dX12_place_28 : decode cX12_place 28 = .ok (.ireturn, 1) := by decide +kernel
noncomputable def f_X12_place (M : ZMem) (x1 : Int32) (x2 : Int32) : Option (ZMem × Int32) := zbind (f_X12_isForm M x1) (fun r_2 => if r_2 = (zI 0) then some (M, (zI (-1))) else zbind (f_X12_lays M) (fun M_11 => zbind (f_X12_truth M_11 x2) (fun r_21 => zchk (zin (((zI 20) * r_21) + x1) 40) (some (M_11, (M_11.1 23 (zix (((zI 20) * r_21) + x1))))))))
set_option maxRecDepth 100000 in
set_option maxHeartbeats 4000000 in
theorem c_X12_place (E : ZEv) (M : ZMem) (x1 : Int32) (x2 : Int32) (K : ZMem × Int32 → Prop) (hk : zOk (f_X12_place M x1 x2) K) : zCon lyR E yX12_place cX12_place 3 (some .int) 6 [zrf E 0, .int x1, .int x2] M (zRm K) := by
  refine zcon_of (L0 := [(0, zrf E 0), (1, .int x1), (2, .int x2)]) (by decide) rfl (Nat.le_of_ble_eq_true rfl) (fun G h => ?_)
  have h : zRu lyR E G (zRm K) cX12_place RX12 3 (some .int) 6 := h
  unfold f_X12_place at hk
  refine zr_aload_n h dX12_place_0 0 rfl rfl ?_
  refine zr_iload_n h dX12_place_1 1 rfl rfl ?_
  refine zr_callVp h lR_0 zcw_X12_224 (by decide) (c_X12_isForm E M x1 _ (zOk_bind hk)) rfl rfl (Nat.le_of_ble_eq_true rfl) dX12_place_2 (fun r_2 hk => ?_)
  refine zr_if_ne (tgt := 10) h dX12_place_5 (by decide) (fun c => ?_) (fun c => ?_)
  · have hk := zOk_t c hk
    refine zr_iconst (v := (zI (-1))) h dX12_place_8 rfl ?_
    have hk := zOk_some hk
    exact zr_iret h dX12_place_9 ⟨_, rfl, hk⟩
  · have hk := zOk_f c hk
    refine zr_aload_n h dX12_place_10 0 rfl rfl ?_
    refine zr_callVv h lR_0 zcw_X12_235 (by decide) (c_X12_lays E M _ (zOk_bind hk)) rfl rfl (Nat.le_of_ble_eq_true rfl) dX12_place_11 (fun M_11 hk => ?_)
    refine zr_aload_n h dX12_place_14 0 rfl rfl ?_
    refine zr_getR h zfo_X12_78 lR_0 rfl dX12_place_15 ?_
    refine zr_bipush (v := (zI 20)) h dX12_place_18 (by decide) ?_
    refine zr_iload_n h dX12_place_20 2 rfl rfl ?_
    refine zr_callSp h zcw_X12_177 (by decide) (c_X12_truth E M_11 x2 _ (zOk_bind hk)) rfl rfl (Nat.le_of_ble_eq_true rfl) dX12_place_21 (fun r_21 hk => ?_)
    refine zr_imul h dX12_place_24 ?_
    refine zr_iload_n h dX12_place_25 1 rfl rfl ?_
    refine zr_iadd h dX12_place_26 ?_
    have hb := zOk_chk hk
    have hk := hb.2
    refine zr_iald h lR_23 hb.1 dX12_place_27 ?_
    have hk := zOk_some hk
    exact zr_iret h dX12_place_28 ⟨_, rfl, hk⟩
theorem dX12_doClash_0 : decode cX12_doClash 0 = .ok (.aload_n 0, 1) := by decide +kernel
theorem dX12_doClash_1 : decode cX12_doClash 1 = .ok (.iload_n 1, 1) := by decide +kernel
theorem dX12_doClash_2 : decode cX12_doClash 2 = .ok (.invokevirtual 356, 3) := by decide +kernel
theorem dX12_doClash_5 : decode cX12_doClash 5 = .ok (.ifCond .eq 51, 3) := by decide +kernel
theorem dX12_doClash_8 : decode cX12_doClash 8 = .ok (.aload_n 0, 1) := by decide +kernel
theorem dX12_doClash_9 : decode cX12_doClash 9 = .ok (.iload_n 2, 1) := by decide +kernel
theorem dX12_doClash_10 : decode cX12_doClash 10 = .ok (.invokevirtual 356, 3) := by decide +kernel
theorem dX12_doClash_13 : decode cX12_doClash 13 = .ok (.ifCond .eq 43, 3) := by decide +kernel
theorem dX12_doClash_16 : decode cX12_doClash 16 = .ok (.aload_n 0, 1) := by decide +kernel
theorem dX12_doClash_17 : decode cX12_doClash 17 = .ok (.getfield 78, 3) := by decide +kernel
theorem dX12_doClash_20 : decode cX12_doClash 20 = .ok (.iload_n 1, 1) := by decide +kernel
theorem dX12_doClash_21 : decode cX12_doClash 21 = .ok (.iaload, 1) := by decide +kernel
theorem dX12_doClash_22 : decode cX12_doClash 22 = .ok (.aload_n 0, 1) := by decide +kernel
theorem dX12_doClash_23 : decode cX12_doClash 23 = .ok (.getfield 78, 3) := by decide +kernel
theorem dX12_doClash_26 : decode cX12_doClash 26 = .ok (.iload_n 2, 1) := by decide +kernel
theorem dX12_doClash_27 : decode cX12_doClash 27 = .ok (.iaload, 1) := by decide +kernel
theorem dX12_doClash_28 : decode cX12_doClash 28 = .ok (.if_icmp .ne 28, 3) := by decide +kernel
theorem dX12_doClash_31 : decode cX12_doClash 31 = .ok (.aload_n 0, 1) := by decide +kernel
theorem dX12_doClash_32 : decode cX12_doClash 32 = .ok (.getfield 78, 3) := by decide +kernel
theorem dX12_doClash_35 : decode cX12_doClash 35 = .ok (.bipush 20, 2) := by decide +kernel
theorem dX12_doClash_37 : decode cX12_doClash 37 = .ok (.iload_n 1, 1) := by decide +kernel
theorem dX12_doClash_38 : decode cX12_doClash 38 = .ok (.iadd, 1) := by decide +kernel
theorem dX12_doClash_39 : decode cX12_doClash 39 = .ok (.iaload, 1) := by decide +kernel
theorem dX12_doClash_40 : decode cX12_doClash 40 = .ok (.aload_n 0, 1) := by decide +kernel
theorem dX12_doClash_41 : decode cX12_doClash 41 = .ok (.getfield 78, 3) := by decide +kernel
theorem dX12_doClash_44 : decode cX12_doClash 44 = .ok (.bipush 20, 2) := by decide +kernel
theorem dX12_doClash_46 : decode cX12_doClash 46 = .ok (.iload_n 2, 1) := by decide +kernel
theorem dX12_doClash_47 : decode cX12_doClash 47 = .ok (.iadd, 1) := by decide +kernel
theorem dX12_doClash_48 : decode cX12_doClash 48 = .ok (.iaload, 1) := by decide +kernel
theorem dX12_doClash_49 : decode cX12_doClash 49 = .ok (.if_icmp .ne 7, 3) := by decide +kernel
theorem dX12_doClash_52 : decode cX12_doClash 52 = .ok (.iconst 1, 1) := by decide +kernel
theorem dX12_doClash_53 : decode cX12_doClash 53 = .ok (.goto 4, 3) := by decide +kernel
theorem dX12_doClash_56 : decode cX12_doClash 56 = .ok (.iconst 0, 1) := by decide +kernel
theorem dX12_doClash_57 : decode cX12_doClash 57 = .ok (.ireturn, 1) := by decide +kernel
noncomputable def f_X12_doClash (M : ZMem) (x1 : Int32) (x2 : Int32) : Option Int32 := zbind (f_X12_isSign M x1) (fun r_2 => if r_2 = (zI 0) then some (zI 0) else zbind (f_X12_isSign M x2) (fun r_10 => if r_10 = (zI 0) then some (zI 0) else zchk (zin x1 40) (zchk (zin x2 40) (if (M.1 23 (zix x1)) = (M.1 23 (zix x2)) then zchk (zin ((zI 20) + x1) 40) (zchk (zin ((zI 20) + x2) 40) (if (M.1 23 (zix ((zI 20) + x1))) = (M.1 23 (zix ((zI 20) + x2))) then some (zI 1) else some (zI 0))) else some (zI 0)))))
set_option maxRecDepth 100000 in
set_option maxHeartbeats 4000000 in
theorem c_X12_doClash (E : ZEv) (M : ZMem) (x1 : Int32) (x2 : Int32) (K : Int32 → Prop) (hk : zOk (f_X12_doClash M x1 x2) K) : zCon lyR E yX12_doClash cX12_doClash 3 (some .boolean) 1 [zrf E 0, .int x1, .int x2] M (zRp M K) := by
  refine zcon_of (L0 := [(0, zrf E 0), (1, .int x1), (2, .int x2)]) (by decide) rfl (Nat.le_of_ble_eq_true rfl) (fun G h => ?_)
  have h : zRu lyR E G (zRp M K) cX12_doClash RX12 3 (some .boolean) 1 := h
  unfold f_X12_doClash at hk
  refine zr_aload_n h dX12_doClash_0 0 rfl rfl ?_
  refine zr_iload_n h dX12_doClash_1 1 rfl rfl ?_
  refine zr_callVp h lR_0 zcw_X12_356 (by decide) (c_X12_isSign E M x1 _ (zOk_bind hk)) rfl rfl (Nat.le_of_ble_eq_true rfl) dX12_doClash_2 (fun r_2 hk => ?_)
  refine zr_if_eq (tgt := 56) h dX12_doClash_5 (by decide) (fun c => ?_) (fun c => ?_)
  · have hk := zOk_t c hk
    refine zr_iconst (v := (zI 0)) h dX12_doClash_56 rfl ?_
    have hk := zOk_some hk
    exact zr_zret h dX12_doClash_57 (by decide) ⟨rfl, _, rfl, hk⟩
  · have hk := zOk_f c hk
    refine zr_aload_n h dX12_doClash_8 0 rfl rfl ?_
    refine zr_iload_n h dX12_doClash_9 2 rfl rfl ?_
    refine zr_callVp h lR_0 zcw_X12_356 (by decide) (c_X12_isSign E M x2 _ (zOk_bind hk)) rfl rfl (Nat.le_of_ble_eq_true rfl) dX12_doClash_10 (fun r_10 hk => ?_)
    refine zr_if_eq (tgt := 56) h dX12_doClash_13 (by decide) (fun c => ?_) (fun c => ?_)
    · have hk := zOk_t c hk
      refine zr_iconst (v := (zI 0)) h dX12_doClash_56 rfl ?_
      have hk := zOk_some hk
      exact zr_zret h dX12_doClash_57 (by decide) ⟨rfl, _, rfl, hk⟩
    · have hk := zOk_f c hk
      refine zr_aload_n h dX12_doClash_16 0 rfl rfl ?_
      refine zr_getR h zfo_X12_78 lR_0 rfl dX12_doClash_17 ?_
      refine zr_iload_n h dX12_doClash_20 1 rfl rfl ?_
      have hb := zOk_chk hk
      have hk := hb.2
      refine zr_iald h lR_23 hb.1 dX12_doClash_21 ?_
      refine zr_aload_n h dX12_doClash_22 0 rfl rfl ?_
      refine zr_getR h zfo_X12_78 lR_0 rfl dX12_doClash_23 ?_
      refine zr_iload_n h dX12_doClash_26 2 rfl rfl ?_
      have hb := zOk_chk hk
      have hk := hb.2
      refine zr_iald h lR_23 hb.1 dX12_doClash_27 ?_
      refine zr_icmp_ne (tgt := 56) h dX12_doClash_28 (by decide) (fun c => ?_) (fun c => ?_)
      · have hk := zOk_t c hk
        refine zr_aload_n h dX12_doClash_31 0 rfl rfl ?_
        refine zr_getR h zfo_X12_78 lR_0 rfl dX12_doClash_32 ?_
        refine zr_bipush (v := (zI 20)) h dX12_doClash_35 (by decide) ?_
        refine zr_iload_n h dX12_doClash_37 1 rfl rfl ?_
        refine zr_iadd h dX12_doClash_38 ?_
        have hb := zOk_chk hk
        have hk := hb.2
        refine zr_iald h lR_23 hb.1 dX12_doClash_39 ?_
        refine zr_aload_n h dX12_doClash_40 0 rfl rfl ?_
        refine zr_getR h zfo_X12_78 lR_0 rfl dX12_doClash_41 ?_
        refine zr_bipush (v := (zI 20)) h dX12_doClash_44 (by decide) ?_
        refine zr_iload_n h dX12_doClash_46 2 rfl rfl ?_
        refine zr_iadd h dX12_doClash_47 ?_
        have hb := zOk_chk hk
        have hk := hb.2
        refine zr_iald h lR_23 hb.1 dX12_doClash_48 ?_
        refine zr_icmp_ne (tgt := 56) h dX12_doClash_49 (by decide) (fun c => ?_) (fun c => ?_)
        · have hk := zOk_t c hk
          refine zr_iconst (v := (zI 1)) h dX12_doClash_52 rfl ?_
          refine zr_goto (tgt := 57) h dX12_doClash_53 (by decide) ?_
          have hk := zOk_some hk
          exact zr_zret h dX12_doClash_57 (by decide) ⟨rfl, _, rfl, hk⟩
        · have hk := zOk_f c hk
          refine zr_iconst (v := (zI 0)) h dX12_doClash_56 rfl ?_
          have hk := zOk_some hk
          exact zr_zret h dX12_doClash_57 (by decide) ⟨rfl, _, rfl, hk⟩
      · have hk := zOk_f c hk
        refine zr_iconst (v := (zI 0)) h dX12_doClash_56 rfl ?_
        have hk := zOk_some hk
        exact zr_zret h dX12_doClash_57 (by decide) ⟨rfl, _, rfl, hk⟩
theorem dX12_fewest_0 : decode cX12_fewest 0 = .ok (.iconst 0, 1) := by decide +kernel
theorem dX12_fewest_1 : decode cX12_fewest 1 = .ok (.istore 4, 2) := by decide +kernel
theorem dX12_fewest_3 : decode cX12_fewest 3 = .ok (.iload 4, 2) := by decide +kernel
theorem dX12_fewest_5 : decode cX12_fewest 5 = .ok (.aload_n 0, 1) := by decide +kernel
theorem dX12_fewest_6 : decode cX12_fewest 6 = .ok (.getfield 162, 3) := by decide +kernel
theorem dX12_fewest_9 : decode cX12_fewest 9 = .ok (.if_icmp .ge 27, 3) := by decide +kernel
theorem dX12_fewest_12 : decode cX12_fewest 12 = .ok (.aload_n 0, 1) := by decide +kernel
theorem dX12_fewest_13 : decode cX12_fewest 13 = .ok (.getfield 81, 3) := by decide +kernel
theorem dX12_fewest_16 : decode cX12_fewest 16 = .ok (.iload 4, 2) := by decide +kernel
theorem dX12_fewest_18 : decode cX12_fewest 18 = .ok (.iload 4, 2) := by decide +kernel
theorem dX12_fewest_20 : decode cX12_fewest 20 = .ok (.iload_n 2, 1) := by decide +kernel
theorem dX12_fewest_21 : decode cX12_fewest 21 = .ok (.if_icmp .ne 7, 3) := by decide +kernel
theorem dX12_fewest_24 : decode cX12_fewest 24 = .ok (.iconst 0, 1) := by decide +kernel
theorem dX12_fewest_25 : decode cX12_fewest 25 = .ok (.goto 4, 3) := by decide +kernel
theorem dX12_fewest_28 : decode cX12_fewest 28 = .ok (.iconst (-1), 1) := by decide +kernel
theorem dX12_fewest_29 : decode cX12_fewest 29 = .ok (.iastore, 1) := by decide +kernel
theorem dX12_fewest_30 : decode cX12_fewest 30 = .ok (.iinc 4 1, 3) := by decide +kernel
theorem dX12_fewest_33 : decode cX12_fewest 33 = .ok (.goto (-30), 3) := by decide +kernel
theorem dX12_fewest_36 : decode cX12_fewest 36 = .ok (.iconst 0, 1) := by decide +kernel
theorem dX12_fewest_37 : decode cX12_fewest 37 = .ok (.istore 4, 2) := by decide +kernel
theorem dX12_fewest_39 : decode cX12_fewest 39 = .ok (.aload_n 0, 1) := by decide +kernel
theorem dX12_fewest_40 : decode cX12_fewest 40 = .ok (.getfield 81, 3) := by decide +kernel
theorem dX12_fewest_43 : decode cX12_fewest 43 = .ok (.iload_n 3, 1) := by decide +kernel
theorem dX12_fewest_44 : decode cX12_fewest 44 = .ok (.iaload, 1) := by decide +kernel
theorem dX12_fewest_45 : decode cX12_fewest 45 = .ok (.iconst (-1), 1) := by decide +kernel
theorem dX12_fewest_46 : decode cX12_fewest 46 = .ok (.if_icmp .ne 95, 3) := by decide +kernel
theorem dX12_fewest_49 : decode cX12_fewest 49 = .ok (.iconst 0, 1) := by decide +kernel
theorem dX12_fewest_50 : decode cX12_fewest 50 = .ok (.istore 5, 2) := by decide +kernel
theorem dX12_fewest_52 : decode cX12_fewest 52 = .ok (.iload 5, 2) := by decide +kernel
theorem dX12_fewest_54 : decode cX12_fewest 54 = .ok (.aload_n 0, 1) := by decide +kernel
theorem dX12_fewest_55 : decode cX12_fewest 55 = .ok (.getfield 162, 3) := by decide +kernel
theorem dX12_fewest_58 : decode cX12_fewest 58 = .ok (.if_icmp .ge 77, 3) := by decide +kernel
theorem dX12_fewest_61 : decode cX12_fewest 61 = .ok (.iconst 0, 1) := by decide +kernel
theorem dX12_fewest_62 : decode cX12_fewest 62 = .ok (.istore 6, 2) := by decide +kernel
theorem dX12_fewest_64 : decode cX12_fewest 64 = .ok (.iload 6, 2) := by decide +kernel
theorem dX12_fewest_66 : decode cX12_fewest 66 = .ok (.aload_n 0, 1) := by decide +kernel
theorem dX12_fewest_67 : decode cX12_fewest 67 = .ok (.getfield 162, 3) := by decide +kernel
theorem dX12_fewest_70 : decode cX12_fewest 70 = .ok (.if_icmp .ge 59, 3) := by decide +kernel
theorem dX12_fewest_73 : decode cX12_fewest 73 = .ok (.aload_n 0, 1) := by decide +kernel
theorem dX12_fewest_74 : decode cX12_fewest 74 = .ok (.getfield 81, 3) := by decide +kernel
theorem dX12_fewest_77 : decode cX12_fewest 77 = .ok (.iload 5, 2) := by decide +kernel
theorem dX12_fewest_79 : decode cX12_fewest 79 = .ok (.iaload, 1) := by decide +kernel
theorem dX12_fewest_80 : decode cX12_fewest 80 = .ok (.iload 4, 2) := by decide +kernel
theorem dX12_fewest_82 : decode cX12_fewest 82 = .ok (.if_icmp .ne 41, 3) := by decide +kernel
theorem dX12_fewest_85 : decode cX12_fewest 85 = .ok (.aload_n 0, 1) := by decide +kernel
theorem dX12_fewest_86 : decode cX12_fewest 86 = .ok (.getfield 81, 3) := by decide +kernel
theorem dX12_fewest_89 : decode cX12_fewest 89 = .ok (.iload 6, 2) := by decide +kernel
theorem dX12_fewest_91 : decode cX12_fewest 91 = .ok (.iaload, 1) := by decide +kernel
theorem dX12_fewest_92 : decode cX12_fewest 92 = .ok (.iconst (-1), 1) := by decide +kernel
theorem dX12_fewest_93 : decode cX12_fewest 93 = .ok (.if_icmp .ne 30, 3) := by decide +kernel
theorem dX12_fewest_96 : decode cX12_fewest 96 = .ok (.aload_n 0, 1) := by decide +kernel
theorem dX12_fewest_97 : decode cX12_fewest 97 = .ok (.getfield 74, 3) := by decide +kernel
theorem dX12_fewest_100 : decode cX12_fewest 100 = .ok (.iload_n 1, 1) := by decide +kernel
theorem dX12_fewest_101 : decode cX12_fewest 101 = .ok (.iload 5, 2) := by decide +kernel
theorem dX12_fewest_103 : decode cX12_fewest 103 = .ok (.iload 6, 2) := by decide +kernel
theorem dX12_fewest_105 : decode cX12_fewest 105 = .ok (.invokestatic 340, 3) := by decide +kernel
theorem dX12_fewest_108 : decode cX12_fewest 108 = .ok (.baload, 1) := by decide +kernel
theorem dX12_fewest_109 : decode cX12_fewest 109 = .ok (.ifCond .eq 14, 3) := by decide +kernel
theorem dX12_fewest_112 : decode cX12_fewest 112 = .ok (.aload_n 0, 1) := by decide +kernel
theorem dX12_fewest_113 : decode cX12_fewest 113 = .ok (.getfield 81, 3) := by decide +kernel
theorem dX12_fewest_116 : decode cX12_fewest 116 = .ok (.iload 6, 2) := by decide +kernel
theorem dX12_fewest_118 : decode cX12_fewest 118 = .ok (.iload 4, 2) := by decide +kernel
theorem dX12_fewest_120 : decode cX12_fewest 120 = .ok (.iconst 1, 1) := by decide +kernel
theorem dX12_fewest_121 : decode cX12_fewest 121 = .ok (.iadd, 1) := by decide +kernel
theorem dX12_fewest_122 : decode cX12_fewest 122 = .ok (.iastore, 1) := by decide +kernel
theorem dX12_fewest_123 : decode cX12_fewest 123 = .ok (.iinc 6 1, 3) := by decide +kernel
theorem dX12_fewest_126 : decode cX12_fewest 126 = .ok (.goto (-62), 3) := by decide +kernel
theorem dX12_fewest_129 : decode cX12_fewest 129 = .ok (.iinc 5 1, 3) := by decide +kernel
theorem dX12_fewest_132 : decode cX12_fewest 132 = .ok (.goto (-80), 3) := by decide +kernel
theorem dX12_fewest_135 : decode cX12_fewest 135 = .ok (.iinc 4 1, 3) := by decide +kernel
theorem dX12_fewest_138 : decode cX12_fewest 138 = .ok (.goto (-99), 3) := by decide +kernel
theorem dX12_fewest_141 : decode cX12_fewest 141 = .ok (.aload_n 0, 1) := by decide +kernel
theorem dX12_fewest_142 : decode cX12_fewest 142 = .ok (.getfield 81, 3) := by decide +kernel
theorem dX12_fewest_145 : decode cX12_fewest 145 = .ok (.iload_n 3, 1) := by decide +kernel
theorem dX12_fewest_146 : decode cX12_fewest 146 = .ok (.iaload, 1) := by decide +kernel
theorem dX12_fewest_147 : decode cX12_fewest 147 = .ok (.ireturn, 1) := by decide +kernel
noncomputable def f_X12_fewest_29_L3 (M : ZMem) (x1 : Int32) (x2 : Int32) (x3 : Int32) (x4 : Int32) (v1 : Int32) (v2 : Int32) : Option ((ZMem × Int32) ⊕ (ZMem)) := zchk (zin v1 20) (zbnd (zstI M 24 (zix v1) v2) (fun M_29 => zbnd (x4 + (zI 1)) (fun x4_30 => some (.inl (M_29, x4_30)))))
set_option maxRecDepth 100000 in
set_option maxHeartbeats 4000000 in
theorem w_X12_fewest_29_L3 {E : ZEv} {G : ZG} {K : (ZMem × Int32) → Prop} (h : zRu lyR E G (zRm K) cX12_fewest RX12 7 (some .int) 1) (M : ZMem) (x1 : Int32) (x2 : Int32) (x3 : Int32) (x4 : Int32) (v1 : Int32) (v2 : Int32) (hk : zOk (f_X12_fewest_29_L3 M x1 x2 x3 x4 v1 v2) (zlp (fun s => G s.1 3 [(0, zrf E 0), (1, .int x1), (2, .int x2), (3, .int x3), (4, .int s.2)] []) (fun e => G e 36 [(0, zrf E 0), (1, .int x1), (3, .int x3)] []))) : G M 29 [(0, zrf E 0), (1, .int x1), (2, .int x2), (3, .int x3), (4, .int x4)] [.int v2, .int v1, zrf E 24] := by
  unfold f_X12_fewest_29_L3 at hk
  have hb := zOk_chk hk
  have hk := hb.2
  refine zr_iast h lR_24 hb.1 dX12_fewest_29 ?_
  refine zr_mem (fun M_29 eM => ?_)
  have hk := zOk_bnd eM hk
  obtain ⟨x4_30, ex⟩ : ∃ y : Int32, y = x4 + (zI 1) := ⟨_, rfl⟩
  have hk := zOk_bnd ex hk
  refine zr_iinc (v := x4_30) (L' := [(0, zrf E 0), (1, .int x1), (2, .int x2), (3, .int x3), (4, .int x4_30)]) h 4 [1, 2, 3, 4, 0] dX12_fewest_30 rfl (by rw [ex]; rfl) (by decide) rfl ?_
  refine zr_goto (tgt := 3) h dX12_fewest_33 (by decide) ?_
  have hk := zOk_some hk
  exact zr_weak h [0, 1, 2, 3, 4] rfl hk
noncomputable def f_X12_fewest_L3 (x1 : Int32) (x2 : Int32) (x3 : Int32) (s : (ZMem × Int32)) : Option ((ZMem × Int32) ⊕ (ZMem)) := if (s.1.1 0 4) ≤ s.2 then some (.inr s.1) else if s.2 = x2 then f_X12_fewest_29_L3 s.1 x1 x2 x3 s.2 s.2 (zI 0) else f_X12_fewest_29_L3 s.1 x1 x2 x3 s.2 s.2 (zI (-1))
set_option maxRecDepth 100000 in
set_option maxHeartbeats 4000000 in
theorem w_X12_fewest_L3 {E : ZEv} {G : ZG} {K : (ZMem × Int32) → Prop} (h : zRu lyR E G (zRm K) cX12_fewest RX12 7 (some .int) 1) (x1 : Int32) (x2 : Int32) (x3 : Int32) (s : (ZMem × Int32)) (hk : zOk (zloop (f_X12_fewest_L3 x1 x2 x3) s) (fun e => G e 36 [(0, zrf E 0), (1, .int x1), (3, .int x3)] [])) : G s.1 3 [(0, zrf E 0), (1, .int x1), (2, .int x2), (3, .int x3), (4, .int s.2)] [] := by
  refine zloop_walk (P := fun s => G s.1 3 [(0, zrf E 0), (1, .int x1), (2, .int x2), (3, .int x3), (4, .int s.2)] []) hk (fun s hk => ?_)
  unfold f_X12_fewest_L3 at hk
  refine zr_iload h dX12_fewest_3 4 rfl ?_
  refine zr_aload_n h dX12_fewest_5 0 rfl rfl ?_
  refine zr_getI h zfo_X12_162 lR_0 rfl dX12_fewest_6 ?_
  refine zr_icmp_ge (tgt := 36) h dX12_fewest_9 (by decide) (fun c => ?_) (fun c => ?_)
  · have hk := zOk_t c hk
    have hk := zOk_some hk
    exact zr_weak h [0, 1, 3] rfl hk
  · have hk := zOk_f c hk
    refine zr_aload_n h dX12_fewest_12 0 rfl rfl ?_
    refine zr_getR h zfo_X12_81 lR_0 rfl dX12_fewest_13 ?_
    refine zr_iload h dX12_fewest_16 4 rfl ?_
    refine zr_iload h dX12_fewest_18 4 rfl ?_
    refine zr_iload_n h dX12_fewest_20 2 rfl rfl ?_
    refine zr_icmp_ne (tgt := 28) h dX12_fewest_21 (by decide) (fun c => ?_) (fun c => ?_)
    · have hk := zOk_t c hk
      refine zr_iconst (v := (zI 0)) h dX12_fewest_24 rfl ?_
      refine zr_goto (tgt := 29) h dX12_fewest_25 (by decide) ?_
      exact w_X12_fewest_29_L3 h s.1 x1 x2 x3 s.2 s.2 (zI 0) hk
    · have hk := zOk_f c hk
      refine zr_iconst (v := (zI (-1))) h dX12_fewest_28 rfl ?_
      exact w_X12_fewest_29_L3 h s.1 x1 x2 x3 s.2 s.2 (zI (-1)) hk
noncomputable def f_X12_fewest_L64 (x1 : Int32) (x3 : Int32) (x4 : Int32) (x5 : Int32) (s : (ZMem × Int32)) : Option ((ZMem × Int32) ⊕ (ZMem)) := if (s.1.1 0 4) ≤ s.2 then some (.inr s.1) else zchk (zin x5 20) (if (s.1.1 24 (zix x5)) = x4 then zchk (zin s.2 20) (if (s.1.1 24 (zix s.2)) = (zI (-1)) then zbind (f_X12_clueAt s.1 x1 x5 s.2) (fun r_105 => zchk (zin r_105 800) (if (s.1.1 22 (zix r_105)) = (zI 0) then zbnd (s.2 + (zI 1)) (fun x6_123 => some (.inl (s.1, x6_123))) else zchk (zin s.2 20) (zbnd (zstI s.1 24 (zix s.2) (x4 + (zI 1))) (fun M_122 => zbnd (s.2 + (zI 1)) (fun x6_123 => some (.inl (M_122, x6_123))))))) else zbnd (s.2 + (zI 1)) (fun x6_123 => some (.inl (s.1, x6_123)))) else zbnd (s.2 + (zI 1)) (fun x6_123 => some (.inl (s.1, x6_123))))
set_option maxRecDepth 100000 in
set_option maxHeartbeats 4000000 in
theorem w_X12_fewest_L64 {E : ZEv} {G : ZG} {K : (ZMem × Int32) → Prop} (h : zRu lyR E G (zRm K) cX12_fewest RX12 7 (some .int) 1) (x1 : Int32) (x3 : Int32) (x4 : Int32) (x5 : Int32) (s : (ZMem × Int32)) (hk : zOk (zloop (f_X12_fewest_L64 x1 x3 x4 x5) s) (fun e => G e 129 [(0, zrf E 0), (1, .int x1), (3, .int x3), (4, .int x4), (5, .int x5)] [])) : G s.1 64 [(0, zrf E 0), (1, .int x1), (3, .int x3), (4, .int x4), (5, .int x5), (6, .int s.2)] [] := by
  refine zloop_walk (P := fun s => G s.1 64 [(0, zrf E 0), (1, .int x1), (3, .int x3), (4, .int x4), (5, .int x5), (6, .int s.2)] []) hk (fun s hk => ?_)
  unfold f_X12_fewest_L64 at hk
  refine zr_iload h dX12_fewest_64 5 rfl ?_
  refine zr_aload_n h dX12_fewest_66 0 rfl rfl ?_
  refine zr_getI h zfo_X12_162 lR_0 rfl dX12_fewest_67 ?_
  refine zr_icmp_ge (tgt := 129) h dX12_fewest_70 (by decide) (fun c => ?_) (fun c => ?_)
  · have hk := zOk_t c hk
    have hk := zOk_some hk
    exact zr_weak h [0, 1, 2, 3, 4] rfl hk
  · have hk := zOk_f c hk
    refine zr_aload_n h dX12_fewest_73 0 rfl rfl ?_
    refine zr_getR h zfo_X12_81 lR_0 rfl dX12_fewest_74 ?_
    refine zr_iload h dX12_fewest_77 4 rfl ?_
    have hb := zOk_chk hk
    have hk := hb.2
    refine zr_iald h lR_24 hb.1 dX12_fewest_79 ?_
    refine zr_iload h dX12_fewest_80 3 rfl ?_
    refine zr_icmp_ne (tgt := 123) h dX12_fewest_82 (by decide) (fun c => ?_) (fun c => ?_)
    · have hk := zOk_t c hk
      refine zr_aload_n h dX12_fewest_85 0 rfl rfl ?_
      refine zr_getR h zfo_X12_81 lR_0 rfl dX12_fewest_86 ?_
      refine zr_iload h dX12_fewest_89 5 rfl ?_
      have hb := zOk_chk hk
      have hk := hb.2
      refine zr_iald h lR_24 hb.1 dX12_fewest_91 ?_
      refine zr_iconst (v := (zI (-1))) h dX12_fewest_92 rfl ?_
      refine zr_icmp_ne (tgt := 123) h dX12_fewest_93 (by decide) (fun c => ?_) (fun c => ?_)
      · have hk := zOk_t c hk
        refine zr_aload_n h dX12_fewest_96 0 rfl rfl ?_
        refine zr_getR h zfo_X12_74 lR_0 rfl dX12_fewest_97 ?_
        refine zr_iload_n h dX12_fewest_100 1 rfl rfl ?_
        refine zr_iload h dX12_fewest_101 4 rfl ?_
        refine zr_iload h dX12_fewest_103 5 rfl ?_
        refine zr_callSp h zcw_X12_340 (by decide) (c_X12_clueAt E s.1 x1 x5 s.2 _ (zOk_bind hk)) rfl rfl (Nat.le_of_ble_eq_true rfl) dX12_fewest_105 (fun r_105 hk => ?_)
        have hb := zOk_chk hk
        have hk := hb.2
        refine zr_zald h lR_22 hb.1 dX12_fewest_108 ?_
        refine zr_if_eq (tgt := 123) h dX12_fewest_109 (by decide) (fun c => ?_) (fun c => ?_)
        · have hk := zOk_t c hk
          obtain ⟨x6_123, ex⟩ : ∃ y : Int32, y = s.2 + (zI 1) := ⟨_, rfl⟩
          have hk := zOk_bnd ex hk
          refine zr_iinc (v := x6_123) (L' := [(0, zrf E 0), (1, .int x1), (3, .int x3), (4, .int x4), (5, .int x5), (6, .int x6_123)]) h 5 [1, 2, 3, 4, 5, 0] dX12_fewest_123 rfl (by rw [ex]; rfl) (by decide) rfl ?_
          refine zr_goto (tgt := 64) h dX12_fewest_126 (by decide) ?_
          have hk := zOk_some hk
          exact zr_weak h [0, 1, 2, 3, 4, 5] rfl hk
        · have hk := zOk_f c hk
          refine zr_aload_n h dX12_fewest_112 0 rfl rfl ?_
          refine zr_getR h zfo_X12_81 lR_0 rfl dX12_fewest_113 ?_
          refine zr_iload h dX12_fewest_116 5 rfl ?_
          refine zr_iload h dX12_fewest_118 3 rfl ?_
          refine zr_iconst (v := (zI 1)) h dX12_fewest_120 rfl ?_
          refine zr_iadd h dX12_fewest_121 ?_
          have hb := zOk_chk hk
          have hk := hb.2
          refine zr_iast h lR_24 hb.1 dX12_fewest_122 ?_
          refine zr_mem (fun M_122 eM => ?_)
          have hk := zOk_bnd eM hk
          obtain ⟨x6_123, ex⟩ : ∃ y : Int32, y = s.2 + (zI 1) := ⟨_, rfl⟩
          have hk := zOk_bnd ex hk
          refine zr_iinc (v := x6_123) (L' := [(0, zrf E 0), (1, .int x1), (3, .int x3), (4, .int x4), (5, .int x5), (6, .int x6_123)]) h 5 [1, 2, 3, 4, 5, 0] dX12_fewest_123 rfl (by rw [ex]; rfl) (by decide) rfl ?_
          refine zr_goto (tgt := 64) h dX12_fewest_126 (by decide) ?_
          have hk := zOk_some hk
          exact zr_weak h [0, 1, 2, 3, 4, 5] rfl hk
      · have hk := zOk_f c hk
        obtain ⟨x6_123, ex⟩ : ∃ y : Int32, y = s.2 + (zI 1) := ⟨_, rfl⟩
        have hk := zOk_bnd ex hk
        refine zr_iinc (v := x6_123) (L' := [(0, zrf E 0), (1, .int x1), (3, .int x3), (4, .int x4), (5, .int x5), (6, .int x6_123)]) h 5 [1, 2, 3, 4, 5, 0] dX12_fewest_123 rfl (by rw [ex]; rfl) (by decide) rfl ?_
        refine zr_goto (tgt := 64) h dX12_fewest_126 (by decide) ?_
        have hk := zOk_some hk
        exact zr_weak h [0, 1, 2, 3, 4, 5] rfl hk
    · have hk := zOk_f c hk
      obtain ⟨x6_123, ex⟩ : ∃ y : Int32, y = s.2 + (zI 1) := ⟨_, rfl⟩
      have hk := zOk_bnd ex hk
      refine zr_iinc (v := x6_123) (L' := [(0, zrf E 0), (1, .int x1), (3, .int x3), (4, .int x4), (5, .int x5), (6, .int x6_123)]) h 5 [1, 2, 3, 4, 5, 0] dX12_fewest_123 rfl (by rw [ex]; rfl) (by decide) rfl ?_
      refine zr_goto (tgt := 64) h dX12_fewest_126 (by decide) ?_
      have hk := zOk_some hk
      exact zr_weak h [0, 1, 2, 3, 4, 5] rfl hk
noncomputable def f_X12_fewest_L52 (x1 : Int32) (x3 : Int32) (x4 : Int32) (s : (ZMem × Int32)) : Option ((ZMem × Int32) ⊕ (ZMem)) := if (s.1.1 0 4) ≤ s.2 then some (.inr s.1) else zbind (zloop (f_X12_fewest_L64 x1 x3 x4 s.2) (s.1, (zI 0))) (fun e64 => zbnd (s.2 + (zI 1)) (fun x5_129 => some (.inl (e64, x5_129))))
set_option maxRecDepth 100000 in
set_option maxHeartbeats 4000000 in
theorem w_X12_fewest_L52 {E : ZEv} {G : ZG} {K : (ZMem × Int32) → Prop} (h : zRu lyR E G (zRm K) cX12_fewest RX12 7 (some .int) 1) (x1 : Int32) (x3 : Int32) (x4 : Int32) (s : (ZMem × Int32)) (hk : zOk (zloop (f_X12_fewest_L52 x1 x3 x4) s) (fun e => G e 135 [(0, zrf E 0), (1, .int x1), (3, .int x3), (4, .int x4)] [])) : G s.1 52 [(0, zrf E 0), (1, .int x1), (3, .int x3), (4, .int x4), (5, .int s.2)] [] := by
  refine zloop_walk (P := fun s => G s.1 52 [(0, zrf E 0), (1, .int x1), (3, .int x3), (4, .int x4), (5, .int s.2)] []) hk (fun s hk => ?_)
  unfold f_X12_fewest_L52 at hk
  refine zr_iload h dX12_fewest_52 4 rfl ?_
  refine zr_aload_n h dX12_fewest_54 0 rfl rfl ?_
  refine zr_getI h zfo_X12_162 lR_0 rfl dX12_fewest_55 ?_
  refine zr_icmp_ge (tgt := 135) h dX12_fewest_58 (by decide) (fun c => ?_) (fun c => ?_)
  · have hk := zOk_t c hk
    have hk := zOk_some hk
    exact zr_weak h [0, 1, 2, 3] rfl hk
  · have hk := zOk_f c hk
    refine zr_iconst (v := (zI 0)) h dX12_fewest_61 rfl ?_
    refine zr_istore (L' := [(0, zrf E 0), (1, .int x1), (3, .int x3), (4, .int x4), (5, .int s.2), (6, .int (zI 0))]) h [1, 2, 3, 4, 5, 0] dX12_fewest_62 (by decide) rfl ?_
    refine w_X12_fewest_L64 h x1 x3 x4 s.2 (s.1, (zI 0)) (zOk_mono (zOk_bind hk) (fun e64 hk => ?_))
    obtain ⟨x5_129, ex⟩ : ∃ y : Int32, y = s.2 + (zI 1) := ⟨_, rfl⟩
    have hk := zOk_bnd ex hk
    refine zr_iinc (v := x5_129) (L' := [(0, zrf E 0), (1, .int x1), (3, .int x3), (4, .int x4), (5, .int x5_129)]) h 4 [1, 2, 3, 4, 0] dX12_fewest_129 rfl (by rw [ex]; rfl) (by decide) rfl ?_
    refine zr_goto (tgt := 52) h dX12_fewest_132 (by decide) ?_
    have hk := zOk_some hk
    exact zr_weak h [0, 1, 2, 3, 4] rfl hk
noncomputable def f_X12_fewest_L39 (x1 : Int32) (x3 : Int32) (s : (ZMem × Int32)) : Option ((ZMem × Int32) ⊕ (ZMem)) := zchk (zin x3 20) (if (s.1.1 24 (zix x3)) = (zI (-1)) then zbind (zloop (f_X12_fewest_L52 x1 x3 s.2) (s.1, (zI 0))) (fun e52 => zbnd (s.2 + (zI 1)) (fun x4_135 => some (.inl (e52, x4_135)))) else some (.inr s.1))
set_option maxRecDepth 100000 in
set_option maxHeartbeats 4000000 in
theorem w_X12_fewest_L39 {E : ZEv} {G : ZG} {K : (ZMem × Int32) → Prop} (h : zRu lyR E G (zRm K) cX12_fewest RX12 7 (some .int) 1) (x1 : Int32) (x3 : Int32) (s : (ZMem × Int32)) (hk : zOk (zloop (f_X12_fewest_L39 x1 x3) s) (fun e => G e 141 [(0, zrf E 0), (3, .int x3)] [])) : G s.1 39 [(0, zrf E 0), (1, .int x1), (3, .int x3), (4, .int s.2)] [] := by
  refine zloop_walk (P := fun s => G s.1 39 [(0, zrf E 0), (1, .int x1), (3, .int x3), (4, .int s.2)] []) hk (fun s hk => ?_)
  unfold f_X12_fewest_L39 at hk
  refine zr_aload_n h dX12_fewest_39 0 rfl rfl ?_
  refine zr_getR h zfo_X12_81 lR_0 rfl dX12_fewest_40 ?_
  refine zr_iload_n h dX12_fewest_43 2 rfl rfl ?_
  have hb := zOk_chk hk
  have hk := hb.2
  refine zr_iald h lR_24 hb.1 dX12_fewest_44 ?_
  refine zr_iconst (v := (zI (-1))) h dX12_fewest_45 rfl ?_
  refine zr_icmp_ne (tgt := 141) h dX12_fewest_46 (by decide) (fun c => ?_) (fun c => ?_)
  · have hk := zOk_t c hk
    refine zr_iconst (v := (zI 0)) h dX12_fewest_49 rfl ?_
    refine zr_istore (L' := [(0, zrf E 0), (1, .int x1), (3, .int x3), (4, .int s.2), (5, .int (zI 0))]) h [1, 2, 3, 4, 0] dX12_fewest_50 (by decide) rfl ?_
    refine w_X12_fewest_L52 h x1 x3 s.2 (s.1, (zI 0)) (zOk_mono (zOk_bind hk) (fun e52 hk => ?_))
    obtain ⟨x4_135, ex⟩ : ∃ y : Int32, y = s.2 + (zI 1) := ⟨_, rfl⟩
    have hk := zOk_bnd ex hk
    refine zr_iinc (v := x4_135) (L' := [(0, zrf E 0), (1, .int x1), (3, .int x3), (4, .int x4_135)]) h 3 [1, 2, 3, 0] dX12_fewest_135 rfl (by rw [ex]; rfl) (by decide) rfl ?_
    refine zr_goto (tgt := 39) h dX12_fewest_138 (by decide) ?_
    have hk := zOk_some hk
    exact zr_weak h [0, 1, 2, 3] rfl hk
  · have hk := zOk_f c hk
    have hk := zOk_some hk
    exact zr_weak h [0, 2] rfl hk
noncomputable def f_X12_fewest (M : ZMem) (x1 : Int32) (x2 : Int32) (x3 : Int32) : Option (ZMem × Int32) := zbind (zloop (f_X12_fewest_L3 x1 x2 x3) (M, (zI 0))) (fun e3 => zbind (zloop (f_X12_fewest_L39 x1 x3) (e3, (zI 0))) (fun e39 => zchk (zin x3 20) (some (e39, (e39.1 24 (zix x3))))))
set_option maxRecDepth 100000 in
set_option maxHeartbeats 4000000 in
theorem c_X12_fewest (E : ZEv) (M : ZMem) (x1 : Int32) (x2 : Int32) (x3 : Int32) (K : ZMem × Int32 → Prop) (hk : zOk (f_X12_fewest M x1 x2 x3) K) : zCon lyR E yX12_fewest cX12_fewest 7 (some .int) 1 [zrf E 0, .int x1, .int x2, .int x3] M (zRm K) := by
  refine zcon_of (L0 := [(0, zrf E 0), (1, .int x1), (2, .int x2), (3, .int x3)]) (by decide) rfl (Nat.le_of_ble_eq_true rfl) (fun G h => ?_)
  have h : zRu lyR E G (zRm K) cX12_fewest RX12 7 (some .int) 1 := h
  unfold f_X12_fewest at hk
  refine zr_iconst (v := (zI 0)) h dX12_fewest_0 rfl ?_
  refine zr_istore (L' := [(0, zrf E 0), (1, .int x1), (2, .int x2), (3, .int x3), (4, .int (zI 0))]) h [1, 2, 3, 4, 0] dX12_fewest_1 (by decide) rfl ?_
  refine w_X12_fewest_L3 h x1 x2 x3 (M, (zI 0)) (zOk_mono (zOk_bind hk) (fun e3 hk => ?_))
  refine zr_iconst (v := (zI 0)) h dX12_fewest_36 rfl ?_
  refine zr_istore (L' := [(0, zrf E 0), (1, .int x1), (3, .int x3), (4, .int (zI 0))]) h [1, 2, 3, 0] dX12_fewest_37 (by decide) rfl ?_
  refine w_X12_fewest_L39 h x1 x3 (e3, (zI 0)) (zOk_mono (zOk_bind hk) (fun e39 hk => ?_))
  refine zr_aload_n h dX12_fewest_141 0 rfl rfl ?_
  refine zr_getR h zfo_X12_81 lR_0 rfl dX12_fewest_142 ?_
  refine zr_iload_n h dX12_fewest_145 1 rfl rfl ?_
  have hb := zOk_chk hk
  have hk := hb.2
  refine zr_iald h lR_24 hb.1 dX12_fewest_146 ?_
  have hk := zOk_some hk
  exact zr_iret h dX12_fewest_147 ⟨_, rfl, hk⟩
theorem dX12_clash_0 : decode cX12_clash 0 = .ok (.iload_n 1, 1) := by decide +kernel
theorem dX12_clash_1 : decode cX12_clash 1 = .ok (.iconst 0, 1) := by decide +kernel
theorem dX12_clash_2 : decode cX12_clash 2 = .ok (.iconst 2, 1) := by decide +kernel
theorem dX12_clash_3 : decode cX12_clash 3 = .ok (.invokestatic 123, 3) := by decide +kernel
theorem dX12_clash_6 : decode cX12_clash 6 = .ok (.ifCond .ne 5, 3) := by decide +kernel
theorem dX12_clash_9 : decode cX12_clash 9 = .ok (.iconst (-1), 1) := by decide +kernel
theorem dX12_clash_10 : decode cX12_clash 10 = .ok (.ireturn, 1) := by decide +kernel
theorem dX12_clash_11 : decode cX12_clash 11 = .ok (.aload_n 0, 1) := by decide +kernel
theorem dX12_clash_12 : decode cX12_clash 12 = .ok (.invokevirtual 235, 3) := by decide +kernel
theorem dX12_clash_15 : decode cX12_clash 15 = .ok (.iconst 0, 1) := by decide +kernel
theorem dX12_clash_16 : decode cX12_clash 16 = .ok (.istore_n 2, 1) := by decide +kernel
theorem dX12_clash_17 : decode cX12_clash 17 = .ok (.iload_n 2, 1) := by decide +kernel
theorem dX12_clash_18 : decode cX12_clash 18 = .ok (.aload_n 0, 1) := by decide +kernel
theorem dX12_clash_19 : decode cX12_clash 19 = .ok (.getfield 162, 3) := by decide +kernel
theorem dX12_clash_22 : decode cX12_clash 22 = .ok (.if_icmp .ge 69, 3) := by decide +kernel
theorem dX12_clash_25 : decode cX12_clash 25 = .ok (.iload_n 2, 1) := by decide +kernel
theorem dX12_clash_26 : decode cX12_clash 26 = .ok (.iconst 1, 1) := by decide +kernel
theorem dX12_clash_27 : decode cX12_clash 27 = .ok (.iadd, 1) := by decide +kernel
theorem dX12_clash_28 : decode cX12_clash 28 = .ok (.istore_n 3, 1) := by decide +kernel
theorem dX12_clash_29 : decode cX12_clash 29 = .ok (.iload_n 3, 1) := by decide +kernel
theorem dX12_clash_30 : decode cX12_clash 30 = .ok (.aload_n 0, 1) := by decide +kernel
theorem dX12_clash_31 : decode cX12_clash 31 = .ok (.getfield 162, 3) := by decide +kernel
theorem dX12_clash_34 : decode cX12_clash 34 = .ok (.if_icmp .ge 51, 3) := by decide +kernel
theorem dX12_clash_37 : decode cX12_clash 37 = .ok (.aload_n 0, 1) := by decide +kernel
theorem dX12_clash_38 : decode cX12_clash 38 = .ok (.iload_n 2, 1) := by decide +kernel
theorem dX12_clash_39 : decode cX12_clash 39 = .ok (.iload_n 3, 1) := by decide +kernel
theorem dX12_clash_40 : decode cX12_clash 40 = .ok (.invokevirtual 359, 3) := by decide +kernel
theorem dX12_clash_43 : decode cX12_clash 43 = .ok (.ifCond .eq 36, 3) := by decide +kernel
theorem dX12_clash_46 : decode cX12_clash 46 = .ok (.iload_n 1, 1) := by decide +kernel
theorem dX12_clash_47 : decode cX12_clash 47 = .ok (.ifCond .ne 7, 3) := by decide +kernel
theorem dX12_clash_50 : decode cX12_clash 50 = .ok (.iload_n 2, 1) := by decide +kernel
theorem dX12_clash_51 : decode cX12_clash 51 = .ok (.goto 27, 3) := by decide +kernel
theorem dX12_clash_54 : decode cX12_clash 54 = .ok (.iload_n 1, 1) := by decide +kernel
theorem dX12_clash_55 : decode cX12_clash 55 = .ok (.iconst 1, 1) := by decide +kernel
theorem dX12_clash_56 : decode cX12_clash 56 = .ok (.if_icmp .ne 7, 3) := by decide +kernel
theorem dX12_clash_59 : decode cX12_clash 59 = .ok (.iload_n 3, 1) := by decide +kernel
theorem dX12_clash_60 : decode cX12_clash 60 = .ok (.goto 18, 3) := by decide +kernel
theorem dX12_clash_63 : decode cX12_clash 63 = .ok (.aload_n 0, 1) := by decide +kernel
theorem dX12_clash_64 : decode cX12_clash 64 = .ok (.iconst 0, 1) := by decide +kernel
theorem dX12_clash_65 : decode cX12_clash 65 = .ok (.iload_n 2, 1) := by decide +kernel
theorem dX12_clash_66 : decode cX12_clash 66 = .ok (.iload_n 3, 1) := by decide +kernel
theorem dX12_clash_67 : decode cX12_clash 67 = .ok (.invokevirtual 362, 3) := by decide +kernel
theorem dX12_clash_70 : decode cX12_clash 70 = .ok (.aload_n 0, 1) := by decide +kernel
theorem dX12_clash_71 : decode cX12_clash 71 = .ok (.iconst 1, 1) := by decide +kernel
theorem dX12_clash_72 : decode cX12_clash 72 = .ok (.iload_n 2, 1) := by decide +kernel
theorem dX12_clash_73 : decode cX12_clash 73 = .ok (.iload_n 3, 1) := by decide +kernel
theorem dX12_clash_74 : decode cX12_clash 74 = .ok (.invokevirtual 362, 3) := by decide +kernel
theorem dX12_clash_77 : decode cX12_clash 77 = .ok (.iadd, 1) := by decide +kernel
theorem dX12_clash_78 : decode cX12_clash 78 = .ok (.ireturn, 1) := by decide +kernel
theorem dX12_clash_79 : decode cX12_clash 79 = .ok (.iinc 3 1, 3) := by decide +kernel
theorem dX12_clash_82 : decode cX12_clash 82 = .ok (.goto (-53), 3) := by decide +kernel
theorem dX12_clash_85 : decode cX12_clash 85 = .ok (.iinc 2 1, 3) := by decide +kernel
theorem dX12_clash_88 : decode cX12_clash 88 = .ok (.goto (-71), 3) := by decide +kernel
theorem dX12_clash_91 : decode cX12_clash 91 = .ok (.bipush (-2), 2) := by decide +kernel
theorem dX12_clash_93 : decode cX12_clash 93 = .ok (.ireturn, 1) := by decide +kernel
noncomputable def f_X12_clash_L29 (x1 : Int32) (x2 : Int32) (s : (ZMem × Int32)) : Option ((ZMem × Int32) ⊕ ((ZMem) ⊕ (ZMem × Int32))) := if (s.1.1 0 4) ≤ s.2 then some (.inr (.inl s.1)) else zbind (f_X12_doClash s.1 x2 s.2) (fun r_40 => if r_40 = (zI 0) then zbnd (s.2 + (zI 1)) (fun x3_79 => some (.inl (s.1, x3_79))) else if x1 = (zI 0) then some (.inr (.inr (s.1, x2))) else if x1 = (zI 1) then some (.inr (.inr (s.1, s.2))) else zbind (f_X12_fewest s.1 (zI 0) x2 s.2) (fun r_67 => zbind (f_X12_fewest r_67.1 (zI 1) x2 s.2) (fun r_74 => some (.inr (.inr (r_74.1, (r_67.2 + r_74.2)))))))
set_option maxRecDepth 100000 in
set_option maxHeartbeats 4000000 in
theorem w_X12_clash_L29 {E : ZEv} {G : ZG} {K : (ZMem × Int32) → Prop} (h : zRu lyR E G (zRm K) cX12_clash RX12 4 (some .int) 6) (x1 : Int32) (x2 : Int32) (s : (ZMem × Int32)) (hk : zOk (zloop (f_X12_clash_L29 x1 x2) s) (fun e => zsel e (fun e0 => G e0 85 [(0, zrf E 0), (1, .int x1), (2, .int x2)] []) (fun f0 => K f0))) : G s.1 29 [(0, zrf E 0), (1, .int x1), (2, .int x2), (3, .int s.2)] [] := by
  refine zloop_walk (P := fun s => G s.1 29 [(0, zrf E 0), (1, .int x1), (2, .int x2), (3, .int s.2)] []) hk (fun s hk => ?_)
  unfold f_X12_clash_L29 at hk
  refine zr_iload_n h dX12_clash_29 3 rfl rfl ?_
  refine zr_aload_n h dX12_clash_30 0 rfl rfl ?_
  refine zr_getI h zfo_X12_162 lR_0 rfl dX12_clash_31 ?_
  refine zr_icmp_ge (tgt := 85) h dX12_clash_34 (by decide) (fun c => ?_) (fun c => ?_)
  · have hk := zOk_t c hk
    have hk := zOk_some hk
    exact zr_weak h [0, 1, 2] rfl hk
  · have hk := zOk_f c hk
    refine zr_aload_n h dX12_clash_37 0 rfl rfl ?_
    refine zr_iload_n h dX12_clash_38 2 rfl rfl ?_
    refine zr_iload_n h dX12_clash_39 3 rfl rfl ?_
    refine zr_callVp h lR_0 zcw_X12_359 (by decide) (c_X12_doClash E s.1 x2 s.2 _ (zOk_bind hk)) rfl rfl (Nat.le_of_ble_eq_true rfl) dX12_clash_40 (fun r_40 hk => ?_)
    refine zr_if_eq (tgt := 79) h dX12_clash_43 (by decide) (fun c => ?_) (fun c => ?_)
    · have hk := zOk_t c hk
      obtain ⟨x3_79, ex⟩ : ∃ y : Int32, y = s.2 + (zI 1) := ⟨_, rfl⟩
      have hk := zOk_bnd ex hk
      refine zr_iinc (v := x3_79) (L' := [(0, zrf E 0), (1, .int x1), (2, .int x2), (3, .int x3_79)]) h 3 [1, 2, 3, 0] dX12_clash_79 rfl (by rw [ex]; rfl) (by decide) rfl ?_
      refine zr_goto (tgt := 29) h dX12_clash_82 (by decide) ?_
      have hk := zOk_some hk
      exact zr_weak h [0, 1, 2, 3] rfl hk
    · have hk := zOk_f c hk
      refine zr_iload_n h dX12_clash_46 1 rfl rfl ?_
      refine zr_if_ne (tgt := 54) h dX12_clash_47 (by decide) (fun c => ?_) (fun c => ?_)
      · have hk := zOk_t c hk
        refine zr_iload_n h dX12_clash_50 2 rfl rfl ?_
        refine zr_goto (tgt := 78) h dX12_clash_51 (by decide) ?_
        have hk := zOk_some hk
        exact zr_iret h dX12_clash_78 ⟨_, rfl, hk⟩
      · have hk := zOk_f c hk
        refine zr_iload_n h dX12_clash_54 1 rfl rfl ?_
        refine zr_iconst (v := (zI 1)) h dX12_clash_55 rfl ?_
        refine zr_icmp_ne (tgt := 63) h dX12_clash_56 (by decide) (fun c => ?_) (fun c => ?_)
        · have hk := zOk_t c hk
          refine zr_iload_n h dX12_clash_59 3 rfl rfl ?_
          refine zr_goto (tgt := 78) h dX12_clash_60 (by decide) ?_
          have hk := zOk_some hk
          exact zr_iret h dX12_clash_78 ⟨_, rfl, hk⟩
        · have hk := zOk_f c hk
          refine zr_aload_n h dX12_clash_63 0 rfl rfl ?_
          refine zr_iconst (v := (zI 0)) h dX12_clash_64 rfl ?_
          refine zr_iload_n h dX12_clash_65 2 rfl rfl ?_
          refine zr_iload_n h dX12_clash_66 3 rfl rfl ?_
          refine zr_callVm h lR_0 zcw_X12_362 (by decide) (c_X12_fewest E s.1 (zI 0) x2 s.2 _ (zOk_bind hk)) rfl rfl (Nat.le_of_ble_eq_true rfl) dX12_clash_67 (fun r_67 hk => ?_)
          refine zr_aload_n h dX12_clash_70 0 rfl rfl ?_
          refine zr_iconst (v := (zI 1)) h dX12_clash_71 rfl ?_
          refine zr_iload_n h dX12_clash_72 2 rfl rfl ?_
          refine zr_iload_n h dX12_clash_73 3 rfl rfl ?_
          refine zr_callVm h lR_0 zcw_X12_362 (by decide) (c_X12_fewest E r_67.1 (zI 1) x2 s.2 _ (zOk_bind hk)) rfl rfl (Nat.le_of_ble_eq_true rfl) dX12_clash_74 (fun r_74 hk => ?_)
          refine zr_iadd h dX12_clash_77 ?_
          have hk := zOk_some hk
          exact zr_iret h dX12_clash_78 ⟨_, rfl, hk⟩
noncomputable def f_X12_clash_L17 (x1 : Int32) (s : (ZMem × Int32)) : Option ((ZMem × Int32) ⊕ ((ZMem) ⊕ (ZMem × Int32))) := if (s.1.1 0 4) ≤ s.2 then some (.inr (.inl s.1)) else zbnd (s.2 + (zI 1)) (fun x3_28 => zbind (zloop (f_X12_clash_L29 x1 s.2) (s.1, x3_28)) (fun e29 => zsel e29 (fun e29a => zbnd (s.2 + (zI 1)) (fun x2_85 => some (.inl (e29a, x2_85)))) (fun e29b => some (.inr (.inr e29b)))))
set_option maxRecDepth 100000 in
set_option maxHeartbeats 4000000 in
theorem w_X12_clash_L17 {E : ZEv} {G : ZG} {K : (ZMem × Int32) → Prop} (h : zRu lyR E G (zRm K) cX12_clash RX12 4 (some .int) 6) (x1 : Int32) (s : (ZMem × Int32)) (hk : zOk (zloop (f_X12_clash_L17 x1) s) (fun e => zsel e (fun e0 => G e0 91 [] []) (fun f0 => K f0))) : G s.1 17 [(0, zrf E 0), (1, .int x1), (2, .int s.2)] [] := by
  refine zloop_walk (P := fun s => G s.1 17 [(0, zrf E 0), (1, .int x1), (2, .int s.2)] []) hk (fun s hk => ?_)
  unfold f_X12_clash_L17 at hk
  refine zr_iload_n h dX12_clash_17 2 rfl rfl ?_
  refine zr_aload_n h dX12_clash_18 0 rfl rfl ?_
  refine zr_getI h zfo_X12_162 lR_0 rfl dX12_clash_19 ?_
  refine zr_icmp_ge (tgt := 91) h dX12_clash_22 (by decide) (fun c => ?_) (fun c => ?_)
  · have hk := zOk_t c hk
    have hk := zOk_some hk
    exact zr_weak h [] rfl hk
  · have hk := zOk_f c hk
    refine zr_iload_n h dX12_clash_25 2 rfl rfl ?_
    refine zr_iconst (v := (zI 1)) h dX12_clash_26 rfl ?_
    refine zr_iadd h dX12_clash_27 ?_
    refine zr_topi (fun x3_28 ex => ?_)
    have hk := zOk_bnd ex hk
    refine zr_istore_n (L' := [(0, zrf E 0), (1, .int x1), (2, .int s.2), (3, .int x3_28)]) h [1, 2, 3, 0] dX12_clash_28 rfl (by decide) rfl ?_
    refine w_X12_clash_L29 h x1 s.2 (s.1, x3_28) (zOk_mono (zOk_bind hk) (fun e29 hk => ?_))
    cases e29 with
    | inl e29a =>
      have hk := zOk_selL hk
      obtain ⟨x2_85, ex⟩ : ∃ y : Int32, y = s.2 + (zI 1) := ⟨_, rfl⟩
      have hk := zOk_bnd ex hk
      refine zr_iinc (v := x2_85) (L' := [(0, zrf E 0), (1, .int x1), (2, .int x2_85)]) h 2 [1, 2, 0] dX12_clash_85 rfl (by rw [ex]; rfl) (by decide) rfl ?_
      refine zr_goto (tgt := 17) h dX12_clash_88 (by decide) ?_
      have hk := zOk_some hk
      exact zr_weak h [0, 1, 2] rfl hk
    | inr e29b =>
      have hk := zOk_selR hk
      have hk := zOk_some hk
      exact hk
noncomputable def f_X12_clash (M : ZMem) (x1 : Int32) : Option (ZMem × Int32) := zbind (f_X12_in M x1 (zI 0) (zI 2)) (fun r_3 => if r_3 = (zI 0) then some (M, (zI (-1))) else zbind (f_X12_lays M) (fun M_12 => zbind (zloop (f_X12_clash_L17 x1) (M_12, (zI 0))) (fun e17 => zsel e17 (fun e17a => some (e17a, (zI (-2)))) (fun e17b => some e17b))))
set_option maxRecDepth 100000 in
set_option maxHeartbeats 4000000 in
theorem c_X12_clash (E : ZEv) (M : ZMem) (x1 : Int32) (K : ZMem × Int32 → Prop) (hk : zOk (f_X12_clash M x1) K) : zCon lyR E yX12_clash cX12_clash 4 (some .int) 6 [zrf E 0, .int x1] M (zRm K) := by
  refine zcon_of (L0 := [(0, zrf E 0), (1, .int x1)]) (by decide) rfl (Nat.le_of_ble_eq_true rfl) (fun G h => ?_)
  have h : zRu lyR E G (zRm K) cX12_clash RX12 4 (some .int) 6 := h
  unfold f_X12_clash at hk
  refine zr_iload_n h dX12_clash_0 1 rfl rfl ?_
  refine zr_iconst (v := (zI 0)) h dX12_clash_1 rfl ?_
  refine zr_iconst (v := (zI 2)) h dX12_clash_2 rfl ?_
  refine zr_callSp h zcw_X12_123 (by decide) (c_X12_in E M x1 (zI 0) (zI 2) _ (zOk_bind hk)) rfl rfl (Nat.le_of_ble_eq_true rfl) dX12_clash_3 (fun r_3 hk => ?_)
  refine zr_if_ne (tgt := 11) h dX12_clash_6 (by decide) (fun c => ?_) (fun c => ?_)
  · have hk := zOk_t c hk
    refine zr_iconst (v := (zI (-1))) h dX12_clash_9 rfl ?_
    have hk := zOk_some hk
    exact zr_iret h dX12_clash_10 ⟨_, rfl, hk⟩
  · have hk := zOk_f c hk
    refine zr_aload_n h dX12_clash_11 0 rfl rfl ?_
    refine zr_callVv h lR_0 zcw_X12_235 (by decide) (c_X12_lays E M _ (zOk_bind hk)) rfl rfl (Nat.le_of_ble_eq_true rfl) dX12_clash_12 (fun M_12 hk => ?_)
    refine zr_iconst (v := (zI 0)) h dX12_clash_15 rfl ?_
    refine zr_istore_n (L' := [(0, zrf E 0), (1, .int x1), (2, .int (zI 0))]) h [1, 2, 0] dX12_clash_16 rfl (by decide) rfl ?_
    refine w_X12_clash_L17 h x1 (M_12, (zI 0)) (zOk_mono (zOk_bind hk) (fun e17 hk => ?_))
    cases e17 with
    | inl e17a =>
      have hk := zOk_selL hk
      refine zr_bipush (v := (zI (-2))) h dX12_clash_91 (by decide) ?_
      have hk := zOk_some hk
      exact zr_iret h dX12_clash_93 ⟨_, rfl, hk⟩
    | inr e17b =>
      have hk := zOk_selR hk
      have hk := zOk_some hk
      exact hk
theorem dX12_clashes_0 : decode cX12_clashes 0 = .ok (.aload_n 0, 1) := by decide +kernel
theorem dX12_clashes_1 : decode cX12_clashes 1 = .ok (.invokevirtual 235, 3) := by decide +kernel
theorem dX12_clashes_4 : decode cX12_clashes 4 = .ok (.iconst 0, 1) := by decide +kernel
theorem dX12_clashes_5 : decode cX12_clashes 5 = .ok (.istore_n 1, 1) := by decide +kernel
theorem dX12_clashes_6 : decode cX12_clashes 6 = .ok (.iconst 0, 1) := by decide +kernel
theorem dX12_clashes_7 : decode cX12_clashes 7 = .ok (.istore_n 2, 1) := by decide +kernel
theorem dX12_clashes_8 : decode cX12_clashes 8 = .ok (.iload_n 2, 1) := by decide +kernel
theorem dX12_clashes_9 : decode cX12_clashes 9 = .ok (.aload_n 0, 1) := by decide +kernel
theorem dX12_clashes_10 : decode cX12_clashes 10 = .ok (.getfield 162, 3) := by decide +kernel
theorem dX12_clashes_13 : decode cX12_clashes 13 = .ok (.if_icmp .ge 39, 3) := by decide +kernel
theorem dX12_clashes_16 : decode cX12_clashes 16 = .ok (.iload_n 2, 1) := by decide +kernel
theorem dX12_clashes_17 : decode cX12_clashes 17 = .ok (.iconst 1, 1) := by decide +kernel
theorem dX12_clashes_18 : decode cX12_clashes 18 = .ok (.iadd, 1) := by decide +kernel
theorem dX12_clashes_19 : decode cX12_clashes 19 = .ok (.istore_n 3, 1) := by decide +kernel
theorem dX12_clashes_20 : decode cX12_clashes 20 = .ok (.iload_n 3, 1) := by decide +kernel
theorem dX12_clashes_21 : decode cX12_clashes 21 = .ok (.aload_n 0, 1) := by decide +kernel
theorem dX12_clashes_22 : decode cX12_clashes 22 = .ok (.getfield 162, 3) := by decide +kernel
theorem dX12_clashes_25 : decode cX12_clashes 25 = .ok (.if_icmp .ge 21, 3) := by decide +kernel
theorem dX12_clashes_28 : decode cX12_clashes 28 = .ok (.iload_n 1, 1) := by decide +kernel
theorem dX12_clashes_29 : decode cX12_clashes 29 = .ok (.aload_n 0, 1) := by decide +kernel
theorem dX12_clashes_30 : decode cX12_clashes 30 = .ok (.iload_n 2, 1) := by decide +kernel
theorem dX12_clashes_31 : decode cX12_clashes 31 = .ok (.iload_n 3, 1) := by decide +kernel
theorem dX12_clashes_32 : decode cX12_clashes 32 = .ok (.invokevirtual 359, 3) := by decide +kernel
theorem dX12_clashes_35 : decode cX12_clashes 35 = .ok (.invokestatic 177, 3) := by decide +kernel
theorem dX12_clashes_38 : decode cX12_clashes 38 = .ok (.iadd, 1) := by decide +kernel
theorem dX12_clashes_39 : decode cX12_clashes 39 = .ok (.istore_n 1, 1) := by decide +kernel
theorem dX12_clashes_40 : decode cX12_clashes 40 = .ok (.iinc 3 1, 3) := by decide +kernel
theorem dX12_clashes_43 : decode cX12_clashes 43 = .ok (.goto (-23), 3) := by decide +kernel
theorem dX12_clashes_46 : decode cX12_clashes 46 = .ok (.iinc 2 1, 3) := by decide +kernel
theorem dX12_clashes_49 : decode cX12_clashes 49 = .ok (.goto (-41), 3) := by decide +kernel
theorem dX12_clashes_52 : decode cX12_clashes 52 = .ok (.iload_n 1, 1) := by decide +kernel
theorem dX12_clashes_53 : decode cX12_clashes 53 = .ok (.ireturn, 1) := by decide +kernel
noncomputable def f_X12_clashes_L20 (M : ZMem) (x2 : Int32) (s : (Int32 × Int32)) : Option ((Int32 × Int32) ⊕ (Int32)) := if (M.1 0 4) ≤ s.2 then some (.inr s.1) else zbind (f_X12_doClash M x2 s.2) (fun r_32 => zbind (f_X12_truth M r_32) (fun r_35 => zbnd (s.1 + r_35) (fun x1_39 => zbnd (s.2 + (zI 1)) (fun x3_40 => some (.inl (x1_39, x3_40))))))
set_option maxRecDepth 100000 in
set_option maxHeartbeats 4000000 in
theorem w_X12_clashes_L20 {E : ZEv} {G : ZG} {K : (ZMem × Int32) → Prop} (h : zRu lyR E G (zRm K) cX12_clashes RX12 4 (some .int) 6) (M : ZMem) (x2 : Int32) (s : (Int32 × Int32)) (hk : zOk (zloop (f_X12_clashes_L20 M x2) s) (fun e => G M 46 [(0, zrf E 0), (1, .int e), (2, .int x2)] [])) : G M 20 [(0, zrf E 0), (1, .int s.1), (2, .int x2), (3, .int s.2)] [] := by
  refine zloop_walk (P := fun s => G M 20 [(0, zrf E 0), (1, .int s.1), (2, .int x2), (3, .int s.2)] []) hk (fun s hk => ?_)
  unfold f_X12_clashes_L20 at hk
  refine zr_iload_n h dX12_clashes_20 3 rfl rfl ?_
  refine zr_aload_n h dX12_clashes_21 0 rfl rfl ?_
  refine zr_getI h zfo_X12_162 lR_0 rfl dX12_clashes_22 ?_
  refine zr_icmp_ge (tgt := 46) h dX12_clashes_25 (by decide) (fun c => ?_) (fun c => ?_)
  · have hk := zOk_t c hk
    have hk := zOk_some hk
    exact zr_weak h [0, 1, 2] rfl hk
  · have hk := zOk_f c hk
    refine zr_iload_n h dX12_clashes_28 1 rfl rfl ?_
    refine zr_aload_n h dX12_clashes_29 0 rfl rfl ?_
    refine zr_iload_n h dX12_clashes_30 2 rfl rfl ?_
    refine zr_iload_n h dX12_clashes_31 3 rfl rfl ?_
    refine zr_callVp h lR_0 zcw_X12_359 (by decide) (c_X12_doClash E M x2 s.2 _ (zOk_bind hk)) rfl rfl (Nat.le_of_ble_eq_true rfl) dX12_clashes_32 (fun r_32 hk => ?_)
    refine zr_callSp h zcw_X12_177 (by decide) (c_X12_truth E M r_32 _ (zOk_bind hk)) rfl rfl (Nat.le_of_ble_eq_true rfl) dX12_clashes_35 (fun r_35 hk => ?_)
    refine zr_iadd h dX12_clashes_38 ?_
    refine zr_topi (fun x1_39 ex => ?_)
    have hk := zOk_bnd ex hk
    refine zr_istore_n (L' := [(0, zrf E 0), (1, .int x1_39), (2, .int x2), (3, .int s.2)]) h [1, 0, 2, 3] dX12_clashes_39 rfl (by decide) rfl ?_
    obtain ⟨x3_40, ex⟩ : ∃ y : Int32, y = s.2 + (zI 1) := ⟨_, rfl⟩
    have hk := zOk_bnd ex hk
    refine zr_iinc (v := x3_40) (L' := [(0, zrf E 0), (1, .int x1_39), (2, .int x2), (3, .int x3_40)]) h 3 [1, 2, 3, 0] dX12_clashes_40 rfl (by rw [ex]; rfl) (by decide) rfl ?_
    refine zr_goto (tgt := 20) h dX12_clashes_43 (by decide) ?_
    have hk := zOk_some hk
    exact zr_weak h [0, 1, 2, 3] rfl hk
noncomputable def f_X12_clashes_L8 (M : ZMem) (s : (Int32 × Int32)) : Option ((Int32 × Int32) ⊕ (Int32)) := if (M.1 0 4) ≤ s.2 then some (.inr s.1) else zbnd (s.2 + (zI 1)) (fun x3_19 => zbind (zloop (f_X12_clashes_L20 M s.2) (s.1, x3_19)) (fun e20 => zbnd (s.2 + (zI 1)) (fun x2_46 => some (.inl (e20, x2_46)))))
set_option maxRecDepth 100000 in
set_option maxHeartbeats 4000000 in
theorem w_X12_clashes_L8 {E : ZEv} {G : ZG} {K : (ZMem × Int32) → Prop} (h : zRu lyR E G (zRm K) cX12_clashes RX12 4 (some .int) 6) (M : ZMem) (s : (Int32 × Int32)) (hk : zOk (zloop (f_X12_clashes_L8 M) s) (fun e => G M 52 [(1, .int e)] [])) : G M 8 [(0, zrf E 0), (1, .int s.1), (2, .int s.2)] [] := by
  refine zloop_walk (P := fun s => G M 8 [(0, zrf E 0), (1, .int s.1), (2, .int s.2)] []) hk (fun s hk => ?_)
  unfold f_X12_clashes_L8 at hk
  refine zr_iload_n h dX12_clashes_8 2 rfl rfl ?_
  refine zr_aload_n h dX12_clashes_9 0 rfl rfl ?_
  refine zr_getI h zfo_X12_162 lR_0 rfl dX12_clashes_10 ?_
  refine zr_icmp_ge (tgt := 52) h dX12_clashes_13 (by decide) (fun c => ?_) (fun c => ?_)
  · have hk := zOk_t c hk
    have hk := zOk_some hk
    exact zr_weak h [1] rfl hk
  · have hk := zOk_f c hk
    refine zr_iload_n h dX12_clashes_16 2 rfl rfl ?_
    refine zr_iconst (v := (zI 1)) h dX12_clashes_17 rfl ?_
    refine zr_iadd h dX12_clashes_18 ?_
    refine zr_topi (fun x3_19 ex => ?_)
    have hk := zOk_bnd ex hk
    refine zr_istore_n (L' := [(0, zrf E 0), (1, .int s.1), (2, .int s.2), (3, .int x3_19)]) h [1, 2, 3, 0] dX12_clashes_19 rfl (by decide) rfl ?_
    refine w_X12_clashes_L20 h M s.2 (s.1, x3_19) (zOk_mono (zOk_bind hk) (fun e20 hk => ?_))
    obtain ⟨x2_46, ex⟩ : ∃ y : Int32, y = s.2 + (zI 1) := ⟨_, rfl⟩
    have hk := zOk_bnd ex hk
    refine zr_iinc (v := x2_46) (L' := [(0, zrf E 0), (1, .int e20), (2, .int x2_46)]) h 2 [1, 2, 0] dX12_clashes_46 rfl (by rw [ex]; rfl) (by decide) rfl ?_
    refine zr_goto (tgt := 8) h dX12_clashes_49 (by decide) ?_
    have hk := zOk_some hk
    exact zr_weak h [0, 1, 2] rfl hk
noncomputable def f_X12_clashes (M : ZMem) : Option (ZMem × Int32) := zbind (f_X12_lays M) (fun M_1 => zbind (zloop (f_X12_clashes_L8 M_1) ((zI 0), (zI 0))) (fun e8 => some (M_1, e8)))
set_option maxRecDepth 100000 in
set_option maxHeartbeats 4000000 in
theorem c_X12_clashes (E : ZEv) (M : ZMem) (K : ZMem × Int32 → Prop) (hk : zOk (f_X12_clashes M) K) : zCon lyR E yX12_clashes cX12_clashes 4 (some .int) 6 [zrf E 0] M (zRm K) := by
  refine zcon_of (L0 := [(0, zrf E 0)]) (by decide) rfl (Nat.le_of_ble_eq_true rfl) (fun G h => ?_)
  have h : zRu lyR E G (zRm K) cX12_clashes RX12 4 (some .int) 6 := h
  unfold f_X12_clashes at hk
  refine zr_aload_n h dX12_clashes_0 0 rfl rfl ?_
  refine zr_callVv h lR_0 zcw_X12_235 (by decide) (c_X12_lays E M _ (zOk_bind hk)) rfl rfl (Nat.le_of_ble_eq_true rfl) dX12_clashes_1 (fun M_1 hk => ?_)
  refine zr_iconst (v := (zI 0)) h dX12_clashes_4 rfl ?_
  refine zr_istore_n (L' := [(0, zrf E 0), (1, .int (zI 0))]) h [1, 0] dX12_clashes_5 rfl (by decide) rfl ?_
  refine zr_iconst (v := (zI 0)) h dX12_clashes_6 rfl ?_
  refine zr_istore_n (L' := [(0, zrf E 0), (1, .int (zI 0)), (2, .int (zI 0))]) h [1, 2, 0] dX12_clashes_7 rfl (by decide) rfl ?_
  refine w_X12_clashes_L8 h M_1 ((zI 0), (zI 0)) (zOk_mono (zOk_bind hk) (fun e8 hk => ?_))
  refine zr_iload_n h dX12_clashes_52 0 rfl rfl ?_
  have hk := zOk_some hk
  exact zr_iret h dX12_clashes_53 ⟨_, rfl, hk⟩
theorem dX12_known_0 : decode cX12_known 0 = .ok (.aload_n 0, 1) := by decide +kernel
theorem dX12_known_1 : decode cX12_known 1 = .ok (.iload_n 1, 1) := by decide +kernel
theorem dX12_known_2 : decode cX12_known 2 = .ok (.invokevirtual 224, 3) := by decide +kernel
theorem dX12_known_5 : decode cX12_known 5 = .ok (.ifCond .eq 12, 3) := by decide +kernel
theorem dX12_known_8 : decode cX12_known 8 = .ok (.iload_n 2, 1) := by decide +kernel
theorem dX12_known_9 : decode cX12_known 9 = .ok (.iconst 0, 1) := by decide +kernel
theorem dX12_known_10 : decode cX12_known 10 = .ok (.iconst 2, 1) := by decide +kernel
theorem dX12_known_11 : decode cX12_known 11 = .ok (.invokestatic 123, 3) := by decide +kernel
theorem dX12_known_14 : decode cX12_known 14 = .ok (.ifCond .ne 5, 3) := by decide +kernel
theorem dX12_known_17 : decode cX12_known 17 = .ok (.iconst (-1), 1) := by decide +kernel
theorem dX12_known_18 : decode cX12_known 18 = .ok (.ireturn, 1) := by decide +kernel
theorem dX12_known_19 : decode cX12_known 19 = .ok (.aload_n 0, 1) := by decide +kernel
theorem dX12_known_20 : decode cX12_known 20 = .ok (.invokevirtual 235, 3) := by decide +kernel
theorem dX12_known_23 : decode cX12_known 23 = .ok (.iload_n 2, 1) := by decide +kernel
theorem dX12_known_24 : decode cX12_known 24 = .ok (.iconst 2, 1) := by decide +kernel
theorem dX12_known_25 : decode cX12_known 25 = .ok (.if_icmp .ne 14, 3) := by decide +kernel
theorem dX12_known_28 : decode cX12_known 28 = .ok (.aload_n 0, 1) := by decide +kernel
theorem dX12_known_29 : decode cX12_known 29 = .ok (.iload_n 1, 1) := by decide +kernel
theorem dX12_known_30 : decode cX12_known 30 = .ok (.invokevirtual 371, 3) := by decide +kernel
theorem dX12_known_33 : decode cX12_known 33 = .ok (.invokestatic 177, 3) := by decide +kernel
theorem dX12_known_36 : decode cX12_known 36 = .ok (.goto 14, 3) := by decide +kernel
theorem dX12_known_39 : decode cX12_known 39 = .ok (.aload_n 0, 1) := by decide +kernel
theorem dX12_known_40 : decode cX12_known 40 = .ok (.getfield 84, 3) := by decide +kernel
theorem dX12_known_43 : decode cX12_known 43 = .ok (.bipush 20, 2) := by decide +kernel
theorem dX12_known_45 : decode cX12_known 45 = .ok (.iload_n 2, 1) := by decide +kernel
theorem dX12_known_46 : decode cX12_known 46 = .ok (.imul, 1) := by decide +kernel
theorem dX12_known_47 : decode cX12_known 47 = .ok (.iload_n 1, 1) := by decide +kernel
theorem dX12_known_48 : decode cX12_known 48 = .ok (.iadd, 1) := by decide +kernel
theorem dX12_known_49 : decode cX12_known 49 = .ok (.iaload, 1) := by decide +kernel
theorem dX12_known_50 : decode cX12_known 50 = .ok (.ireturn, 1) := by decide +kernel
noncomputable def f_X12_known (M : ZMem) (x1 : Int32) (x2 : Int32) : Option (ZMem × Int32) := zbind (f_X12_isForm M x1) (fun r_2 => if r_2 = (zI 0) then some (M, (zI (-1))) else zbind (f_X12_in M x2 (zI 0) (zI 2)) (fun r_11 => if r_11 = (zI 0) then some (M, (zI (-1))) else zbind (f_X12_lays M) (fun M_20 => if x2 = (zI 2) then zbind (f_X12_isDisputed M_20 x1) (fun r_30 => zbind (f_X12_truth M_20 r_30) (fun r_33 => some (M_20, r_33))) else zchk (zin (((zI 20) * x2) + x1) 40) (some (M_20, (M_20.1 25 (zix (((zI 20) * x2) + x1))))))))
set_option maxRecDepth 100000 in
set_option maxHeartbeats 4000000 in
theorem c_X12_known (E : ZEv) (M : ZMem) (x1 : Int32) (x2 : Int32) (K : ZMem × Int32 → Prop) (hk : zOk (f_X12_known M x1 x2) K) : zCon lyR E yX12_known cX12_known 3 (some .int) 6 [zrf E 0, .int x1, .int x2] M (zRm K) := by
  refine zcon_of (L0 := [(0, zrf E 0), (1, .int x1), (2, .int x2)]) (by decide) rfl (Nat.le_of_ble_eq_true rfl) (fun G h => ?_)
  have h : zRu lyR E G (zRm K) cX12_known RX12 3 (some .int) 6 := h
  unfold f_X12_known at hk
  refine zr_aload_n h dX12_known_0 0 rfl rfl ?_
  refine zr_iload_n h dX12_known_1 1 rfl rfl ?_
  refine zr_callVp h lR_0 zcw_X12_224 (by decide) (c_X12_isForm E M x1 _ (zOk_bind hk)) rfl rfl (Nat.le_of_ble_eq_true rfl) dX12_known_2 (fun r_2 hk => ?_)
  refine zr_if_eq (tgt := 17) h dX12_known_5 (by decide) (fun c => ?_) (fun c => ?_)
  · have hk := zOk_t c hk
    refine zr_iconst (v := (zI (-1))) h dX12_known_17 rfl ?_
    have hk := zOk_some hk
    exact zr_iret h dX12_known_18 ⟨_, rfl, hk⟩
  · have hk := zOk_f c hk
    refine zr_iload_n h dX12_known_8 2 rfl rfl ?_
    refine zr_iconst (v := (zI 0)) h dX12_known_9 rfl ?_
    refine zr_iconst (v := (zI 2)) h dX12_known_10 rfl ?_
    refine zr_callSp h zcw_X12_123 (by decide) (c_X12_in E M x2 (zI 0) (zI 2) _ (zOk_bind hk)) rfl rfl (Nat.le_of_ble_eq_true rfl) dX12_known_11 (fun r_11 hk => ?_)
    refine zr_if_ne (tgt := 19) h dX12_known_14 (by decide) (fun c => ?_) (fun c => ?_)
    · have hk := zOk_t c hk
      refine zr_iconst (v := (zI (-1))) h dX12_known_17 rfl ?_
      have hk := zOk_some hk
      exact zr_iret h dX12_known_18 ⟨_, rfl, hk⟩
    · have hk := zOk_f c hk
      refine zr_aload_n h dX12_known_19 0 rfl rfl ?_
      refine zr_callVv h lR_0 zcw_X12_235 (by decide) (c_X12_lays E M _ (zOk_bind hk)) rfl rfl (Nat.le_of_ble_eq_true rfl) dX12_known_20 (fun M_20 hk => ?_)
      refine zr_iload_n h dX12_known_23 2 rfl rfl ?_
      refine zr_iconst (v := (zI 2)) h dX12_known_24 rfl ?_
      refine zr_icmp_ne (tgt := 39) h dX12_known_25 (by decide) (fun c => ?_) (fun c => ?_)
      · have hk := zOk_t c hk
        refine zr_aload_n h dX12_known_28 0 rfl rfl ?_
        refine zr_iload_n h dX12_known_29 1 rfl rfl ?_
        refine zr_callVp h lR_0 zcw_X12_371 (by decide) (c_X12_isDisputed E M_20 x1 _ (zOk_bind hk)) rfl rfl (Nat.le_of_ble_eq_true rfl) dX12_known_30 (fun r_30 hk => ?_)
        refine zr_callSp h zcw_X12_177 (by decide) (c_X12_truth E M_20 r_30 _ (zOk_bind hk)) rfl rfl (Nat.le_of_ble_eq_true rfl) dX12_known_33 (fun r_33 hk => ?_)
        refine zr_goto (tgt := 50) h dX12_known_36 (by decide) ?_
        have hk := zOk_some hk
        exact zr_iret h dX12_known_50 ⟨_, rfl, hk⟩
      · have hk := zOk_f c hk
        refine zr_aload_n h dX12_known_39 0 rfl rfl ?_
        refine zr_getR h zfo_X12_84 lR_0 rfl dX12_known_40 ?_
        refine zr_bipush (v := (zI 20)) h dX12_known_43 (by decide) ?_
        refine zr_iload_n h dX12_known_45 2 rfl rfl ?_
        refine zr_imul h dX12_known_46 ?_
        refine zr_iload_n h dX12_known_47 1 rfl rfl ?_
        refine zr_iadd h dX12_known_48 ?_
        have hb := zOk_chk hk
        have hk := hb.2
        refine zr_iald h lR_25 hb.1 dX12_known_49 ?_
        have hk := zOk_some hk
        exact zr_iret h dX12_known_50 ⟨_, rfl, hk⟩
theorem dX12_wordSign_0 : decode cX12_wordSign 0 = .ok (.aload_n 0, 1) := by decide +kernel
theorem dX12_wordSign_1 : decode cX12_wordSign 1 = .ok (.getfield 59, 3) := by decide +kernel
theorem dX12_wordSign_4 : decode cX12_wordSign 4 = .ok (.bipush 7, 2) := by decide +kernel
theorem dX12_wordSign_6 : decode cX12_wordSign 6 = .ok (.iload_n 1, 1) := by decide +kernel
theorem dX12_wordSign_7 : decode cX12_wordSign 7 = .ok (.imul, 1) := by decide +kernel
theorem dX12_wordSign_8 : decode cX12_wordSign 8 = .ok (.iload_n 2, 1) := by decide +kernel
theorem dX12_wordSign_9 : decode cX12_wordSign 9 = .ok (.iadd, 1) := by decide +kernel
theorem dX12_wordSign_10 : decode cX12_wordSign 10 = .ok (.iaload, 1) := by decide +kernel
theorem dX12_wordSign_11 : decode cX12_wordSign 11 = .ok (.ireturn, 1) := by decide +kernel
noncomputable def f_X12_wordSign (M : ZMem) (x1 : Int32) (x2 : Int32) : Option Int32 := zchk (zin (((zI 7) * x1) + x2) 1687) (some (M.1 17 (zix (((zI 7) * x1) + x2))))
set_option maxRecDepth 100000 in
set_option maxHeartbeats 4000000 in
theorem c_X12_wordSign (E : ZEv) (M : ZMem) (x1 : Int32) (x2 : Int32) (K : Int32 → Prop) (hk : zOk (f_X12_wordSign M x1 x2) K) : zCon lyR E yX12_wordSign cX12_wordSign 3 (some .int) 0 [zrf E 0, .int x1, .int x2] M (zRp M K) := by
  refine zcon_of (L0 := [(0, zrf E 0), (1, .int x1), (2, .int x2)]) (by decide) rfl (Nat.le_of_ble_eq_true rfl) (fun G h => ?_)
  have h : zRu lyR E G (zRp M K) cX12_wordSign RX12 3 (some .int) 0 := h
  unfold f_X12_wordSign at hk
  refine zr_aload_n h dX12_wordSign_0 0 rfl rfl ?_
  refine zr_getR h zfo_X12_59 lR_0 rfl dX12_wordSign_1 ?_
  refine zr_bipush (v := (zI 7)) h dX12_wordSign_4 (by decide) ?_
  refine zr_iload_n h dX12_wordSign_6 1 rfl rfl ?_
  refine zr_imul h dX12_wordSign_7 ?_
  refine zr_iload_n h dX12_wordSign_8 2 rfl rfl ?_
  refine zr_iadd h dX12_wordSign_9 ?_
  have hb := zOk_chk hk
  have hk := hb.2
  refine zr_iald h lR_17 hb.1 dX12_wordSign_10 ?_
  have hk := zOk_some hk
  exact zr_iret h dX12_wordSign_11 ⟨rfl, _, rfl, hk⟩
theorem dX12_fitsName_0 : decode cX12_fitsName 0 = .ok (.aload_n 0, 1) := by decide +kernel
theorem dX12_fitsName_1 : decode cX12_fitsName 1 = .ok (.getfield 56, 3) := by decide +kernel
theorem dX12_fitsName_4 : decode cX12_fitsName 4 = .ok (.iload_n 1, 1) := by decide +kernel
theorem dX12_fitsName_5 : decode cX12_fitsName 5 = .ok (.iaload, 1) := by decide +kernel
theorem dX12_fitsName_6 : decode cX12_fitsName 6 = .ok (.aload_n 0, 1) := by decide +kernel
theorem dX12_fitsName_7 : decode cX12_fitsName 7 = .ok (.getfield 29, 3) := by decide +kernel
theorem dX12_fitsName_10 : decode cX12_fitsName 10 = .ok (.iload_n 2, 1) := by decide +kernel
theorem dX12_fitsName_11 : decode cX12_fitsName 11 = .ok (.iaload, 1) := by decide +kernel
theorem dX12_fitsName_12 : decode cX12_fitsName 12 = .ok (.if_icmp .eq 5, 3) := by decide +kernel
theorem dX12_fitsName_15 : decode cX12_fitsName 15 = .ok (.iconst 0, 1) := by decide +kernel
theorem dX12_fitsName_16 : decode cX12_fitsName 16 = .ok (.ireturn, 1) := by decide +kernel
theorem dX12_fitsName_17 : decode cX12_fitsName 17 = .ok (.iconst 0, 1) := by decide +kernel
theorem dX12_fitsName_18 : decode cX12_fitsName 18 = .ok (.istore_n 3, 1) := by decide +kernel
theorem dX12_fitsName_19 : decode cX12_fitsName 19 = .ok (.iload_n 3, 1) := by decide +kernel
theorem dX12_fitsName_20 : decode cX12_fitsName 20 = .ok (.aload_n 0, 1) := by decide +kernel
theorem dX12_fitsName_21 : decode cX12_fitsName 21 = .ok (.getfield 29, 3) := by decide +kernel
theorem dX12_fitsName_24 : decode cX12_fitsName 24 = .ok (.iload_n 2, 1) := by decide +kernel
theorem dX12_fitsName_25 : decode cX12_fitsName 25 = .ok (.iaload, 1) := by decide +kernel
theorem dX12_fitsName_26 : decode cX12_fitsName 26 = .ok (.if_icmp .ge 139, 3) := by decide +kernel
theorem dX12_fitsName_29 : decode cX12_fitsName 29 = .ok (.aload_n 0, 1) := by decide +kernel
theorem dX12_fitsName_30 : decode cX12_fitsName 30 = .ok (.getfield 32, 3) := by decide +kernel
theorem dX12_fitsName_33 : decode cX12_fitsName 33 = .ok (.bipush 7, 2) := by decide +kernel
theorem dX12_fitsName_35 : decode cX12_fitsName 35 = .ok (.iload_n 2, 1) := by decide +kernel
theorem dX12_fitsName_36 : decode cX12_fitsName 36 = .ok (.imul, 1) := by decide +kernel
theorem dX12_fitsName_37 : decode cX12_fitsName 37 = .ok (.iload_n 3, 1) := by decide +kernel
theorem dX12_fitsName_38 : decode cX12_fitsName 38 = .ok (.iadd, 1) := by decide +kernel
theorem dX12_fitsName_39 : decode cX12_fitsName 39 = .ok (.iaload, 1) := by decide +kernel
theorem dX12_fitsName_40 : decode cX12_fitsName 40 = .ok (.istore 4, 2) := by decide +kernel
theorem dX12_fitsName_42 : decode cX12_fitsName 42 = .ok (.iconst 0, 1) := by decide +kernel
theorem dX12_fitsName_43 : decode cX12_fitsName 43 = .ok (.istore 5, 2) := by decide +kernel
theorem dX12_fitsName_45 : decode cX12_fitsName 45 = .ok (.iload 5, 2) := by decide +kernel
theorem dX12_fitsName_47 : decode cX12_fitsName 47 = .ok (.iconst 2, 1) := by decide +kernel
theorem dX12_fitsName_48 : decode cX12_fitsName 48 = .ok (.if_icmp .ge 48, 3) := by decide +kernel
theorem dX12_fitsName_51 : decode cX12_fitsName 51 = .ok (.aload_n 0, 1) := by decide +kernel
theorem dX12_fitsName_52 : decode cX12_fitsName 52 = .ok (.getfield 84, 3) := by decide +kernel
theorem dX12_fitsName_55 : decode cX12_fitsName 55 = .ok (.bipush 20, 2) := by decide +kernel
theorem dX12_fitsName_57 : decode cX12_fitsName 57 = .ok (.iload 5, 2) := by decide +kernel
theorem dX12_fitsName_59 : decode cX12_fitsName 59 = .ok (.imul, 1) := by decide +kernel
theorem dX12_fitsName_60 : decode cX12_fitsName 60 = .ok (.aload_n 0, 1) := by decide +kernel
theorem dX12_fitsName_61 : decode cX12_fitsName 61 = .ok (.iload_n 1, 1) := by decide +kernel
theorem dX12_fitsName_62 : decode cX12_fitsName 62 = .ok (.iload_n 3, 1) := by decide +kernel
theorem dX12_fitsName_63 : decode cX12_fitsName 63 = .ok (.invokevirtual 374, 3) := by decide +kernel
theorem dX12_fitsName_66 : decode cX12_fitsName 66 = .ok (.iadd, 1) := by decide +kernel
theorem dX12_fitsName_67 : decode cX12_fitsName 67 = .ok (.iaload, 1) := by decide +kernel
theorem dX12_fitsName_68 : decode cX12_fitsName 68 = .ok (.istore 6, 2) := by decide +kernel
theorem dX12_fitsName_70 : decode cX12_fitsName 70 = .ok (.iload 6, 2) := by decide +kernel
theorem dX12_fitsName_72 : decode cX12_fitsName 72 = .ok (.iconst (-1), 1) := by decide +kernel
theorem dX12_fitsName_73 : decode cX12_fitsName 73 = .ok (.if_icmp .eq 17, 3) := by decide +kernel
theorem dX12_fitsName_76 : decode cX12_fitsName 76 = .ok (.iload 6, 2) := by decide +kernel
theorem dX12_fitsName_78 : decode cX12_fitsName 78 = .ok (.iload 4, 2) := by decide +kernel
theorem dX12_fitsName_80 : decode cX12_fitsName 80 = .ok (.iload 5, 2) := by decide +kernel
theorem dX12_fitsName_82 : decode cX12_fitsName 82 = .ok (.invokestatic 365, 3) := by decide +kernel
theorem dX12_fitsName_85 : decode cX12_fitsName 85 = .ok (.if_icmp .eq 5, 3) := by decide +kernel
theorem dX12_fitsName_88 : decode cX12_fitsName 88 = .ok (.iconst 0, 1) := by decide +kernel
theorem dX12_fitsName_89 : decode cX12_fitsName 89 = .ok (.ireturn, 1) := by decide +kernel
theorem dX12_fitsName_90 : decode cX12_fitsName 90 = .ok (.iinc 5 1, 3) := by decide +kernel
theorem dX12_fitsName_93 : decode cX12_fitsName 93 = .ok (.goto (-48), 3) := by decide +kernel
theorem dX12_fitsName_96 : decode cX12_fitsName 96 = .ok (.iconst 0, 1) := by decide +kernel
theorem dX12_fitsName_97 : decode cX12_fitsName 97 = .ok (.istore 5, 2) := by decide +kernel
theorem dX12_fitsName_99 : decode cX12_fitsName 99 = .ok (.iload 5, 2) := by decide +kernel
theorem dX12_fitsName_101 : decode cX12_fitsName 101 = .ok (.iload_n 3, 1) := by decide +kernel
theorem dX12_fitsName_102 : decode cX12_fitsName 102 = .ok (.if_icmp .ge 57, 3) := by decide +kernel
theorem dX12_fitsName_105 : decode cX12_fitsName 105 = .ok (.aload_n 0, 1) := by decide +kernel
theorem dX12_fitsName_106 : decode cX12_fitsName 106 = .ok (.iload_n 1, 1) := by decide +kernel
theorem dX12_fitsName_107 : decode cX12_fitsName 107 = .ok (.iload 5, 2) := by decide +kernel
theorem dX12_fitsName_109 : decode cX12_fitsName 109 = .ok (.invokevirtual 374, 3) := by decide +kernel
theorem dX12_fitsName_112 : decode cX12_fitsName 112 = .ok (.aload_n 0, 1) := by decide +kernel
theorem dX12_fitsName_113 : decode cX12_fitsName 113 = .ok (.iload_n 1, 1) := by decide +kernel
theorem dX12_fitsName_114 : decode cX12_fitsName 114 = .ok (.iload_n 3, 1) := by decide +kernel
theorem dX12_fitsName_115 : decode cX12_fitsName 115 = .ok (.invokevirtual 374, 3) := by decide +kernel
theorem dX12_fitsName_118 : decode cX12_fitsName 118 = .ok (.if_icmp .ne 7, 3) := by decide +kernel
theorem dX12_fitsName_121 : decode cX12_fitsName 121 = .ok (.iconst 1, 1) := by decide +kernel
theorem dX12_fitsName_122 : decode cX12_fitsName 122 = .ok (.goto 4, 3) := by decide +kernel
theorem dX12_fitsName_125 : decode cX12_fitsName 125 = .ok (.iconst 0, 1) := by decide +kernel
theorem dX12_fitsName_126 : decode cX12_fitsName 126 = .ok (.aload_n 0, 1) := by decide +kernel
theorem dX12_fitsName_127 : decode cX12_fitsName 127 = .ok (.getfield 32, 3) := by decide +kernel
theorem dX12_fitsName_130 : decode cX12_fitsName 130 = .ok (.bipush 7, 2) := by decide +kernel
theorem dX12_fitsName_132 : decode cX12_fitsName 132 = .ok (.iload_n 2, 1) := by decide +kernel
theorem dX12_fitsName_133 : decode cX12_fitsName 133 = .ok (.imul, 1) := by decide +kernel
theorem dX12_fitsName_134 : decode cX12_fitsName 134 = .ok (.iload 5, 2) := by decide +kernel
theorem dX12_fitsName_136 : decode cX12_fitsName 136 = .ok (.iadd, 1) := by decide +kernel
theorem dX12_fitsName_137 : decode cX12_fitsName 137 = .ok (.iaload, 1) := by decide +kernel
theorem dX12_fitsName_138 : decode cX12_fitsName 138 = .ok (.iload 4, 2) := by decide +kernel
theorem dX12_fitsName_140 : decode cX12_fitsName 140 = .ok (.if_icmp .ne 7, 3) := by decide +kernel
theorem dX12_fitsName_143 : decode cX12_fitsName 143 = .ok (.iconst 1, 1) := by decide +kernel
theorem dX12_fitsName_144 : decode cX12_fitsName 144 = .ok (.goto 4, 3) := by decide +kernel
theorem dX12_fitsName_147 : decode cX12_fitsName 147 = .ok (.iconst 0, 1) := by decide +kernel
theorem dX12_fitsName_148 : decode cX12_fitsName 148 = .ok (.if_icmp .eq 5, 3) := by decide +kernel
theorem dX12_fitsName_151 : decode cX12_fitsName 151 = .ok (.iconst 0, 1) := by decide +kernel
theorem dX12_fitsName_152 : decode cX12_fitsName 152 = .ok (.ireturn, 1) := by decide +kernel
theorem dX12_fitsName_153 : decode cX12_fitsName 153 = .ok (.iinc 5 1, 3) := by decide +kernel
theorem dX12_fitsName_156 : decode cX12_fitsName 156 = .ok (.goto (-57), 3) := by decide +kernel
theorem dX12_fitsName_159 : decode cX12_fitsName 159 = .ok (.iinc 3 1, 3) := by decide +kernel
theorem dX12_fitsName_162 : decode cX12_fitsName 162 = .ok (.goto (-143), 3) := by decide +kernel
theorem dX12_fitsName_165 : decode cX12_fitsName 165 = .ok (.iconst 1, 1) := by decide +kernel
theorem dX12_fitsName_166 : decode cX12_fitsName 166 = .ok (.ireturn, 1) := by decide +kernel
noncomputable def f_X12_fitsName_L45 (M : ZMem) (x1 : Int32) (x2 : Int32) (x3 : Int32) (x4 : Int32) (s : (Int32)) : Option ((Int32) ⊕ ((Unit) ⊕ Int32)) := if (zI 2) ≤ s then some (.inr (.inl ())) else zbind (f_X12_wordSign M x1 x3) (fun r_63 => zchk (zin (((zI 20) * s) + r_63) 40) (zbnd (M.1 25 (zix (((zI 20) * s) + r_63))) (fun x6_68 => if x6_68 = (zI (-1)) then zbnd (s + (zI 1)) (fun x5_90 => some (.inl x5_90)) else zbind (f_X12_partOf M x4 s) (fun r_82 => if x6_68 = r_82 then zbnd (s + (zI 1)) (fun x5_90 => some (.inl x5_90)) else some (.inr (.inr (zI 0)))))))
set_option maxRecDepth 100000 in
set_option maxHeartbeats 4000000 in
theorem w_X12_fitsName_L45 {E : ZEv} {G : ZG} {K : Int32 → Prop} (M : ZMem) (h : zRu lyR E G (zRp M K) cX12_fitsName RX12 7 (some .boolean) 1) (x1 : Int32) (x2 : Int32) (x3 : Int32) (x4 : Int32) (s : (Int32)) (hk : zOk (zloop (f_X12_fitsName_L45 M x1 x2 x3 x4) s) (fun e => zsel e (fun e0 => G M 96 [(0, zrf E 0), (1, .int x1), (2, .int x2), (3, .int x3), (4, .int x4)] []) (fun f0 => K f0))) : G M 45 [(0, zrf E 0), (1, .int x1), (2, .int x2), (3, .int x3), (4, .int x4), (5, .int s)] [] := by
  refine zloop_walk (P := fun s => G M 45 [(0, zrf E 0), (1, .int x1), (2, .int x2), (3, .int x3), (4, .int x4), (5, .int s)] []) hk (fun s hk => ?_)
  unfold f_X12_fitsName_L45 at hk
  refine zr_iload h dX12_fitsName_45 5 rfl ?_
  refine zr_iconst (v := (zI 2)) h dX12_fitsName_47 rfl ?_
  refine zr_icmp_ge (tgt := 96) h dX12_fitsName_48 (by decide) (fun c => ?_) (fun c => ?_)
  · have hk := zOk_t c hk
    have hk := zOk_some hk
    exact zr_weak h [0, 1, 2, 3, 4] rfl hk
  · have hk := zOk_f c hk
    refine zr_aload_n h dX12_fitsName_51 0 rfl rfl ?_
    refine zr_getR h zfo_X12_84 lR_0 rfl dX12_fitsName_52 ?_
    refine zr_bipush (v := (zI 20)) h dX12_fitsName_55 (by decide) ?_
    refine zr_iload h dX12_fitsName_57 5 rfl ?_
    refine zr_imul h dX12_fitsName_59 ?_
    refine zr_aload_n h dX12_fitsName_60 0 rfl rfl ?_
    refine zr_iload_n h dX12_fitsName_61 1 rfl rfl ?_
    refine zr_iload_n h dX12_fitsName_62 3 rfl rfl ?_
    refine zr_callVp h lR_0 zcw_X12_374 (by decide) (c_X12_wordSign E M x1 x3 _ (zOk_bind hk)) rfl rfl (Nat.le_of_ble_eq_true rfl) dX12_fitsName_63 (fun r_63 hk => ?_)
    refine zr_iadd h dX12_fitsName_66 ?_
    have hb := zOk_chk hk
    have hk := hb.2
    refine zr_iald h lR_25 hb.1 dX12_fitsName_67 ?_
    refine zr_topi (fun x6_68 ex => ?_)
    have hk := zOk_bnd ex hk
    refine zr_istore (L' := [(0, zrf E 0), (1, .int x1), (2, .int x2), (3, .int x3), (4, .int x4), (5, .int s), (6, .int x6_68)]) h [1, 2, 3, 4, 5, 6, 0] dX12_fitsName_68 (by decide) rfl ?_
    refine zr_iload h dX12_fitsName_70 6 rfl ?_
    refine zr_iconst (v := (zI (-1))) h dX12_fitsName_72 rfl ?_
    refine zr_icmp_eq (tgt := 90) h dX12_fitsName_73 (by decide) (fun c => ?_) (fun c => ?_)
    · have hk := zOk_t c hk
      obtain ⟨x5_90, ex⟩ : ∃ y : Int32, y = s + (zI 1) := ⟨_, rfl⟩
      have hk := zOk_bnd ex hk
      refine zr_iinc (v := x5_90) (L' := [(0, zrf E 0), (1, .int x1), (2, .int x2), (3, .int x3), (4, .int x4), (5, .int x5_90)]) h 5 [1, 2, 3, 4, 5, 0] dX12_fitsName_90 rfl (by rw [ex]; rfl) (by decide) rfl ?_
      refine zr_goto (tgt := 45) h dX12_fitsName_93 (by decide) ?_
      have hk := zOk_some hk
      exact zr_weak h [0, 1, 2, 3, 4, 5] rfl hk
    · have hk := zOk_f c hk
      refine zr_iload h dX12_fitsName_76 6 rfl ?_
      refine zr_iload h dX12_fitsName_78 4 rfl ?_
      refine zr_iload h dX12_fitsName_80 5 rfl ?_
      refine zr_callSp h zcw_X12_365 (by decide) (c_X12_partOf E M x4 s _ (zOk_bind hk)) rfl rfl (Nat.le_of_ble_eq_true rfl) dX12_fitsName_82 (fun r_82 hk => ?_)
      refine zr_icmp_eq (tgt := 90) h dX12_fitsName_85 (by decide) (fun c => ?_) (fun c => ?_)
      · have hk := zOk_t c hk
        obtain ⟨x5_90, ex⟩ : ∃ y : Int32, y = s + (zI 1) := ⟨_, rfl⟩
        have hk := zOk_bnd ex hk
        refine zr_iinc (v := x5_90) (L' := [(0, zrf E 0), (1, .int x1), (2, .int x2), (3, .int x3), (4, .int x4), (5, .int x5_90)]) h 5 [1, 2, 3, 4, 5, 0] dX12_fitsName_90 rfl (by rw [ex]; rfl) (by decide) rfl ?_
        refine zr_goto (tgt := 45) h dX12_fitsName_93 (by decide) ?_
        have hk := zOk_some hk
        exact zr_weak h [0, 1, 2, 3, 4, 5] rfl hk
      · have hk := zOk_f c hk
        refine zr_iconst (v := (zI 0)) h dX12_fitsName_88 rfl ?_
        have hk := zOk_some hk
        exact zr_zret h dX12_fitsName_89 (by decide) ⟨rfl, _, rfl, hk⟩
noncomputable def f_X12_fitsName_148_L99 (M : ZMem) (x1 : Int32) (x2 : Int32) (x3 : Int32) (x4 : Int32) (x5 : Int32) (v0 : Int32) (v1 : Int32) : Option ((Int32) ⊕ ((Unit) ⊕ Int32)) := if v0 = v1 then zbnd (x5 + (zI 1)) (fun x5_153 => some (.inl x5_153)) else some (.inr (.inr (zI 0)))
set_option maxRecDepth 100000 in
set_option maxHeartbeats 4000000 in
theorem w_X12_fitsName_148_L99 {E : ZEv} {G : ZG} {K : Int32 → Prop} (M : ZMem) (h : zRu lyR E G (zRp M K) cX12_fitsName RX12 7 (some .boolean) 1) (x1 : Int32) (x2 : Int32) (x3 : Int32) (x4 : Int32) (x5 : Int32) (v0 : Int32) (v1 : Int32) (hk : zOk (f_X12_fitsName_148_L99 M x1 x2 x3 x4 x5 v0 v1) (zlp (fun s => G M 99 [(0, zrf E 0), (1, .int x1), (2, .int x2), (3, .int x3), (4, .int x4), (5, .int s)] []) (fun e => zsel e (fun e0 => G M 159 [(0, zrf E 0), (1, .int x1), (2, .int x2), (3, .int x3)] []) (fun f0 => K f0)))) : G M 148 [(0, zrf E 0), (1, .int x1), (2, .int x2), (3, .int x3), (4, .int x4), (5, .int x5)] [.int v1, .int v0] := by
  unfold f_X12_fitsName_148_L99 at hk
  refine zr_icmp_eq (tgt := 153) h dX12_fitsName_148 (by decide) (fun c => ?_) (fun c => ?_)
  · have hk := zOk_t c hk
    obtain ⟨x5_153, ex⟩ : ∃ y : Int32, y = x5 + (zI 1) := ⟨_, rfl⟩
    have hk := zOk_bnd ex hk
    refine zr_iinc (v := x5_153) (L' := [(0, zrf E 0), (1, .int x1), (2, .int x2), (3, .int x3), (4, .int x4), (5, .int x5_153)]) h 5 [1, 2, 3, 4, 5, 0] dX12_fitsName_153 rfl (by rw [ex]; rfl) (by decide) rfl ?_
    refine zr_goto (tgt := 99) h dX12_fitsName_156 (by decide) ?_
    have hk := zOk_some hk
    exact zr_weak h [0, 1, 2, 3, 4, 5] rfl hk
  · have hk := zOk_f c hk
    refine zr_iconst (v := (zI 0)) h dX12_fitsName_151 rfl ?_
    have hk := zOk_some hk
    exact zr_zret h dX12_fitsName_152 (by decide) ⟨rfl, _, rfl, hk⟩
noncomputable def f_X12_fitsName_126_L99 (M : ZMem) (x1 : Int32) (x2 : Int32) (x3 : Int32) (x4 : Int32) (x5 : Int32) (v0 : Int32) : Option ((Int32) ⊕ ((Unit) ⊕ Int32)) := zchk (zin (((zI 7) * x2) + x5) 35) (if (M.1 8 (zix (((zI 7) * x2) + x5))) = x4 then f_X12_fitsName_148_L99 M x1 x2 x3 x4 x5 v0 (zI 1) else f_X12_fitsName_148_L99 M x1 x2 x3 x4 x5 v0 (zI 0))
set_option maxRecDepth 100000 in
set_option maxHeartbeats 4000000 in
theorem w_X12_fitsName_126_L99 {E : ZEv} {G : ZG} {K : Int32 → Prop} (M : ZMem) (h : zRu lyR E G (zRp M K) cX12_fitsName RX12 7 (some .boolean) 1) (x1 : Int32) (x2 : Int32) (x3 : Int32) (x4 : Int32) (x5 : Int32) (v0 : Int32) (hk : zOk (f_X12_fitsName_126_L99 M x1 x2 x3 x4 x5 v0) (zlp (fun s => G M 99 [(0, zrf E 0), (1, .int x1), (2, .int x2), (3, .int x3), (4, .int x4), (5, .int s)] []) (fun e => zsel e (fun e0 => G M 159 [(0, zrf E 0), (1, .int x1), (2, .int x2), (3, .int x3)] []) (fun f0 => K f0)))) : G M 126 [(0, zrf E 0), (1, .int x1), (2, .int x2), (3, .int x3), (4, .int x4), (5, .int x5)] [.int v0] := by
  unfold f_X12_fitsName_126_L99 at hk
  refine zr_aload_n h dX12_fitsName_126 0 rfl rfl ?_
  refine zr_getR h zfo_X12_32 lR_0 rfl dX12_fitsName_127 ?_
  refine zr_bipush (v := (zI 7)) h dX12_fitsName_130 (by decide) ?_
  refine zr_iload_n h dX12_fitsName_132 2 rfl rfl ?_
  refine zr_imul h dX12_fitsName_133 ?_
  refine zr_iload h dX12_fitsName_134 5 rfl ?_
  refine zr_iadd h dX12_fitsName_136 ?_
  have hb := zOk_chk hk
  have hk := hb.2
  refine zr_iald h lR_8 hb.1 dX12_fitsName_137 ?_
  refine zr_iload h dX12_fitsName_138 4 rfl ?_
  refine zr_icmp_ne (tgt := 147) h dX12_fitsName_140 (by decide) (fun c => ?_) (fun c => ?_)
  · have hk := zOk_t c hk
    refine zr_iconst (v := (zI 1)) h dX12_fitsName_143 rfl ?_
    refine zr_goto (tgt := 148) h dX12_fitsName_144 (by decide) ?_
    exact w_X12_fitsName_148_L99 M h x1 x2 x3 x4 x5 v0 (zI 1) hk
  · have hk := zOk_f c hk
    refine zr_iconst (v := (zI 0)) h dX12_fitsName_147 rfl ?_
    exact w_X12_fitsName_148_L99 M h x1 x2 x3 x4 x5 v0 (zI 0) hk
noncomputable def f_X12_fitsName_L99 (M : ZMem) (x1 : Int32) (x2 : Int32) (x3 : Int32) (x4 : Int32) (s : (Int32)) : Option ((Int32) ⊕ ((Unit) ⊕ Int32)) := if x3 ≤ s then some (.inr (.inl ())) else zbind (f_X12_wordSign M x1 s) (fun r_109 => zbind (f_X12_wordSign M x1 x3) (fun r_115 => if r_109 = r_115 then f_X12_fitsName_126_L99 M x1 x2 x3 x4 s (zI 1) else f_X12_fitsName_126_L99 M x1 x2 x3 x4 s (zI 0)))
set_option maxRecDepth 100000 in
set_option maxHeartbeats 4000000 in
theorem w_X12_fitsName_L99 {E : ZEv} {G : ZG} {K : Int32 → Prop} (M : ZMem) (h : zRu lyR E G (zRp M K) cX12_fitsName RX12 7 (some .boolean) 1) (x1 : Int32) (x2 : Int32) (x3 : Int32) (x4 : Int32) (s : (Int32)) (hk : zOk (zloop (f_X12_fitsName_L99 M x1 x2 x3 x4) s) (fun e => zsel e (fun e0 => G M 159 [(0, zrf E 0), (1, .int x1), (2, .int x2), (3, .int x3)] []) (fun f0 => K f0))) : G M 99 [(0, zrf E 0), (1, .int x1), (2, .int x2), (3, .int x3), (4, .int x4), (5, .int s)] [] := by
  refine zloop_walk (P := fun s => G M 99 [(0, zrf E 0), (1, .int x1), (2, .int x2), (3, .int x3), (4, .int x4), (5, .int s)] []) hk (fun s hk => ?_)
  unfold f_X12_fitsName_L99 at hk
  refine zr_iload h dX12_fitsName_99 5 rfl ?_
  refine zr_iload_n h dX12_fitsName_101 3 rfl rfl ?_
  refine zr_icmp_ge (tgt := 159) h dX12_fitsName_102 (by decide) (fun c => ?_) (fun c => ?_)
  · have hk := zOk_t c hk
    have hk := zOk_some hk
    exact zr_weak h [0, 1, 2, 3] rfl hk
  · have hk := zOk_f c hk
    refine zr_aload_n h dX12_fitsName_105 0 rfl rfl ?_
    refine zr_iload_n h dX12_fitsName_106 1 rfl rfl ?_
    refine zr_iload h dX12_fitsName_107 5 rfl ?_
    refine zr_callVp h lR_0 zcw_X12_374 (by decide) (c_X12_wordSign E M x1 s _ (zOk_bind hk)) rfl rfl (Nat.le_of_ble_eq_true rfl) dX12_fitsName_109 (fun r_109 hk => ?_)
    refine zr_aload_n h dX12_fitsName_112 0 rfl rfl ?_
    refine zr_iload_n h dX12_fitsName_113 1 rfl rfl ?_
    refine zr_iload_n h dX12_fitsName_114 3 rfl rfl ?_
    refine zr_callVp h lR_0 zcw_X12_374 (by decide) (c_X12_wordSign E M x1 x3 _ (zOk_bind hk)) rfl rfl (Nat.le_of_ble_eq_true rfl) dX12_fitsName_115 (fun r_115 hk => ?_)
    refine zr_icmp_ne (tgt := 125) h dX12_fitsName_118 (by decide) (fun c => ?_) (fun c => ?_)
    · have hk := zOk_t c hk
      refine zr_iconst (v := (zI 1)) h dX12_fitsName_121 rfl ?_
      refine zr_goto (tgt := 126) h dX12_fitsName_122 (by decide) ?_
      exact w_X12_fitsName_126_L99 M h x1 x2 x3 x4 s (zI 1) hk
    · have hk := zOk_f c hk
      refine zr_iconst (v := (zI 0)) h dX12_fitsName_125 rfl ?_
      exact w_X12_fitsName_126_L99 M h x1 x2 x3 x4 s (zI 0) hk
noncomputable def f_X12_fitsName_L19 (M : ZMem) (x1 : Int32) (x2 : Int32) (s : (Int32)) : Option ((Int32) ⊕ ((Unit) ⊕ Int32)) := zchk (zin x2 5) (if (M.1 7 (zix x2)) ≤ s then some (.inr (.inl ())) else zchk (zin (((zI 7) * x2) + s) 35) (zbnd (M.1 8 (zix (((zI 7) * x2) + s))) (fun x4_40 => zbind (zloop (f_X12_fitsName_L45 M x1 x2 s x4_40) (zI 0)) (fun e45 => zsel e45 (fun e45a => zbind (zloop (f_X12_fitsName_L99 M x1 x2 s x4_40) (zI 0)) (fun e99 => zsel e99 (fun e99a => zbnd (s + (zI 1)) (fun x3_159 => some (.inl x3_159))) (fun e99b => some (.inr (.inr e99b))))) (fun e45b => some (.inr (.inr e45b)))))))
set_option maxRecDepth 100000 in
set_option maxHeartbeats 4000000 in
theorem w_X12_fitsName_L19 {E : ZEv} {G : ZG} {K : Int32 → Prop} (M : ZMem) (h : zRu lyR E G (zRp M K) cX12_fitsName RX12 7 (some .boolean) 1) (x1 : Int32) (x2 : Int32) (s : (Int32)) (hk : zOk (zloop (f_X12_fitsName_L19 M x1 x2) s) (fun e => zsel e (fun e0 => G M 165 [] []) (fun f0 => K f0))) : G M 19 [(0, zrf E 0), (1, .int x1), (2, .int x2), (3, .int s)] [] := by
  refine zloop_walk (P := fun s => G M 19 [(0, zrf E 0), (1, .int x1), (2, .int x2), (3, .int s)] []) hk (fun s hk => ?_)
  unfold f_X12_fitsName_L19 at hk
  refine zr_iload_n h dX12_fitsName_19 3 rfl rfl ?_
  refine zr_aload_n h dX12_fitsName_20 0 rfl rfl ?_
  refine zr_getR h zfo_X12_29 lR_0 rfl dX12_fitsName_21 ?_
  refine zr_iload_n h dX12_fitsName_24 2 rfl rfl ?_
  have hb := zOk_chk hk
  have hk := hb.2
  refine zr_iald h lR_7 hb.1 dX12_fitsName_25 ?_
  refine zr_icmp_ge (tgt := 165) h dX12_fitsName_26 (by decide) (fun c => ?_) (fun c => ?_)
  · have hk := zOk_t c hk
    have hk := zOk_some hk
    exact zr_weak h [] rfl hk
  · have hk := zOk_f c hk
    refine zr_aload_n h dX12_fitsName_29 0 rfl rfl ?_
    refine zr_getR h zfo_X12_32 lR_0 rfl dX12_fitsName_30 ?_
    refine zr_bipush (v := (zI 7)) h dX12_fitsName_33 (by decide) ?_
    refine zr_iload_n h dX12_fitsName_35 2 rfl rfl ?_
    refine zr_imul h dX12_fitsName_36 ?_
    refine zr_iload_n h dX12_fitsName_37 3 rfl rfl ?_
    refine zr_iadd h dX12_fitsName_38 ?_
    have hb := zOk_chk hk
    have hk := hb.2
    refine zr_iald h lR_8 hb.1 dX12_fitsName_39 ?_
    refine zr_topi (fun x4_40 ex => ?_)
    have hk := zOk_bnd ex hk
    refine zr_istore (L' := [(0, zrf E 0), (1, .int x1), (2, .int x2), (3, .int s), (4, .int x4_40)]) h [1, 2, 3, 4, 0] dX12_fitsName_40 (by decide) rfl ?_
    refine zr_iconst (v := (zI 0)) h dX12_fitsName_42 rfl ?_
    refine zr_istore (L' := [(0, zrf E 0), (1, .int x1), (2, .int x2), (3, .int s), (4, .int x4_40), (5, .int (zI 0))]) h [1, 2, 3, 4, 5, 0] dX12_fitsName_43 (by decide) rfl ?_
    refine w_X12_fitsName_L45 M h x1 x2 s x4_40 (zI 0) (zOk_mono (zOk_bind hk) (fun e45 hk => ?_))
    cases e45 with
    | inl e45a =>
      have hk := zOk_selL hk
      refine zr_iconst (v := (zI 0)) h dX12_fitsName_96 rfl ?_
      refine zr_istore (L' := [(0, zrf E 0), (1, .int x1), (2, .int x2), (3, .int s), (4, .int x4_40), (5, .int (zI 0))]) h [1, 2, 3, 4, 5, 0] dX12_fitsName_97 (by decide) rfl ?_
      refine w_X12_fitsName_L99 M h x1 x2 s x4_40 (zI 0) (zOk_mono (zOk_bind hk) (fun e99 hk => ?_))
      cases e99 with
      | inl e99a =>
        have hk := zOk_selL hk
        obtain ⟨x3_159, ex⟩ : ∃ y : Int32, y = s + (zI 1) := ⟨_, rfl⟩
        have hk := zOk_bnd ex hk
        refine zr_iinc (v := x3_159) (L' := [(0, zrf E 0), (1, .int x1), (2, .int x2), (3, .int x3_159)]) h 3 [1, 2, 3, 0] dX12_fitsName_159 rfl (by rw [ex]; rfl) (by decide) rfl ?_
        refine zr_goto (tgt := 19) h dX12_fitsName_162 (by decide) ?_
        have hk := zOk_some hk
        exact zr_weak h [0, 1, 2, 3] rfl hk
      | inr e99b =>
        have hk := zOk_selR hk
        have hk := zOk_some hk
        exact hk
    | inr e45b =>
      have hk := zOk_selR hk
      have hk := zOk_some hk
      exact hk
noncomputable def f_X12_fitsName (M : ZMem) (x1 : Int32) (x2 : Int32) : Option Int32 := zchk (zin x1 241) (zchk (zin x2 5) (if (M.1 16 (zix x1)) = (M.1 7 (zix x2)) then zbind (zloop (f_X12_fitsName_L19 M x1 x2) (zI 0)) (fun e19 => zsel e19 (fun e19a => some (zI 1)) (fun e19b => some e19b)) else some (zI 0)))
set_option maxRecDepth 100000 in
set_option maxHeartbeats 4000000 in
theorem c_X12_fitsName (E : ZEv) (M : ZMem) (x1 : Int32) (x2 : Int32) (K : Int32 → Prop) (hk : zOk (f_X12_fitsName M x1 x2) K) : zCon lyR E yX12_fitsName cX12_fitsName 7 (some .boolean) 1 [zrf E 0, .int x1, .int x2] M (zRp M K) := by
  refine zcon_of (L0 := [(0, zrf E 0), (1, .int x1), (2, .int x2)]) (by decide) rfl (Nat.le_of_ble_eq_true rfl) (fun G h => ?_)
  have h : zRu lyR E G (zRp M K) cX12_fitsName RX12 7 (some .boolean) 1 := h
  unfold f_X12_fitsName at hk
  refine zr_aload_n h dX12_fitsName_0 0 rfl rfl ?_
  refine zr_getR h zfo_X12_56 lR_0 rfl dX12_fitsName_1 ?_
  refine zr_iload_n h dX12_fitsName_4 1 rfl rfl ?_
  have hb := zOk_chk hk
  have hk := hb.2
  refine zr_iald h lR_16 hb.1 dX12_fitsName_5 ?_
  refine zr_aload_n h dX12_fitsName_6 0 rfl rfl ?_
  refine zr_getR h zfo_X12_29 lR_0 rfl dX12_fitsName_7 ?_
  refine zr_iload_n h dX12_fitsName_10 2 rfl rfl ?_
  have hb := zOk_chk hk
  have hk := hb.2
  refine zr_iald h lR_7 hb.1 dX12_fitsName_11 ?_
  refine zr_icmp_eq (tgt := 17) h dX12_fitsName_12 (by decide) (fun c => ?_) (fun c => ?_)
  · have hk := zOk_t c hk
    refine zr_iconst (v := (zI 0)) h dX12_fitsName_17 rfl ?_
    refine zr_istore_n (L' := [(0, zrf E 0), (1, .int x1), (2, .int x2), (3, .int (zI 0))]) h [1, 2, 3, 0] dX12_fitsName_18 rfl (by decide) rfl ?_
    refine w_X12_fitsName_L19 M h x1 x2 (zI 0) (zOk_mono (zOk_bind hk) (fun e19 hk => ?_))
    cases e19 with
    | inl e19a =>
      have hk := zOk_selL hk
      refine zr_iconst (v := (zI 1)) h dX12_fitsName_165 rfl ?_
      have hk := zOk_some hk
      exact zr_zret h dX12_fitsName_166 (by decide) ⟨rfl, _, rfl, hk⟩
    | inr e19b =>
      have hk := zOk_selR hk
      have hk := zOk_some hk
      exact hk
  · have hk := zOk_f c hk
    refine zr_iconst (v := (zI 0)) h dX12_fitsName_15 rfl ?_
    have hk := zOk_some hk
    exact zr_zret h dX12_fitsName_16 (by decide) ⟨rfl, _, rfl, hk⟩
theorem dX12_fits_0 : decode cX12_fits 0 = .ok (.iload_n 1, 1) := by decide +kernel
theorem dX12_fits_1 : decode cX12_fits 1 = .ok (.iconst 0, 1) := by decide +kernel
theorem dX12_fits_2 : decode cX12_fits 2 = .ok (.aload_n 0, 1) := by decide +kernel
theorem dX12_fits_3 : decode cX12_fits 3 = .ok (.getfield 203, 3) := by decide +kernel
theorem dX12_fits_6 : decode cX12_fits 6 = .ok (.iconst 1, 1) := by decide +kernel
theorem dX12_fits_7 : decode cX12_fits 7 = .ok (.isub, 1) := by decide +kernel
theorem dX12_fits_8 : decode cX12_fits 8 = .ok (.invokestatic 123, 3) := by decide +kernel
theorem dX12_fits_11 : decode cX12_fits 11 = .ok (.ifCond .eq 8, 3) := by decide +kernel
theorem dX12_fits_14 : decode cX12_fits 14 = .ok (.iload_n 2, 1) := by decide +kernel
theorem dX12_fits_15 : decode cX12_fits 15 = .ok (.iconst (-1), 1) := by decide +kernel
theorem dX12_fits_16 : decode cX12_fits 16 = .ok (.if_icmp .ge 5, 3) := by decide +kernel
theorem dX12_fits_19 : decode cX12_fits 19 = .ok (.iconst (-1), 1) := by decide +kernel
theorem dX12_fits_20 : decode cX12_fits 20 = .ok (.ireturn, 1) := by decide +kernel
theorem dX12_fits_21 : decode cX12_fits 21 = .ok (.aload_n 0, 1) := by decide +kernel
theorem dX12_fits_22 : decode cX12_fits 22 = .ok (.invokevirtual 235, 3) := by decide +kernel
theorem dX12_fits_25 : decode cX12_fits 25 = .ok (.iconst 0, 1) := by decide +kernel
theorem dX12_fits_26 : decode cX12_fits 26 = .ok (.istore_n 3, 1) := by decide +kernel
theorem dX12_fits_27 : decode cX12_fits 27 = .ok (.iconst 0, 1) := by decide +kernel
theorem dX12_fits_28 : decode cX12_fits 28 = .ok (.istore 4, 2) := by decide +kernel
theorem dX12_fits_30 : decode cX12_fits 30 = .ok (.iload 4, 2) := by decide +kernel
theorem dX12_fits_32 : decode cX12_fits 32 = .ok (.aload_n 0, 1) := by decide +kernel
theorem dX12_fits_33 : decode cX12_fits 33 = .ok (.getfield 302, 3) := by decide +kernel
theorem dX12_fits_36 : decode cX12_fits 36 = .ok (.if_icmp .ge 30, 3) := by decide +kernel
theorem dX12_fits_39 : decode cX12_fits 39 = .ok (.aload_n 0, 1) := by decide +kernel
theorem dX12_fits_40 : decode cX12_fits 40 = .ok (.iload 4, 2) := by decide +kernel
theorem dX12_fits_42 : decode cX12_fits 42 = .ok (.iload_n 1, 1) := by decide +kernel
theorem dX12_fits_43 : decode cX12_fits 43 = .ok (.invokevirtual 377, 3) := by decide +kernel
theorem dX12_fits_46 : decode cX12_fits 46 = .ok (.ifCond .eq 14, 3) := by decide +kernel
theorem dX12_fits_49 : decode cX12_fits 49 = .ok (.iload_n 3, 1) := by decide +kernel
theorem dX12_fits_50 : decode cX12_fits 50 = .ok (.iload_n 2, 1) := by decide +kernel
theorem dX12_fits_51 : decode cX12_fits 51 = .ok (.if_icmp .ne 6, 3) := by decide +kernel
theorem dX12_fits_54 : decode cX12_fits 54 = .ok (.iload 4, 2) := by decide +kernel
theorem dX12_fits_56 : decode cX12_fits 56 = .ok (.ireturn, 1) := by decide +kernel
theorem dX12_fits_57 : decode cX12_fits 57 = .ok (.iinc 3 1, 3) := by decide +kernel
theorem dX12_fits_60 : decode cX12_fits 60 = .ok (.iinc 4 1, 3) := by decide +kernel
theorem dX12_fits_63 : decode cX12_fits 63 = .ok (.goto (-33), 3) := by decide +kernel
theorem dX12_fits_66 : decode cX12_fits 66 = .ok (.iload_n 2, 1) := by decide +kernel
theorem dX12_fits_67 : decode cX12_fits 67 = .ok (.iconst (-1), 1) := by decide +kernel
theorem dX12_fits_68 : decode cX12_fits 68 = .ok (.if_icmp .ne 7, 3) := by decide +kernel
theorem dX12_fits_71 : decode cX12_fits 71 = .ok (.iload_n 3, 1) := by decide +kernel
theorem dX12_fits_72 : decode cX12_fits 72 = .ok (.goto 4, 3) := by decide +kernel
theorem dX12_fits_75 : decode cX12_fits 75 = .ok (.iconst (-1), 1) := by decide +kernel
theorem dX12_fits_76 : decode cX12_fits 76 = .ok (.ireturn, 1) := by decide +kernel
noncomputable def f_X12_fits_L30 (M : ZMem) (x1 : Int32) (x2 : Int32) (s : (Int32 × Int32)) : Option ((Int32 × Int32) ⊕ ((Int32) ⊕ (ZMem × Int32))) := if (M.1 0 25) ≤ s.2 then some (.inr (.inl s.1)) else zbind (f_X12_fitsName M s.2 x1) (fun r_43 => if r_43 = (zI 0) then zbnd (s.2 + (zI 1)) (fun x4_60 => some (.inl (s.1, x4_60))) else if s.1 = x2 then some (.inr (.inr (M, s.2))) else zbnd (s.1 + (zI 1)) (fun x3_57 => zbnd (s.2 + (zI 1)) (fun x4_60 => some (.inl (x3_57, x4_60)))))
set_option maxRecDepth 100000 in
set_option maxHeartbeats 4000000 in
theorem w_X12_fits_L30 {E : ZEv} {G : ZG} {K : (ZMem × Int32) → Prop} (h : zRu lyR E G (zRm K) cX12_fits RX12 5 (some .int) 6) (M : ZMem) (x1 : Int32) (x2 : Int32) (s : (Int32 × Int32)) (hk : zOk (zloop (f_X12_fits_L30 M x1 x2) s) (fun e => zsel e (fun e0 => G M 66 [(2, .int x2), (3, .int e0)] []) (fun f0 => K f0))) : G M 30 [(0, zrf E 0), (1, .int x1), (2, .int x2), (3, .int s.1), (4, .int s.2)] [] := by
  refine zloop_walk (P := fun s => G M 30 [(0, zrf E 0), (1, .int x1), (2, .int x2), (3, .int s.1), (4, .int s.2)] []) hk (fun s hk => ?_)
  unfold f_X12_fits_L30 at hk
  refine zr_iload h dX12_fits_30 4 rfl ?_
  refine zr_aload_n h dX12_fits_32 0 rfl rfl ?_
  refine zr_getI h zfo_X12_302 lR_0 rfl dX12_fits_33 ?_
  refine zr_icmp_ge (tgt := 66) h dX12_fits_36 (by decide) (fun c => ?_) (fun c => ?_)
  · have hk := zOk_t c hk
    have hk := zOk_some hk
    exact zr_weak h [2, 3] rfl hk
  · have hk := zOk_f c hk
    refine zr_aload_n h dX12_fits_39 0 rfl rfl ?_
    refine zr_iload h dX12_fits_40 4 rfl ?_
    refine zr_iload_n h dX12_fits_42 1 rfl rfl ?_
    refine zr_callVp h lR_0 zcw_X12_377 (by decide) (c_X12_fitsName E M s.2 x1 _ (zOk_bind hk)) rfl rfl (Nat.le_of_ble_eq_true rfl) dX12_fits_43 (fun r_43 hk => ?_)
    refine zr_if_eq (tgt := 60) h dX12_fits_46 (by decide) (fun c => ?_) (fun c => ?_)
    · have hk := zOk_t c hk
      obtain ⟨x4_60, ex⟩ : ∃ y : Int32, y = s.2 + (zI 1) := ⟨_, rfl⟩
      have hk := zOk_bnd ex hk
      refine zr_iinc (v := x4_60) (L' := [(0, zrf E 0), (1, .int x1), (2, .int x2), (3, .int s.1), (4, .int x4_60)]) h 4 [1, 2, 3, 4, 0] dX12_fits_60 rfl (by rw [ex]; rfl) (by decide) rfl ?_
      refine zr_goto (tgt := 30) h dX12_fits_63 (by decide) ?_
      have hk := zOk_some hk
      exact zr_weak h [0, 1, 2, 3, 4] rfl hk
    · have hk := zOk_f c hk
      refine zr_iload_n h dX12_fits_49 3 rfl rfl ?_
      refine zr_iload_n h dX12_fits_50 2 rfl rfl ?_
      refine zr_icmp_ne (tgt := 57) h dX12_fits_51 (by decide) (fun c => ?_) (fun c => ?_)
      · have hk := zOk_t c hk
        refine zr_iload h dX12_fits_54 4 rfl ?_
        have hk := zOk_some hk
        exact zr_iret h dX12_fits_56 ⟨_, rfl, hk⟩
      · have hk := zOk_f c hk
        obtain ⟨x3_57, ex⟩ : ∃ y : Int32, y = s.1 + (zI 1) := ⟨_, rfl⟩
        have hk := zOk_bnd ex hk
        refine zr_iinc (v := x3_57) (L' := [(0, zrf E 0), (1, .int x1), (2, .int x2), (3, .int x3_57), (4, .int s.2)]) h 3 [1, 2, 3, 0, 4] dX12_fits_57 rfl (by rw [ex]; rfl) (by decide) rfl ?_
        obtain ⟨x4_60, ex⟩ : ∃ y : Int32, y = s.2 + (zI 1) := ⟨_, rfl⟩
        have hk := zOk_bnd ex hk
        refine zr_iinc (v := x4_60) (L' := [(0, zrf E 0), (1, .int x1), (2, .int x2), (3, .int x3_57), (4, .int x4_60)]) h 4 [1, 2, 3, 4, 0] dX12_fits_60 rfl (by rw [ex]; rfl) (by decide) rfl ?_
        refine zr_goto (tgt := 30) h dX12_fits_63 (by decide) ?_
        have hk := zOk_some hk
        exact zr_weak h [0, 1, 2, 3, 4] rfl hk
noncomputable def f_X12_fits (M : ZMem) (x1 : Int32) (x2 : Int32) : Option (ZMem × Int32) := zbind (f_X12_in M x1 (zI 0) ((M.1 0 12) - (zI 1))) (fun r_8 => if r_8 = (zI 0) then some (M, (zI (-1))) else if (zI (-1)) ≤ x2 then zbind (f_X12_lays M) (fun M_22 => zbind (zloop (f_X12_fits_L30 M_22 x1 x2) ((zI 0), (zI 0))) (fun e30 => zsel e30 (fun e30a => if x2 = (zI (-1)) then some (M_22, e30a) else some (M_22, (zI (-1)))) (fun e30b => some e30b))) else some (M, (zI (-1))))
set_option maxRecDepth 100000 in
set_option maxHeartbeats 4000000 in
theorem c_X12_fits (E : ZEv) (M : ZMem) (x1 : Int32) (x2 : Int32) (K : ZMem × Int32 → Prop) (hk : zOk (f_X12_fits M x1 x2) K) : zCon lyR E yX12_fits cX12_fits 5 (some .int) 6 [zrf E 0, .int x1, .int x2] M (zRm K) := by
  refine zcon_of (L0 := [(0, zrf E 0), (1, .int x1), (2, .int x2)]) (by decide) rfl (Nat.le_of_ble_eq_true rfl) (fun G h => ?_)
  have h : zRu lyR E G (zRm K) cX12_fits RX12 5 (some .int) 6 := h
  unfold f_X12_fits at hk
  refine zr_iload_n h dX12_fits_0 1 rfl rfl ?_
  refine zr_iconst (v := (zI 0)) h dX12_fits_1 rfl ?_
  refine zr_aload_n h dX12_fits_2 0 rfl rfl ?_
  refine zr_getI h zfo_X12_203 lR_0 rfl dX12_fits_3 ?_
  refine zr_iconst (v := (zI 1)) h dX12_fits_6 rfl ?_
  refine zr_isub h dX12_fits_7 ?_
  refine zr_callSp h zcw_X12_123 (by decide) (c_X12_in E M x1 (zI 0) ((M.1 0 12) - (zI 1)) _ (zOk_bind hk)) rfl rfl (Nat.le_of_ble_eq_true rfl) dX12_fits_8 (fun r_8 hk => ?_)
  refine zr_if_eq (tgt := 19) h dX12_fits_11 (by decide) (fun c => ?_) (fun c => ?_)
  · have hk := zOk_t c hk
    refine zr_iconst (v := (zI (-1))) h dX12_fits_19 rfl ?_
    have hk := zOk_some hk
    exact zr_iret h dX12_fits_20 ⟨_, rfl, hk⟩
  · have hk := zOk_f c hk
    refine zr_iload_n h dX12_fits_14 2 rfl rfl ?_
    refine zr_iconst (v := (zI (-1))) h dX12_fits_15 rfl ?_
    refine zr_icmp_ge (tgt := 21) h dX12_fits_16 (by decide) (fun c => ?_) (fun c => ?_)
    · have hk := zOk_t c hk
      refine zr_aload_n h dX12_fits_21 0 rfl rfl ?_
      refine zr_callVv h lR_0 zcw_X12_235 (by decide) (c_X12_lays E M _ (zOk_bind hk)) rfl rfl (Nat.le_of_ble_eq_true rfl) dX12_fits_22 (fun M_22 hk => ?_)
      refine zr_iconst (v := (zI 0)) h dX12_fits_25 rfl ?_
      refine zr_istore_n (L' := [(0, zrf E 0), (1, .int x1), (2, .int x2), (3, .int (zI 0))]) h [1, 2, 3, 0] dX12_fits_26 rfl (by decide) rfl ?_
      refine zr_iconst (v := (zI 0)) h dX12_fits_27 rfl ?_
      refine zr_istore (L' := [(0, zrf E 0), (1, .int x1), (2, .int x2), (3, .int (zI 0)), (4, .int (zI 0))]) h [1, 2, 3, 4, 0] dX12_fits_28 (by decide) rfl ?_
      refine w_X12_fits_L30 h M_22 x1 x2 ((zI 0), (zI 0)) (zOk_mono (zOk_bind hk) (fun e30 hk => ?_))
      cases e30 with
      | inl e30a =>
        have hk := zOk_selL hk
        refine zr_iload_n h dX12_fits_66 0 rfl rfl ?_
        refine zr_iconst (v := (zI (-1))) h dX12_fits_67 rfl ?_
        refine zr_icmp_ne (tgt := 75) h dX12_fits_68 (by decide) (fun c => ?_) (fun c => ?_)
        · have hk := zOk_t c hk
          refine zr_iload_n h dX12_fits_71 1 rfl rfl ?_
          refine zr_goto (tgt := 76) h dX12_fits_72 (by decide) ?_
          have hk := zOk_some hk
          exact zr_iret h dX12_fits_76 ⟨_, rfl, hk⟩
        · have hk := zOk_f c hk
          refine zr_iconst (v := (zI (-1))) h dX12_fits_75 rfl ?_
          have hk := zOk_some hk
          exact zr_iret h dX12_fits_76 ⟨_, rfl, hk⟩
      | inr e30b =>
        have hk := zOk_selR hk
        have hk := zOk_some hk
        exact hk
    · have hk := zOk_f c hk
      refine zr_iconst (v := (zI (-1))) h dX12_fits_19 rfl ?_
      have hk := zOk_some hk
      exact zr_iret h dX12_fits_20 ⟨_, rfl, hk⟩
theorem dX12_hitsNow_0 : decode cX12_hitsNow 0 = .ok (.iconst 0, 1) := by decide +kernel
theorem dX12_hitsNow_1 : decode cX12_hitsNow 1 = .ok (.istore_n 1, 1) := by decide +kernel
theorem dX12_hitsNow_2 : decode cX12_hitsNow 2 = .ok (.iconst 0, 1) := by decide +kernel
theorem dX12_hitsNow_3 : decode cX12_hitsNow 3 = .ok (.istore_n 2, 1) := by decide +kernel
theorem dX12_hitsNow_4 : decode cX12_hitsNow 4 = .ok (.iload_n 2, 1) := by decide +kernel
theorem dX12_hitsNow_5 : decode cX12_hitsNow 5 = .ok (.aload_n 0, 1) := by decide +kernel
theorem dX12_hitsNow_6 : decode cX12_hitsNow 6 = .ok (.getfield 302, 3) := by decide +kernel
theorem dX12_hitsNow_9 : decode cX12_hitsNow 9 = .ok (.if_icmp .ge 98, 3) := by decide +kernel
theorem dX12_hitsNow_12 : decode cX12_hitsNow 12 = .ok (.iconst 1, 1) := by decide +kernel
theorem dX12_hitsNow_13 : decode cX12_hitsNow 13 = .ok (.istore_n 3, 1) := by decide +kernel
theorem dX12_hitsNow_14 : decode cX12_hitsNow 14 = .ok (.iconst 0, 1) := by decide +kernel
theorem dX12_hitsNow_15 : decode cX12_hitsNow 15 = .ok (.istore 4, 2) := by decide +kernel
theorem dX12_hitsNow_17 : decode cX12_hitsNow 17 = .ok (.iload 4, 2) := by decide +kernel
theorem dX12_hitsNow_19 : decode cX12_hitsNow 19 = .ok (.aload_n 0, 1) := by decide +kernel
theorem dX12_hitsNow_20 : decode cX12_hitsNow 20 = .ok (.getfield 56, 3) := by decide +kernel
theorem dX12_hitsNow_23 : decode cX12_hitsNow 23 = .ok (.iload_n 2, 1) := by decide +kernel
theorem dX12_hitsNow_24 : decode cX12_hitsNow 24 = .ok (.iaload, 1) := by decide +kernel
theorem dX12_hitsNow_25 : decode cX12_hitsNow 25 = .ok (.if_icmp .ge 33, 3) := by decide +kernel
theorem dX12_hitsNow_28 : decode cX12_hitsNow 28 = .ok (.iload_n 3, 1) := by decide +kernel
theorem dX12_hitsNow_29 : decode cX12_hitsNow 29 = .ok (.ifCond .eq 21, 3) := by decide +kernel
theorem dX12_hitsNow_32 : decode cX12_hitsNow 32 = .ok (.aload_n 0, 1) := by decide +kernel
theorem dX12_hitsNow_33 : decode cX12_hitsNow 33 = .ok (.aload_n 0, 1) := by decide +kernel
theorem dX12_hitsNow_34 : decode cX12_hitsNow 34 = .ok (.iload_n 2, 1) := by decide +kernel
theorem dX12_hitsNow_35 : decode cX12_hitsNow 35 = .ok (.iload 4, 2) := by decide +kernel
theorem dX12_hitsNow_37 : decode cX12_hitsNow 37 = .ok (.invokevirtual 374, 3) := by decide +kernel
theorem dX12_hitsNow_40 : decode cX12_hitsNow 40 = .ok (.invokevirtual 368, 3) := by decide +kernel
theorem dX12_hitsNow_43 : decode cX12_hitsNow 43 = .ok (.ifCond .eq 7, 3) := by decide +kernel
theorem dX12_hitsNow_46 : decode cX12_hitsNow 46 = .ok (.iconst 1, 1) := by decide +kernel
theorem dX12_hitsNow_47 : decode cX12_hitsNow 47 = .ok (.goto 4, 3) := by decide +kernel
theorem dX12_hitsNow_50 : decode cX12_hitsNow 50 = .ok (.iconst 0, 1) := by decide +kernel
theorem dX12_hitsNow_51 : decode cX12_hitsNow 51 = .ok (.istore_n 3, 1) := by decide +kernel
theorem dX12_hitsNow_52 : decode cX12_hitsNow 52 = .ok (.iinc 4 1, 3) := by decide +kernel
theorem dX12_hitsNow_55 : decode cX12_hitsNow 55 = .ok (.goto (-38), 3) := by decide +kernel
theorem dX12_hitsNow_58 : decode cX12_hitsNow 58 = .ok (.iconst 0, 1) := by decide +kernel
theorem dX12_hitsNow_59 : decode cX12_hitsNow 59 = .ok (.istore 4, 2) := by decide +kernel
theorem dX12_hitsNow_61 : decode cX12_hitsNow 61 = .ok (.iload 4, 2) := by decide +kernel
theorem dX12_hitsNow_63 : decode cX12_hitsNow 63 = .ok (.aload_n 0, 1) := by decide +kernel
theorem dX12_hitsNow_64 : decode cX12_hitsNow 64 = .ok (.getfield 203, 3) := by decide +kernel
theorem dX12_hitsNow_67 : decode cX12_hitsNow 67 = .ok (.if_icmp .ge 34, 3) := by decide +kernel
theorem dX12_hitsNow_70 : decode cX12_hitsNow 70 = .ok (.iload_n 1, 1) := by decide +kernel
theorem dX12_hitsNow_71 : decode cX12_hitsNow 71 = .ok (.iload_n 3, 1) := by decide +kernel
theorem dX12_hitsNow_72 : decode cX12_hitsNow 72 = .ok (.ifCond .eq 17, 3) := by decide +kernel
theorem dX12_hitsNow_75 : decode cX12_hitsNow 75 = .ok (.aload_n 0, 1) := by decide +kernel
theorem dX12_hitsNow_76 : decode cX12_hitsNow 76 = .ok (.iload_n 2, 1) := by decide +kernel
theorem dX12_hitsNow_77 : decode cX12_hitsNow 77 = .ok (.iload 4, 2) := by decide +kernel
theorem dX12_hitsNow_79 : decode cX12_hitsNow 79 = .ok (.invokevirtual 377, 3) := by decide +kernel
theorem dX12_hitsNow_82 : decode cX12_hitsNow 82 = .ok (.ifCond .eq 7, 3) := by decide +kernel
theorem dX12_hitsNow_85 : decode cX12_hitsNow 85 = .ok (.iconst 1, 1) := by decide +kernel
theorem dX12_hitsNow_86 : decode cX12_hitsNow 86 = .ok (.goto 4, 3) := by decide +kernel
theorem dX12_hitsNow_89 : decode cX12_hitsNow 89 = .ok (.iconst 0, 1) := by decide +kernel
theorem dX12_hitsNow_90 : decode cX12_hitsNow 90 = .ok (.invokestatic 177, 3) := by decide +kernel
theorem dX12_hitsNow_93 : decode cX12_hitsNow 93 = .ok (.iadd, 1) := by decide +kernel
theorem dX12_hitsNow_94 : decode cX12_hitsNow 94 = .ok (.istore_n 1, 1) := by decide +kernel
theorem dX12_hitsNow_95 : decode cX12_hitsNow 95 = .ok (.iinc 4 1, 3) := by decide +kernel
theorem dX12_hitsNow_98 : decode cX12_hitsNow 98 = .ok (.goto (-37), 3) := by decide +kernel
theorem dX12_hitsNow_101 : decode cX12_hitsNow 101 = .ok (.iinc 2 1, 3) := by decide +kernel
theorem dX12_hitsNow_104 : decode cX12_hitsNow 104 = .ok (.goto (-100), 3) := by decide +kernel
theorem dX12_hitsNow_107 : decode cX12_hitsNow 107 = .ok (.iload_n 1, 1) := by decide +kernel
theorem dX12_hitsNow_108 : decode cX12_hitsNow 108 = .ok (.ireturn, 1) := by decide +kernel
noncomputable def f_X12_hitsNow_L17 (M : ZMem) (x1 : Int32) (x2 : Int32) (s : (Int32 × Int32)) : Option ((Int32 × Int32) ⊕ (Int32)) := zchk (zin x2 241) (if (M.1 16 (zix x2)) ≤ s.2 then some (.inr s.1) else if s.1 = (zI 0) then zbnd (s.2 + (zI 1)) (fun x4_52 => some (.inl ((zI 0), x4_52))) else zbind (f_X12_wordSign M x2 s.2) (fun r_37 => zbind (f_X12_isWhole M r_37) (fun r_40 => if r_40 = (zI 0) then zbnd (s.2 + (zI 1)) (fun x4_52 => some (.inl ((zI 0), x4_52))) else zbnd (s.2 + (zI 1)) (fun x4_52 => some (.inl ((zI 1), x4_52))))))
set_option maxRecDepth 100000 in
set_option maxHeartbeats 4000000 in
theorem w_X12_hitsNow_L17 {E : ZEv} {G : ZG} {K : Int32 → Prop} (M : ZMem) (h : zRu lyR E G (zRp M K) cX12_hitsNow RX12 5 (some .int) 2) (x1 : Int32) (x2 : Int32) (s : (Int32 × Int32)) (hk : zOk (zloop (f_X12_hitsNow_L17 M x1 x2) s) (fun e => G M 58 [(0, zrf E 0), (1, .int x1), (2, .int x2), (3, .int e)] [])) : G M 17 [(0, zrf E 0), (1, .int x1), (2, .int x2), (3, .int s.1), (4, .int s.2)] [] := by
  refine zloop_walk (P := fun s => G M 17 [(0, zrf E 0), (1, .int x1), (2, .int x2), (3, .int s.1), (4, .int s.2)] []) hk (fun s hk => ?_)
  unfold f_X12_hitsNow_L17 at hk
  refine zr_iload h dX12_hitsNow_17 4 rfl ?_
  refine zr_aload_n h dX12_hitsNow_19 0 rfl rfl ?_
  refine zr_getR h zfo_X12_56 lR_0 rfl dX12_hitsNow_20 ?_
  refine zr_iload_n h dX12_hitsNow_23 2 rfl rfl ?_
  have hb := zOk_chk hk
  have hk := hb.2
  refine zr_iald h lR_16 hb.1 dX12_hitsNow_24 ?_
  refine zr_icmp_ge (tgt := 58) h dX12_hitsNow_25 (by decide) (fun c => ?_) (fun c => ?_)
  · have hk := zOk_t c hk
    have hk := zOk_some hk
    exact zr_weak h [0, 1, 2, 3] rfl hk
  · have hk := zOk_f c hk
    refine zr_iload_n h dX12_hitsNow_28 3 rfl rfl ?_
    refine zr_if_eq (tgt := 50) h dX12_hitsNow_29 (by decide) (fun c => ?_) (fun c => ?_)
    · have hk := zOk_t c hk
      refine zr_iconst (v := (zI 0)) h dX12_hitsNow_50 rfl ?_
      refine zr_istore_n (L' := [(0, zrf E 0), (1, .int x1), (2, .int x2), (3, .int (zI 0)), (4, .int s.2)]) h [1, 2, 3, 0, 4] dX12_hitsNow_51 rfl (by decide) rfl ?_
      obtain ⟨x4_52, ex⟩ : ∃ y : Int32, y = s.2 + (zI 1) := ⟨_, rfl⟩
      have hk := zOk_bnd ex hk
      refine zr_iinc (v := x4_52) (L' := [(0, zrf E 0), (1, .int x1), (2, .int x2), (3, .int (zI 0)), (4, .int x4_52)]) h 4 [1, 2, 3, 4, 0] dX12_hitsNow_52 rfl (by rw [ex]; rfl) (by decide) rfl ?_
      refine zr_goto (tgt := 17) h dX12_hitsNow_55 (by decide) ?_
      have hk := zOk_some hk
      exact zr_weak h [0, 1, 2, 3, 4] rfl hk
    · have hk := zOk_f c hk
      refine zr_aload_n h dX12_hitsNow_32 0 rfl rfl ?_
      refine zr_aload_n h dX12_hitsNow_33 0 rfl rfl ?_
      refine zr_iload_n h dX12_hitsNow_34 2 rfl rfl ?_
      refine zr_iload h dX12_hitsNow_35 4 rfl ?_
      refine zr_callVp h lR_0 zcw_X12_374 (by decide) (c_X12_wordSign E M x2 s.2 _ (zOk_bind hk)) rfl rfl (Nat.le_of_ble_eq_true rfl) dX12_hitsNow_37 (fun r_37 hk => ?_)
      refine zr_callVp h lR_0 zcw_X12_368 (by decide) (c_X12_isWhole E M r_37 _ (zOk_bind hk)) rfl rfl (Nat.le_of_ble_eq_true rfl) dX12_hitsNow_40 (fun r_40 hk => ?_)
      refine zr_if_eq (tgt := 50) h dX12_hitsNow_43 (by decide) (fun c => ?_) (fun c => ?_)
      · have hk := zOk_t c hk
        refine zr_iconst (v := (zI 0)) h dX12_hitsNow_50 rfl ?_
        refine zr_istore_n (L' := [(0, zrf E 0), (1, .int x1), (2, .int x2), (3, .int (zI 0)), (4, .int s.2)]) h [1, 2, 3, 0, 4] dX12_hitsNow_51 rfl (by decide) rfl ?_
        obtain ⟨x4_52, ex⟩ : ∃ y : Int32, y = s.2 + (zI 1) := ⟨_, rfl⟩
        have hk := zOk_bnd ex hk
        refine zr_iinc (v := x4_52) (L' := [(0, zrf E 0), (1, .int x1), (2, .int x2), (3, .int (zI 0)), (4, .int x4_52)]) h 4 [1, 2, 3, 4, 0] dX12_hitsNow_52 rfl (by rw [ex]; rfl) (by decide) rfl ?_
        refine zr_goto (tgt := 17) h dX12_hitsNow_55 (by decide) ?_
        have hk := zOk_some hk
        exact zr_weak h [0, 1, 2, 3, 4] rfl hk
      · have hk := zOk_f c hk
        refine zr_iconst (v := (zI 1)) h dX12_hitsNow_46 rfl ?_
        refine zr_goto (tgt := 51) h dX12_hitsNow_47 (by decide) ?_
        refine zr_istore_n (L' := [(0, zrf E 0), (1, .int x1), (2, .int x2), (3, .int (zI 1)), (4, .int s.2)]) h [1, 2, 3, 0, 4] dX12_hitsNow_51 rfl (by decide) rfl ?_
        obtain ⟨x4_52, ex⟩ : ∃ y : Int32, y = s.2 + (zI 1) := ⟨_, rfl⟩
        have hk := zOk_bnd ex hk
        refine zr_iinc (v := x4_52) (L' := [(0, zrf E 0), (1, .int x1), (2, .int x2), (3, .int (zI 1)), (4, .int x4_52)]) h 4 [1, 2, 3, 4, 0] dX12_hitsNow_52 rfl (by rw [ex]; rfl) (by decide) rfl ?_
        refine zr_goto (tgt := 17) h dX12_hitsNow_55 (by decide) ?_
        have hk := zOk_some hk
        exact zr_weak h [0, 1, 2, 3, 4] rfl hk
noncomputable def f_X12_hitsNow_90_L61 (M : ZMem) (x2 : Int32) (x3 : Int32) (x4 : Int32) (v0 : Int32) (v1 : Int32) : Option ((Int32 × Int32) ⊕ (Int32)) := zbind (f_X12_truth M v1) (fun r_90 => zbnd (v0 + r_90) (fun x1_94 => zbnd (x4 + (zI 1)) (fun x4_95 => some (.inl (x1_94, x4_95)))))
set_option maxRecDepth 100000 in
set_option maxHeartbeats 4000000 in
theorem w_X12_hitsNow_90_L61 {E : ZEv} {G : ZG} {K : Int32 → Prop} (M : ZMem) (h : zRu lyR E G (zRp M K) cX12_hitsNow RX12 5 (some .int) 2) (x2 : Int32) (x3 : Int32) (x4 : Int32) (v0 : Int32) (v1 : Int32) (hk : zOk (f_X12_hitsNow_90_L61 M x2 x3 x4 v0 v1) (zlp (fun s => G M 61 [(0, zrf E 0), (1, .int s.1), (2, .int x2), (3, .int x3), (4, .int s.2)] []) (fun e => G M 101 [(0, zrf E 0), (1, .int e), (2, .int x2)] []))) : G M 90 [(0, zrf E 0), (2, .int x2), (3, .int x3), (4, .int x4)] [.int v1, .int v0] := by
  unfold f_X12_hitsNow_90_L61 at hk
  refine zr_callSp h zcw_X12_177 (by decide) (c_X12_truth E M v1 _ (zOk_bind hk)) rfl rfl (Nat.le_of_ble_eq_true rfl) dX12_hitsNow_90 (fun r_90 hk => ?_)
  refine zr_iadd h dX12_hitsNow_93 ?_
  refine zr_topi (fun x1_94 ex => ?_)
  have hk := zOk_bnd ex hk
  refine zr_istore_n (L' := [(0, zrf E 0), (1, .int x1_94), (2, .int x2), (3, .int x3), (4, .int x4)]) h [1, 0, 2, 3, 4] dX12_hitsNow_94 rfl (by decide) rfl ?_
  obtain ⟨x4_95, ex⟩ : ∃ y : Int32, y = x4 + (zI 1) := ⟨_, rfl⟩
  have hk := zOk_bnd ex hk
  refine zr_iinc (v := x4_95) (L' := [(0, zrf E 0), (1, .int x1_94), (2, .int x2), (3, .int x3), (4, .int x4_95)]) h 4 [1, 2, 3, 4, 0] dX12_hitsNow_95 rfl (by rw [ex]; rfl) (by decide) rfl ?_
  refine zr_goto (tgt := 61) h dX12_hitsNow_98 (by decide) ?_
  have hk := zOk_some hk
  exact zr_weak h [0, 1, 2, 3, 4] rfl hk
noncomputable def f_X12_hitsNow_89_L61 (M : ZMem) (x2 : Int32) (x3 : Int32) (x4 : Int32) (v0 : Int32) : Option ((Int32 × Int32) ⊕ (Int32)) := f_X12_hitsNow_90_L61 M x2 x3 x4 v0 (zI 0)
set_option maxRecDepth 100000 in
set_option maxHeartbeats 4000000 in
theorem w_X12_hitsNow_89_L61 {E : ZEv} {G : ZG} {K : Int32 → Prop} (M : ZMem) (h : zRu lyR E G (zRp M K) cX12_hitsNow RX12 5 (some .int) 2) (x2 : Int32) (x3 : Int32) (x4 : Int32) (v0 : Int32) (hk : zOk (f_X12_hitsNow_89_L61 M x2 x3 x4 v0) (zlp (fun s => G M 61 [(0, zrf E 0), (1, .int s.1), (2, .int x2), (3, .int x3), (4, .int s.2)] []) (fun e => G M 101 [(0, zrf E 0), (1, .int e), (2, .int x2)] []))) : G M 89 [(0, zrf E 0), (2, .int x2), (3, .int x3), (4, .int x4)] [.int v0] := by
  unfold f_X12_hitsNow_89_L61 at hk
  refine zr_iconst (v := (zI 0)) h dX12_hitsNow_89 rfl ?_
  exact w_X12_hitsNow_90_L61 M h x2 x3 x4 v0 (zI 0) hk
noncomputable def f_X12_hitsNow_L61 (M : ZMem) (x2 : Int32) (x3 : Int32) (s : (Int32 × Int32)) : Option ((Int32 × Int32) ⊕ (Int32)) := if (M.1 0 12) ≤ s.2 then some (.inr s.1) else if x3 = (zI 0) then f_X12_hitsNow_89_L61 M x2 x3 s.2 s.1 else zbind (f_X12_fitsName M x2 s.2) (fun r_79 => if r_79 = (zI 0) then f_X12_hitsNow_89_L61 M x2 x3 s.2 s.1 else f_X12_hitsNow_90_L61 M x2 x3 s.2 s.1 (zI 1))
set_option maxRecDepth 100000 in
set_option maxHeartbeats 4000000 in
theorem w_X12_hitsNow_L61 {E : ZEv} {G : ZG} {K : Int32 → Prop} (M : ZMem) (h : zRu lyR E G (zRp M K) cX12_hitsNow RX12 5 (some .int) 2) (x2 : Int32) (x3 : Int32) (s : (Int32 × Int32)) (hk : zOk (zloop (f_X12_hitsNow_L61 M x2 x3) s) (fun e => G M 101 [(0, zrf E 0), (1, .int e), (2, .int x2)] [])) : G M 61 [(0, zrf E 0), (1, .int s.1), (2, .int x2), (3, .int x3), (4, .int s.2)] [] := by
  refine zloop_walk (P := fun s => G M 61 [(0, zrf E 0), (1, .int s.1), (2, .int x2), (3, .int x3), (4, .int s.2)] []) hk (fun s hk => ?_)
  unfold f_X12_hitsNow_L61 at hk
  refine zr_iload h dX12_hitsNow_61 4 rfl ?_
  refine zr_aload_n h dX12_hitsNow_63 0 rfl rfl ?_
  refine zr_getI h zfo_X12_203 lR_0 rfl dX12_hitsNow_64 ?_
  refine zr_icmp_ge (tgt := 101) h dX12_hitsNow_67 (by decide) (fun c => ?_) (fun c => ?_)
  · have hk := zOk_t c hk
    have hk := zOk_some hk
    exact zr_weak h [0, 1, 2] rfl hk
  · have hk := zOk_f c hk
    refine zr_iload_n h dX12_hitsNow_70 1 rfl rfl ?_
    refine zr_iload_n h dX12_hitsNow_71 3 rfl rfl ?_
    refine zr_if_eq (tgt := 89) h dX12_hitsNow_72 (by decide) (fun c => ?_) (fun c => ?_)
    · have hk := zOk_t c hk
      exact zr_weak h [0, 2, 3, 4] rfl (w_X12_hitsNow_89_L61 M h x2 x3 s.2 s.1 hk)
    · have hk := zOk_f c hk
      refine zr_aload_n h dX12_hitsNow_75 0 rfl rfl ?_
      refine zr_iload_n h dX12_hitsNow_76 2 rfl rfl ?_
      refine zr_iload h dX12_hitsNow_77 4 rfl ?_
      refine zr_callVp h lR_0 zcw_X12_377 (by decide) (c_X12_fitsName E M x2 s.2 _ (zOk_bind hk)) rfl rfl (Nat.le_of_ble_eq_true rfl) dX12_hitsNow_79 (fun r_79 hk => ?_)
      refine zr_if_eq (tgt := 89) h dX12_hitsNow_82 (by decide) (fun c => ?_) (fun c => ?_)
      · have hk := zOk_t c hk
        exact zr_weak h [0, 2, 3, 4] rfl (w_X12_hitsNow_89_L61 M h x2 x3 s.2 s.1 hk)
      · have hk := zOk_f c hk
        refine zr_iconst (v := (zI 1)) h dX12_hitsNow_85 rfl ?_
        refine zr_goto (tgt := 90) h dX12_hitsNow_86 (by decide) ?_
        exact zr_weak h [0, 2, 3, 4] rfl (w_X12_hitsNow_90_L61 M h x2 x3 s.2 s.1 (zI 1) hk)
noncomputable def f_X12_hitsNow_L4 (M : ZMem) (s : (Int32 × Int32)) : Option ((Int32 × Int32) ⊕ (Int32)) := if (M.1 0 25) ≤ s.2 then some (.inr s.1) else zbind (zloop (f_X12_hitsNow_L17 M s.1 s.2) ((zI 1), (zI 0))) (fun e17 => zbind (zloop (f_X12_hitsNow_L61 M s.2 e17) (s.1, (zI 0))) (fun e61 => zbnd (s.2 + (zI 1)) (fun x2_101 => some (.inl (e61, x2_101)))))
set_option maxRecDepth 100000 in
set_option maxHeartbeats 4000000 in
theorem w_X12_hitsNow_L4 {E : ZEv} {G : ZG} {K : Int32 → Prop} (M : ZMem) (h : zRu lyR E G (zRp M K) cX12_hitsNow RX12 5 (some .int) 2) (s : (Int32 × Int32)) (hk : zOk (zloop (f_X12_hitsNow_L4 M) s) (fun e => G M 107 [(1, .int e)] [])) : G M 4 [(0, zrf E 0), (1, .int s.1), (2, .int s.2)] [] := by
  refine zloop_walk (P := fun s => G M 4 [(0, zrf E 0), (1, .int s.1), (2, .int s.2)] []) hk (fun s hk => ?_)
  unfold f_X12_hitsNow_L4 at hk
  refine zr_iload_n h dX12_hitsNow_4 2 rfl rfl ?_
  refine zr_aload_n h dX12_hitsNow_5 0 rfl rfl ?_
  refine zr_getI h zfo_X12_302 lR_0 rfl dX12_hitsNow_6 ?_
  refine zr_icmp_ge (tgt := 107) h dX12_hitsNow_9 (by decide) (fun c => ?_) (fun c => ?_)
  · have hk := zOk_t c hk
    have hk := zOk_some hk
    exact zr_weak h [1] rfl hk
  · have hk := zOk_f c hk
    refine zr_iconst (v := (zI 1)) h dX12_hitsNow_12 rfl ?_
    refine zr_istore_n (L' := [(0, zrf E 0), (1, .int s.1), (2, .int s.2), (3, .int (zI 1))]) h [1, 2, 3, 0] dX12_hitsNow_13 rfl (by decide) rfl ?_
    refine zr_iconst (v := (zI 0)) h dX12_hitsNow_14 rfl ?_
    refine zr_istore (L' := [(0, zrf E 0), (1, .int s.1), (2, .int s.2), (3, .int (zI 1)), (4, .int (zI 0))]) h [1, 2, 3, 4, 0] dX12_hitsNow_15 (by decide) rfl ?_
    refine w_X12_hitsNow_L17 M h s.1 s.2 ((zI 1), (zI 0)) (zOk_mono (zOk_bind hk) (fun e17 hk => ?_))
    refine zr_iconst (v := (zI 0)) h dX12_hitsNow_58 rfl ?_
    refine zr_istore (L' := [(0, zrf E 0), (1, .int s.1), (2, .int s.2), (3, .int e17), (4, .int (zI 0))]) h [1, 2, 3, 4, 0] dX12_hitsNow_59 (by decide) rfl ?_
    refine w_X12_hitsNow_L61 M h s.2 e17 (s.1, (zI 0)) (zOk_mono (zOk_bind hk) (fun e61 hk => ?_))
    obtain ⟨x2_101, ex⟩ : ∃ y : Int32, y = s.2 + (zI 1) := ⟨_, rfl⟩
    have hk := zOk_bnd ex hk
    refine zr_iinc (v := x2_101) (L' := [(0, zrf E 0), (1, .int e61), (2, .int x2_101)]) h 2 [1, 2, 0] dX12_hitsNow_101 rfl (by rw [ex]; rfl) (by decide) rfl ?_
    refine zr_goto (tgt := 4) h dX12_hitsNow_104 (by decide) ?_
    have hk := zOk_some hk
    exact zr_weak h [0, 1, 2] rfl hk
noncomputable def f_X12_hitsNow (M : ZMem) : Option Int32 := zbind (zloop (f_X12_hitsNow_L4 M) ((zI 0), (zI 0))) (fun e4 => some e4)
set_option maxRecDepth 100000 in
set_option maxHeartbeats 4000000 in
theorem c_X12_hitsNow (E : ZEv) (M : ZMem) (K : Int32 → Prop) (hk : zOk (f_X12_hitsNow M) K) : zCon lyR E yX12_hitsNow cX12_hitsNow 5 (some .int) 2 [zrf E 0] M (zRp M K) := by
  refine zcon_of (L0 := [(0, zrf E 0)]) (by decide) rfl (Nat.le_of_ble_eq_true rfl) (fun G h => ?_)
  have h : zRu lyR E G (zRp M K) cX12_hitsNow RX12 5 (some .int) 2 := h
  unfold f_X12_hitsNow at hk
  refine zr_iconst (v := (zI 0)) h dX12_hitsNow_0 rfl ?_
  refine zr_istore_n (L' := [(0, zrf E 0), (1, .int (zI 0))]) h [1, 0] dX12_hitsNow_1 rfl (by decide) rfl ?_
  refine zr_iconst (v := (zI 0)) h dX12_hitsNow_2 rfl ?_
  refine zr_istore_n (L' := [(0, zrf E 0), (1, .int (zI 0)), (2, .int (zI 0))]) h [1, 2, 0] dX12_hitsNow_3 rfl (by decide) rfl ?_
  refine w_X12_hitsNow_L4 M h ((zI 0), (zI 0)) (zOk_mono (zOk_bind hk) (fun e4 hk => ?_))
  refine zr_iload_n h dX12_hitsNow_107 0 rfl rfl ?_
  have hk := zOk_some hk
  exact zr_iret h dX12_hitsNow_108 ⟨rfl, _, rfl, hk⟩
theorem dX12_hits_0 : decode cX12_hits 0 = .ok (.aload_n 0, 1) := by decide +kernel
theorem dX12_hits_1 : decode cX12_hits 1 = .ok (.invokevirtual 235, 3) := by decide +kernel
theorem dX12_hits_4 : decode cX12_hits 4 = .ok (.aload_n 0, 1) := by decide +kernel
theorem dX12_hits_5 : decode cX12_hits 5 = .ok (.invokevirtual 380, 3) := by decide +kernel
theorem dX12_hits_8 : decode cX12_hits 8 = .ok (.ireturn, 1) := by decide +kernel
noncomputable def f_X12_hits (M : ZMem) : Option (ZMem × Int32) := zbind (f_X12_lays M) (fun M_1 => zbind (f_X12_hitsNow M_1) (fun r_5 => some (M_1, r_5)))
set_option maxRecDepth 100000 in
set_option maxHeartbeats 4000000 in
theorem c_X12_hits (E : ZEv) (M : ZMem) (K : ZMem × Int32 → Prop) (hk : zOk (f_X12_hits M) K) : zCon lyR E yX12_hits cX12_hits 1 (some .int) 6 [zrf E 0] M (zRm K) := by
  refine zcon_of (L0 := [(0, zrf E 0)]) (by decide) rfl (Nat.le_of_ble_eq_true rfl) (fun G h => ?_)
  have h : zRu lyR E G (zRm K) cX12_hits RX12 1 (some .int) 6 := h
  unfold f_X12_hits at hk
  refine zr_aload_n h dX12_hits_0 0 rfl rfl ?_
  refine zr_callVv h lR_0 zcw_X12_235 (by decide) (c_X12_lays E M _ (zOk_bind hk)) rfl rfl (Nat.le_of_ble_eq_true rfl) dX12_hits_1 (fun M_1 hk => ?_)
  refine zr_aload_n h dX12_hits_4 0 rfl rfl ?_
  refine zr_callVp h lR_0 zcw_X12_380 (by decide) (c_X12_hitsNow E M_1 _ (zOk_bind hk)) rfl rfl (Nat.le_of_ble_eq_true rfl) dX12_hits_5 (fun r_5 hk => ?_)
  have hk := zOk_some hk
  exact zr_iret h dX12_hits_8 ⟨_, rfl, hk⟩
theorem dX12_agree_0 : decode cX12_agree 0 = .ok (.iconst 0, 1) := by decide +kernel
theorem dX12_agree_1 : decode cX12_agree 1 = .ok (.istore_n 3, 1) := by decide +kernel
theorem dX12_agree_2 : decode cX12_agree 2 = .ok (.iload_n 3, 1) := by decide +kernel
theorem dX12_agree_3 : decode cX12_agree 3 = .ok (.aload_n 0, 1) := by decide +kernel
theorem dX12_agree_4 : decode cX12_agree 4 = .ok (.getfield 29, 3) := by decide +kernel
theorem dX12_agree_7 : decode cX12_agree 7 = .ok (.iload_n 1, 1) := by decide +kernel
theorem dX12_agree_8 : decode cX12_agree 8 = .ok (.iaload, 1) := by decide +kernel
theorem dX12_agree_9 : decode cX12_agree 9 = .ok (.if_icmp .ge 174, 3) := by decide +kernel
theorem dX12_agree_12 : decode cX12_agree 12 = .ok (.iconst 0, 1) := by decide +kernel
theorem dX12_agree_13 : decode cX12_agree 13 = .ok (.istore 4, 2) := by decide +kernel
theorem dX12_agree_15 : decode cX12_agree 15 = .ok (.iload 4, 2) := by decide +kernel
theorem dX12_agree_17 : decode cX12_agree 17 = .ok (.aload_n 0, 1) := by decide +kernel
theorem dX12_agree_18 : decode cX12_agree 18 = .ok (.getfield 29, 3) := by decide +kernel
theorem dX12_agree_21 : decode cX12_agree 21 = .ok (.iload_n 2, 1) := by decide +kernel
theorem dX12_agree_22 : decode cX12_agree 22 = .ok (.iaload, 1) := by decide +kernel
theorem dX12_agree_23 : decode cX12_agree 23 = .ok (.if_icmp .ge 154, 3) := by decide +kernel
theorem dX12_agree_26 : decode cX12_agree 26 = .ok (.aload_n 0, 1) := by decide +kernel
theorem dX12_agree_27 : decode cX12_agree 27 = .ok (.aload_n 0, 1) := by decide +kernel
theorem dX12_agree_28 : decode cX12_agree 28 = .ok (.getfield 87, 3) := by decide +kernel
theorem dX12_agree_31 : decode cX12_agree 31 = .ok (.iload_n 1, 1) := by decide +kernel
theorem dX12_agree_32 : decode cX12_agree 32 = .ok (.iaload, 1) := by decide +kernel
theorem dX12_agree_33 : decode cX12_agree 33 = .ok (.iload_n 3, 1) := by decide +kernel
theorem dX12_agree_34 : decode cX12_agree 34 = .ok (.invokevirtual 374, 3) := by decide +kernel
theorem dX12_agree_37 : decode cX12_agree 37 = .ok (.istore 5, 2) := by decide +kernel
theorem dX12_agree_39 : decode cX12_agree 39 = .ok (.aload_n 0, 1) := by decide +kernel
theorem dX12_agree_40 : decode cX12_agree 40 = .ok (.aload_n 0, 1) := by decide +kernel
theorem dX12_agree_41 : decode cX12_agree 41 = .ok (.getfield 87, 3) := by decide +kernel
theorem dX12_agree_44 : decode cX12_agree 44 = .ok (.iload_n 2, 1) := by decide +kernel
theorem dX12_agree_45 : decode cX12_agree 45 = .ok (.iaload, 1) := by decide +kernel
theorem dX12_agree_46 : decode cX12_agree 46 = .ok (.iload 4, 2) := by decide +kernel
theorem dX12_agree_48 : decode cX12_agree 48 = .ok (.invokevirtual 374, 3) := by decide +kernel
theorem dX12_agree_51 : decode cX12_agree 51 = .ok (.istore 6, 2) := by decide +kernel
theorem dX12_agree_53 : decode cX12_agree 53 = .ok (.aload_n 0, 1) := by decide +kernel
theorem dX12_agree_54 : decode cX12_agree 54 = .ok (.getfield 32, 3) := by decide +kernel
theorem dX12_agree_57 : decode cX12_agree 57 = .ok (.bipush 7, 2) := by decide +kernel
theorem dX12_agree_59 : decode cX12_agree 59 = .ok (.iload_n 1, 1) := by decide +kernel
theorem dX12_agree_60 : decode cX12_agree 60 = .ok (.imul, 1) := by decide +kernel
theorem dX12_agree_61 : decode cX12_agree 61 = .ok (.iload_n 3, 1) := by decide +kernel
theorem dX12_agree_62 : decode cX12_agree 62 = .ok (.iadd, 1) := by decide +kernel
theorem dX12_agree_63 : decode cX12_agree 63 = .ok (.iaload, 1) := by decide +kernel
theorem dX12_agree_64 : decode cX12_agree 64 = .ok (.istore 7, 2) := by decide +kernel
theorem dX12_agree_66 : decode cX12_agree 66 = .ok (.aload_n 0, 1) := by decide +kernel
theorem dX12_agree_67 : decode cX12_agree 67 = .ok (.getfield 32, 3) := by decide +kernel
theorem dX12_agree_70 : decode cX12_agree 70 = .ok (.bipush 7, 2) := by decide +kernel
theorem dX12_agree_72 : decode cX12_agree 72 = .ok (.iload_n 2, 1) := by decide +kernel
theorem dX12_agree_73 : decode cX12_agree 73 = .ok (.imul, 1) := by decide +kernel
theorem dX12_agree_74 : decode cX12_agree 74 = .ok (.iload 4, 2) := by decide +kernel
theorem dX12_agree_76 : decode cX12_agree 76 = .ok (.iadd, 1) := by decide +kernel
theorem dX12_agree_77 : decode cX12_agree 77 = .ok (.iaload, 1) := by decide +kernel
theorem dX12_agree_78 : decode cX12_agree 78 = .ok (.istore 8, 2) := by decide +kernel
theorem dX12_agree_80 : decode cX12_agree 80 = .ok (.iload 5, 2) := by decide +kernel
theorem dX12_agree_82 : decode cX12_agree 82 = .ok (.iload 6, 2) := by decide +kernel
theorem dX12_agree_84 : decode cX12_agree 84 = .ok (.if_icmp .ne 7, 3) := by decide +kernel
theorem dX12_agree_87 : decode cX12_agree 87 = .ok (.iconst 1, 1) := by decide +kernel
theorem dX12_agree_88 : decode cX12_agree 88 = .ok (.goto 4, 3) := by decide +kernel
theorem dX12_agree_91 : decode cX12_agree 91 = .ok (.iconst 0, 1) := by decide +kernel
theorem dX12_agree_92 : decode cX12_agree 92 = .ok (.iload 7, 2) := by decide +kernel
theorem dX12_agree_94 : decode cX12_agree 94 = .ok (.iload 8, 2) := by decide +kernel
theorem dX12_agree_96 : decode cX12_agree 96 = .ok (.if_icmp .ne 7, 3) := by decide +kernel
theorem dX12_agree_99 : decode cX12_agree 99 = .ok (.iconst 1, 1) := by decide +kernel
theorem dX12_agree_100 : decode cX12_agree 100 = .ok (.goto 4, 3) := by decide +kernel
theorem dX12_agree_103 : decode cX12_agree 103 = .ok (.iconst 0, 1) := by decide +kernel
theorem dX12_agree_104 : decode cX12_agree 104 = .ok (.if_icmp .ne 65, 3) := by decide +kernel
theorem dX12_agree_107 : decode cX12_agree 107 = .ok (.aload_n 0, 1) := by decide +kernel
theorem dX12_agree_108 : decode cX12_agree 108 = .ok (.getfield 78, 3) := by decide +kernel
theorem dX12_agree_111 : decode cX12_agree 111 = .ok (.iload 5, 2) := by decide +kernel
theorem dX12_agree_113 : decode cX12_agree 113 = .ok (.iaload, 1) := by decide +kernel
theorem dX12_agree_114 : decode cX12_agree 114 = .ok (.aload_n 0, 1) := by decide +kernel
theorem dX12_agree_115 : decode cX12_agree 115 = .ok (.getfield 78, 3) := by decide +kernel
theorem dX12_agree_118 : decode cX12_agree 118 = .ok (.iload 6, 2) := by decide +kernel
theorem dX12_agree_120 : decode cX12_agree 120 = .ok (.iaload, 1) := by decide +kernel
theorem dX12_agree_121 : decode cX12_agree 121 = .ok (.if_icmp .ne 14, 3) := by decide +kernel
theorem dX12_agree_124 : decode cX12_agree 124 = .ok (.iload 7, 2) := by decide +kernel
theorem dX12_agree_126 : decode cX12_agree 126 = .ok (.iconst 5, 1) := by decide +kernel
theorem dX12_agree_127 : decode cX12_agree 127 = .ok (.idiv, 1) := by decide +kernel
theorem dX12_agree_128 : decode cX12_agree 128 = .ok (.iload 8, 2) := by decide +kernel
theorem dX12_agree_130 : decode cX12_agree 130 = .ok (.iconst 5, 1) := by decide +kernel
theorem dX12_agree_131 : decode cX12_agree 131 = .ok (.idiv, 1) := by decide +kernel
theorem dX12_agree_132 : decode cX12_agree 132 = .ok (.if_icmp .ne 37, 3) := by decide +kernel
theorem dX12_agree_135 : decode cX12_agree 135 = .ok (.aload_n 0, 1) := by decide +kernel
theorem dX12_agree_136 : decode cX12_agree 136 = .ok (.getfield 78, 3) := by decide +kernel
theorem dX12_agree_139 : decode cX12_agree 139 = .ok (.bipush 20, 2) := by decide +kernel
theorem dX12_agree_141 : decode cX12_agree 141 = .ok (.iload 5, 2) := by decide +kernel
theorem dX12_agree_143 : decode cX12_agree 143 = .ok (.iadd, 1) := by decide +kernel
theorem dX12_agree_144 : decode cX12_agree 144 = .ok (.iaload, 1) := by decide +kernel
theorem dX12_agree_145 : decode cX12_agree 145 = .ok (.aload_n 0, 1) := by decide +kernel
theorem dX12_agree_146 : decode cX12_agree 146 = .ok (.getfield 78, 3) := by decide +kernel
theorem dX12_agree_149 : decode cX12_agree 149 = .ok (.bipush 20, 2) := by decide +kernel
theorem dX12_agree_151 : decode cX12_agree 151 = .ok (.iload 6, 2) := by decide +kernel
theorem dX12_agree_153 : decode cX12_agree 153 = .ok (.iadd, 1) := by decide +kernel
theorem dX12_agree_154 : decode cX12_agree 154 = .ok (.iaload, 1) := by decide +kernel
theorem dX12_agree_155 : decode cX12_agree 155 = .ok (.if_icmp .ne 16, 3) := by decide +kernel
theorem dX12_agree_158 : decode cX12_agree 158 = .ok (.iload 7, 2) := by decide +kernel
theorem dX12_agree_160 : decode cX12_agree 160 = .ok (.iconst 5, 1) := by decide +kernel
theorem dX12_agree_161 : decode cX12_agree 161 = .ok (.irem, 1) := by decide +kernel
theorem dX12_agree_162 : decode cX12_agree 162 = .ok (.iload 8, 2) := by decide +kernel
theorem dX12_agree_164 : decode cX12_agree 164 = .ok (.iconst 5, 1) := by decide +kernel
theorem dX12_agree_165 : decode cX12_agree 165 = .ok (.irem, 1) := by decide +kernel
theorem dX12_agree_166 : decode cX12_agree 166 = .ok (.if_icmp .eq 5, 3) := by decide +kernel
theorem dX12_agree_169 : decode cX12_agree 169 = .ok (.iconst 0, 1) := by decide +kernel
theorem dX12_agree_170 : decode cX12_agree 170 = .ok (.ireturn, 1) := by decide +kernel
theorem dX12_agree_171 : decode cX12_agree 171 = .ok (.iinc 4 1, 3) := by decide +kernel
theorem dX12_agree_174 : decode cX12_agree 174 = .ok (.goto (-159), 3) := by decide +kernel
theorem dX12_agree_177 : decode cX12_agree 177 = .ok (.iinc 3 1, 3) := by decide +kernel
theorem dX12_agree_180 : decode cX12_agree 180 = .ok (.goto (-178), 3) := by decide +kernel
theorem dX12_agree_183 : decode cX12_agree 183 = .ok (.iconst 1, 1) := by decide +kernel
theorem dX12_agree_184 : decode cX12_agree 184 = .ok (.ireturn, 1) := by decide +kernel
noncomputable def f_X12_agree_135_L15 (M : ZMem) (x1 : Int32) (x2 : Int32) (x3 : Int32) (x4 : Int32) (x5 : Int32) (x6 : Int32) (x7 : Int32) (x8 : Int32) : Option ((Int32) ⊕ ((Unit) ⊕ Int32)) := zchk (zin ((zI 20) + x5) 40) (zchk (zin ((zI 20) + x6) 40) (if (M.1 23 (zix ((zI 20) + x5))) = (M.1 23 (zix ((zI 20) + x6))) then if (x7 - x7 / (zI 5) * (zI 5)) = (x8 - x8 / (zI 5) * (zI 5)) then zbnd (x4 + (zI 1)) (fun x4_171 => some (.inl x4_171)) else some (.inr (.inr (zI 0))) else zbnd (x4 + (zI 1)) (fun x4_171 => some (.inl x4_171))))
set_option maxRecDepth 100000 in
set_option maxHeartbeats 4000000 in
theorem w_X12_agree_135_L15 {E : ZEv} {G : ZG} {K : Int32 → Prop} (M : ZMem) (h : zRu lyR E G (zRp M K) cX12_agree RX12 9 (some .boolean) 1) (x1 : Int32) (x2 : Int32) (x3 : Int32) (x4 : Int32) (x5 : Int32) (x6 : Int32) (x7 : Int32) (x8 : Int32) (hk : zOk (f_X12_agree_135_L15 M x1 x2 x3 x4 x5 x6 x7 x8) (zlp (fun s => G M 15 [(0, zrf E 0), (1, .int x1), (2, .int x2), (3, .int x3), (4, .int s)] []) (fun e => zsel e (fun e0 => G M 177 [(0, zrf E 0), (1, .int x1), (2, .int x2), (3, .int x3)] []) (fun f0 => K f0)))) : G M 135 [(0, zrf E 0), (1, .int x1), (2, .int x2), (3, .int x3), (4, .int x4), (5, .int x5), (6, .int x6), (7, .int x7), (8, .int x8)] [] := by
  unfold f_X12_agree_135_L15 at hk
  refine zr_aload_n h dX12_agree_135 0 rfl rfl ?_
  refine zr_getR h zfo_X12_78 lR_0 rfl dX12_agree_136 ?_
  refine zr_bipush (v := (zI 20)) h dX12_agree_139 (by decide) ?_
  refine zr_iload h dX12_agree_141 5 rfl ?_
  refine zr_iadd h dX12_agree_143 ?_
  have hb := zOk_chk hk
  have hk := hb.2
  refine zr_iald h lR_23 hb.1 dX12_agree_144 ?_
  refine zr_aload_n h dX12_agree_145 0 rfl rfl ?_
  refine zr_getR h zfo_X12_78 lR_0 rfl dX12_agree_146 ?_
  refine zr_bipush (v := (zI 20)) h dX12_agree_149 (by decide) ?_
  refine zr_iload h dX12_agree_151 6 rfl ?_
  refine zr_iadd h dX12_agree_153 ?_
  have hb := zOk_chk hk
  have hk := hb.2
  refine zr_iald h lR_23 hb.1 dX12_agree_154 ?_
  refine zr_icmp_ne (tgt := 171) h dX12_agree_155 (by decide) (fun c => ?_) (fun c => ?_)
  · have hk := zOk_t c hk
    refine zr_iload h dX12_agree_158 7 rfl ?_
    refine zr_iconst (v := (zI 5)) h dX12_agree_160 rfl ?_
    refine zr_irem h dX12_agree_161 (by decide) ?_
    refine zr_iload h dX12_agree_162 8 rfl ?_
    refine zr_iconst (v := (zI 5)) h dX12_agree_164 rfl ?_
    refine zr_irem h dX12_agree_165 (by decide) ?_
    refine zr_icmp_eq (tgt := 171) h dX12_agree_166 (by decide) (fun c => ?_) (fun c => ?_)
    · have hk := zOk_t c hk
      obtain ⟨x4_171, ex⟩ : ∃ y : Int32, y = x4 + (zI 1) := ⟨_, rfl⟩
      have hk := zOk_bnd ex hk
      refine zr_iinc (v := x4_171) (L' := [(0, zrf E 0), (1, .int x1), (2, .int x2), (3, .int x3), (4, .int x4_171)]) h 4 [1, 2, 3, 4, 0] dX12_agree_171 rfl (by rw [ex]; rfl) (by decide) rfl ?_
      refine zr_goto (tgt := 15) h dX12_agree_174 (by decide) ?_
      have hk := zOk_some hk
      exact zr_weak h [0, 1, 2, 3, 4] rfl hk
    · have hk := zOk_f c hk
      refine zr_iconst (v := (zI 0)) h dX12_agree_169 rfl ?_
      have hk := zOk_some hk
      exact zr_zret h dX12_agree_170 (by decide) ⟨rfl, _, rfl, hk⟩
  · have hk := zOk_f c hk
    obtain ⟨x4_171, ex⟩ : ∃ y : Int32, y = x4 + (zI 1) := ⟨_, rfl⟩
    have hk := zOk_bnd ex hk
    refine zr_iinc (v := x4_171) (L' := [(0, zrf E 0), (1, .int x1), (2, .int x2), (3, .int x3), (4, .int x4_171)]) h 4 [1, 2, 3, 4, 0] dX12_agree_171 rfl (by rw [ex]; rfl) (by decide) rfl ?_
    refine zr_goto (tgt := 15) h dX12_agree_174 (by decide) ?_
    have hk := zOk_some hk
    exact zr_weak h [0, 1, 2, 3, 4] rfl hk
noncomputable def f_X12_agree_104_L15 (M : ZMem) (x1 : Int32) (x2 : Int32) (x3 : Int32) (x4 : Int32) (x5 : Int32) (x6 : Int32) (x7 : Int32) (x8 : Int32) (v0 : Int32) (v1 : Int32) : Option ((Int32) ⊕ ((Unit) ⊕ Int32)) := if v0 = v1 then zchk (zin x5 40) (zchk (zin x6 40) (if (M.1 23 (zix x5)) = (M.1 23 (zix x6)) then if (x7 / (zI 5)) = (x8 / (zI 5)) then f_X12_agree_135_L15 M x1 x2 x3 x4 x5 x6 x7 x8 else some (.inr (.inr (zI 0))) else f_X12_agree_135_L15 M x1 x2 x3 x4 x5 x6 x7 x8)) else some (.inr (.inr (zI 0)))
set_option maxRecDepth 100000 in
set_option maxHeartbeats 4000000 in
theorem w_X12_agree_104_L15 {E : ZEv} {G : ZG} {K : Int32 → Prop} (M : ZMem) (h : zRu lyR E G (zRp M K) cX12_agree RX12 9 (some .boolean) 1) (x1 : Int32) (x2 : Int32) (x3 : Int32) (x4 : Int32) (x5 : Int32) (x6 : Int32) (x7 : Int32) (x8 : Int32) (v0 : Int32) (v1 : Int32) (hk : zOk (f_X12_agree_104_L15 M x1 x2 x3 x4 x5 x6 x7 x8 v0 v1) (zlp (fun s => G M 15 [(0, zrf E 0), (1, .int x1), (2, .int x2), (3, .int x3), (4, .int s)] []) (fun e => zsel e (fun e0 => G M 177 [(0, zrf E 0), (1, .int x1), (2, .int x2), (3, .int x3)] []) (fun f0 => K f0)))) : G M 104 [(0, zrf E 0), (1, .int x1), (2, .int x2), (3, .int x3), (4, .int x4), (5, .int x5), (6, .int x6), (7, .int x7), (8, .int x8)] [.int v1, .int v0] := by
  unfold f_X12_agree_104_L15 at hk
  refine zr_icmp_ne (tgt := 169) h dX12_agree_104 (by decide) (fun c => ?_) (fun c => ?_)
  · have hk := zOk_t c hk
    refine zr_aload_n h dX12_agree_107 0 rfl rfl ?_
    refine zr_getR h zfo_X12_78 lR_0 rfl dX12_agree_108 ?_
    refine zr_iload h dX12_agree_111 5 rfl ?_
    have hb := zOk_chk hk
    have hk := hb.2
    refine zr_iald h lR_23 hb.1 dX12_agree_113 ?_
    refine zr_aload_n h dX12_agree_114 0 rfl rfl ?_
    refine zr_getR h zfo_X12_78 lR_0 rfl dX12_agree_115 ?_
    refine zr_iload h dX12_agree_118 6 rfl ?_
    have hb := zOk_chk hk
    have hk := hb.2
    refine zr_iald h lR_23 hb.1 dX12_agree_120 ?_
    refine zr_icmp_ne (tgt := 135) h dX12_agree_121 (by decide) (fun c => ?_) (fun c => ?_)
    · have hk := zOk_t c hk
      refine zr_iload h dX12_agree_124 7 rfl ?_
      refine zr_iconst (v := (zI 5)) h dX12_agree_126 rfl ?_
      refine zr_idiv h dX12_agree_127 (by decide) ?_
      refine zr_iload h dX12_agree_128 8 rfl ?_
      refine zr_iconst (v := (zI 5)) h dX12_agree_130 rfl ?_
      refine zr_idiv h dX12_agree_131 (by decide) ?_
      refine zr_icmp_ne (tgt := 169) h dX12_agree_132 (by decide) (fun c => ?_) (fun c => ?_)
      · have hk := zOk_t c hk
        exact w_X12_agree_135_L15 M h x1 x2 x3 x4 x5 x6 x7 x8 hk
      · have hk := zOk_f c hk
        refine zr_iconst (v := (zI 0)) h dX12_agree_169 rfl ?_
        have hk := zOk_some hk
        exact zr_zret h dX12_agree_170 (by decide) ⟨rfl, _, rfl, hk⟩
    · have hk := zOk_f c hk
      exact w_X12_agree_135_L15 M h x1 x2 x3 x4 x5 x6 x7 x8 hk
  · have hk := zOk_f c hk
    refine zr_iconst (v := (zI 0)) h dX12_agree_169 rfl ?_
    have hk := zOk_some hk
    exact zr_zret h dX12_agree_170 (by decide) ⟨rfl, _, rfl, hk⟩
noncomputable def f_X12_agree_92_L15 (M : ZMem) (x1 : Int32) (x2 : Int32) (x3 : Int32) (x4 : Int32) (x5 : Int32) (x6 : Int32) (x7 : Int32) (x8 : Int32) (v0 : Int32) : Option ((Int32) ⊕ ((Unit) ⊕ Int32)) := if x7 = x8 then f_X12_agree_104_L15 M x1 x2 x3 x4 x5 x6 x7 x8 v0 (zI 1) else f_X12_agree_104_L15 M x1 x2 x3 x4 x5 x6 x7 x8 v0 (zI 0)
set_option maxRecDepth 100000 in
set_option maxHeartbeats 4000000 in
theorem w_X12_agree_92_L15 {E : ZEv} {G : ZG} {K : Int32 → Prop} (M : ZMem) (h : zRu lyR E G (zRp M K) cX12_agree RX12 9 (some .boolean) 1) (x1 : Int32) (x2 : Int32) (x3 : Int32) (x4 : Int32) (x5 : Int32) (x6 : Int32) (x7 : Int32) (x8 : Int32) (v0 : Int32) (hk : zOk (f_X12_agree_92_L15 M x1 x2 x3 x4 x5 x6 x7 x8 v0) (zlp (fun s => G M 15 [(0, zrf E 0), (1, .int x1), (2, .int x2), (3, .int x3), (4, .int s)] []) (fun e => zsel e (fun e0 => G M 177 [(0, zrf E 0), (1, .int x1), (2, .int x2), (3, .int x3)] []) (fun f0 => K f0)))) : G M 92 [(0, zrf E 0), (1, .int x1), (2, .int x2), (3, .int x3), (4, .int x4), (5, .int x5), (6, .int x6), (7, .int x7), (8, .int x8)] [.int v0] := by
  unfold f_X12_agree_92_L15 at hk
  refine zr_iload h dX12_agree_92 7 rfl ?_
  refine zr_iload h dX12_agree_94 8 rfl ?_
  refine zr_icmp_ne (tgt := 103) h dX12_agree_96 (by decide) (fun c => ?_) (fun c => ?_)
  · have hk := zOk_t c hk
    refine zr_iconst (v := (zI 1)) h dX12_agree_99 rfl ?_
    refine zr_goto (tgt := 104) h dX12_agree_100 (by decide) ?_
    exact w_X12_agree_104_L15 M h x1 x2 x3 x4 x5 x6 x7 x8 v0 (zI 1) hk
  · have hk := zOk_f c hk
    refine zr_iconst (v := (zI 0)) h dX12_agree_103 rfl ?_
    exact w_X12_agree_104_L15 M h x1 x2 x3 x4 x5 x6 x7 x8 v0 (zI 0) hk
noncomputable def f_X12_agree_L15 (M : ZMem) (x1 : Int32) (x2 : Int32) (x3 : Int32) (s : (Int32)) : Option ((Int32) ⊕ ((Unit) ⊕ Int32)) := zchk (zin x2 5) (if (M.1 7 (zix x2)) ≤ s then some (.inr (.inl ())) else zchk (zin x1 4) (zbind (f_X12_wordSign M (M.1 26 (zix x1)) x3) (fun r_34 => zchk (zin x2 4) (zbind (f_X12_wordSign M (M.1 26 (zix x2)) s) (fun r_48 => zchk (zin (((zI 7) * x1) + x3) 35) (zbnd (M.1 8 (zix (((zI 7) * x1) + x3))) (fun x7_64 => zchk (zin (((zI 7) * x2) + s) 35) (zbnd (M.1 8 (zix (((zI 7) * x2) + s))) (fun x8_78 => if r_34 = r_48 then f_X12_agree_92_L15 M x1 x2 x3 s r_34 r_48 x7_64 x8_78 (zI 1) else f_X12_agree_92_L15 M x1 x2 x3 s r_34 r_48 x7_64 x8_78 (zI 0))))))))))
set_option maxRecDepth 100000 in
set_option maxHeartbeats 4000000 in
theorem w_X12_agree_L15 {E : ZEv} {G : ZG} {K : Int32 → Prop} (M : ZMem) (h : zRu lyR E G (zRp M K) cX12_agree RX12 9 (some .boolean) 1) (x1 : Int32) (x2 : Int32) (x3 : Int32) (s : (Int32)) (hk : zOk (zloop (f_X12_agree_L15 M x1 x2 x3) s) (fun e => zsel e (fun e0 => G M 177 [(0, zrf E 0), (1, .int x1), (2, .int x2), (3, .int x3)] []) (fun f0 => K f0))) : G M 15 [(0, zrf E 0), (1, .int x1), (2, .int x2), (3, .int x3), (4, .int s)] [] := by
  refine zloop_walk (P := fun s => G M 15 [(0, zrf E 0), (1, .int x1), (2, .int x2), (3, .int x3), (4, .int s)] []) hk (fun s hk => ?_)
  unfold f_X12_agree_L15 at hk
  refine zr_iload h dX12_agree_15 4 rfl ?_
  refine zr_aload_n h dX12_agree_17 0 rfl rfl ?_
  refine zr_getR h zfo_X12_29 lR_0 rfl dX12_agree_18 ?_
  refine zr_iload_n h dX12_agree_21 2 rfl rfl ?_
  have hb := zOk_chk hk
  have hk := hb.2
  refine zr_iald h lR_7 hb.1 dX12_agree_22 ?_
  refine zr_icmp_ge (tgt := 177) h dX12_agree_23 (by decide) (fun c => ?_) (fun c => ?_)
  · have hk := zOk_t c hk
    have hk := zOk_some hk
    exact zr_weak h [0, 1, 2, 3] rfl hk
  · have hk := zOk_f c hk
    refine zr_aload_n h dX12_agree_26 0 rfl rfl ?_
    refine zr_aload_n h dX12_agree_27 0 rfl rfl ?_
    refine zr_getR h zfo_X12_87 lR_0 rfl dX12_agree_28 ?_
    refine zr_iload_n h dX12_agree_31 1 rfl rfl ?_
    have hb := zOk_chk hk
    have hk := hb.2
    refine zr_iald h lR_26 hb.1 dX12_agree_32 ?_
    refine zr_iload_n h dX12_agree_33 3 rfl rfl ?_
    refine zr_callVp h lR_0 zcw_X12_374 (by decide) (c_X12_wordSign E M (M.1 26 (zix x1)) x3 _ (zOk_bind hk)) rfl rfl (Nat.le_of_ble_eq_true rfl) dX12_agree_34 (fun r_34 hk => ?_)
    refine zr_istore (L' := [(0, zrf E 0), (1, .int x1), (2, .int x2), (3, .int x3), (4, .int s), (5, .int r_34)]) h [1, 2, 3, 4, 5, 0] dX12_agree_37 (by decide) rfl ?_
    refine zr_aload_n h dX12_agree_39 0 rfl rfl ?_
    refine zr_aload_n h dX12_agree_40 0 rfl rfl ?_
    refine zr_getR h zfo_X12_87 lR_0 rfl dX12_agree_41 ?_
    refine zr_iload_n h dX12_agree_44 2 rfl rfl ?_
    have hb := zOk_chk hk
    have hk := hb.2
    refine zr_iald h lR_26 hb.1 dX12_agree_45 ?_
    refine zr_iload h dX12_agree_46 4 rfl ?_
    refine zr_callVp h lR_0 zcw_X12_374 (by decide) (c_X12_wordSign E M (M.1 26 (zix x2)) s _ (zOk_bind hk)) rfl rfl (Nat.le_of_ble_eq_true rfl) dX12_agree_48 (fun r_48 hk => ?_)
    refine zr_istore (L' := [(0, zrf E 0), (1, .int x1), (2, .int x2), (3, .int x3), (4, .int s), (5, .int r_34), (6, .int r_48)]) h [1, 2, 3, 4, 5, 6, 0] dX12_agree_51 (by decide) rfl ?_
    refine zr_aload_n h dX12_agree_53 0 rfl rfl ?_
    refine zr_getR h zfo_X12_32 lR_0 rfl dX12_agree_54 ?_
    refine zr_bipush (v := (zI 7)) h dX12_agree_57 (by decide) ?_
    refine zr_iload_n h dX12_agree_59 1 rfl rfl ?_
    refine zr_imul h dX12_agree_60 ?_
    refine zr_iload_n h dX12_agree_61 3 rfl rfl ?_
    refine zr_iadd h dX12_agree_62 ?_
    have hb := zOk_chk hk
    have hk := hb.2
    refine zr_iald h lR_8 hb.1 dX12_agree_63 ?_
    refine zr_topi (fun x7_64 ex => ?_)
    have hk := zOk_bnd ex hk
    refine zr_istore (L' := [(0, zrf E 0), (1, .int x1), (2, .int x2), (3, .int x3), (4, .int s), (5, .int r_34), (6, .int r_48), (7, .int x7_64)]) h [1, 2, 3, 4, 5, 6, 7, 0] dX12_agree_64 (by decide) rfl ?_
    refine zr_aload_n h dX12_agree_66 0 rfl rfl ?_
    refine zr_getR h zfo_X12_32 lR_0 rfl dX12_agree_67 ?_
    refine zr_bipush (v := (zI 7)) h dX12_agree_70 (by decide) ?_
    refine zr_iload_n h dX12_agree_72 2 rfl rfl ?_
    refine zr_imul h dX12_agree_73 ?_
    refine zr_iload h dX12_agree_74 4 rfl ?_
    refine zr_iadd h dX12_agree_76 ?_
    have hb := zOk_chk hk
    have hk := hb.2
    refine zr_iald h lR_8 hb.1 dX12_agree_77 ?_
    refine zr_topi (fun x8_78 ex => ?_)
    have hk := zOk_bnd ex hk
    refine zr_istore (L' := [(0, zrf E 0), (1, .int x1), (2, .int x2), (3, .int x3), (4, .int s), (5, .int r_34), (6, .int r_48), (7, .int x7_64), (8, .int x8_78)]) h [1, 2, 3, 4, 5, 6, 7, 8, 0] dX12_agree_78 (by decide) rfl ?_
    refine zr_iload h dX12_agree_80 5 rfl ?_
    refine zr_iload h dX12_agree_82 6 rfl ?_
    refine zr_icmp_ne (tgt := 91) h dX12_agree_84 (by decide) (fun c => ?_) (fun c => ?_)
    · have hk := zOk_t c hk
      refine zr_iconst (v := (zI 1)) h dX12_agree_87 rfl ?_
      refine zr_goto (tgt := 92) h dX12_agree_88 (by decide) ?_
      exact w_X12_agree_92_L15 M h x1 x2 x3 s r_34 r_48 x7_64 x8_78 (zI 1) hk
    · have hk := zOk_f c hk
      refine zr_iconst (v := (zI 0)) h dX12_agree_91 rfl ?_
      exact w_X12_agree_92_L15 M h x1 x2 x3 s r_34 r_48 x7_64 x8_78 (zI 0) hk
noncomputable def f_X12_agree_L2 (M : ZMem) (x1 : Int32) (x2 : Int32) (s : (Int32)) : Option ((Int32) ⊕ ((Unit) ⊕ Int32)) := zchk (zin x1 5) (if (M.1 7 (zix x1)) ≤ s then some (.inr (.inl ())) else zbind (zloop (f_X12_agree_L15 M x1 x2 s) (zI 0)) (fun e15 => zsel e15 (fun e15a => zbnd (s + (zI 1)) (fun x3_177 => some (.inl x3_177))) (fun e15b => some (.inr (.inr e15b)))))
set_option maxRecDepth 100000 in
set_option maxHeartbeats 4000000 in
theorem w_X12_agree_L2 {E : ZEv} {G : ZG} {K : Int32 → Prop} (M : ZMem) (h : zRu lyR E G (zRp M K) cX12_agree RX12 9 (some .boolean) 1) (x1 : Int32) (x2 : Int32) (s : (Int32)) (hk : zOk (zloop (f_X12_agree_L2 M x1 x2) s) (fun e => zsel e (fun e0 => G M 183 [] []) (fun f0 => K f0))) : G M 2 [(0, zrf E 0), (1, .int x1), (2, .int x2), (3, .int s)] [] := by
  refine zloop_walk (P := fun s => G M 2 [(0, zrf E 0), (1, .int x1), (2, .int x2), (3, .int s)] []) hk (fun s hk => ?_)
  unfold f_X12_agree_L2 at hk
  refine zr_iload_n h dX12_agree_2 3 rfl rfl ?_
  refine zr_aload_n h dX12_agree_3 0 rfl rfl ?_
  refine zr_getR h zfo_X12_29 lR_0 rfl dX12_agree_4 ?_
  refine zr_iload_n h dX12_agree_7 1 rfl rfl ?_
  have hb := zOk_chk hk
  have hk := hb.2
  refine zr_iald h lR_7 hb.1 dX12_agree_8 ?_
  refine zr_icmp_ge (tgt := 183) h dX12_agree_9 (by decide) (fun c => ?_) (fun c => ?_)
  · have hk := zOk_t c hk
    have hk := zOk_some hk
    exact zr_weak h [] rfl hk
  · have hk := zOk_f c hk
    refine zr_iconst (v := (zI 0)) h dX12_agree_12 rfl ?_
    refine zr_istore (L' := [(0, zrf E 0), (1, .int x1), (2, .int x2), (3, .int s), (4, .int (zI 0))]) h [1, 2, 3, 4, 0] dX12_agree_13 (by decide) rfl ?_
    refine w_X12_agree_L15 M h x1 x2 s (zI 0) (zOk_mono (zOk_bind hk) (fun e15 hk => ?_))
    cases e15 with
    | inl e15a =>
      have hk := zOk_selL hk
      obtain ⟨x3_177, ex⟩ : ∃ y : Int32, y = s + (zI 1) := ⟨_, rfl⟩
      have hk := zOk_bnd ex hk
      refine zr_iinc (v := x3_177) (L' := [(0, zrf E 0), (1, .int x1), (2, .int x2), (3, .int x3_177)]) h 3 [1, 2, 3, 0] dX12_agree_177 rfl (by rw [ex]; rfl) (by decide) rfl ?_
      refine zr_goto (tgt := 2) h dX12_agree_180 (by decide) ?_
      have hk := zOk_some hk
      exact zr_weak h [0, 1, 2, 3] rfl hk
    | inr e15b =>
      have hk := zOk_selR hk
      have hk := zOk_some hk
      exact hk
noncomputable def f_X12_agree (M : ZMem) (x1 : Int32) (x2 : Int32) : Option Int32 := zbind (zloop (f_X12_agree_L2 M x1 x2) (zI 0)) (fun e2 => zsel e2 (fun e2a => some (zI 1)) (fun e2b => some e2b))
set_option maxRecDepth 100000 in
set_option maxHeartbeats 4000000 in
theorem c_X12_agree (E : ZEv) (M : ZMem) (x1 : Int32) (x2 : Int32) (K : Int32 → Prop) (hk : zOk (f_X12_agree M x1 x2) K) : zCon lyR E yX12_agree cX12_agree 9 (some .boolean) 1 [zrf E 0, .int x1, .int x2] M (zRp M K) := by
  refine zcon_of (L0 := [(0, zrf E 0), (1, .int x1), (2, .int x2)]) (by decide) rfl (Nat.le_of_ble_eq_true rfl) (fun G h => ?_)
  have h : zRu lyR E G (zRp M K) cX12_agree RX12 9 (some .boolean) 1 := h
  unfold f_X12_agree at hk
  refine zr_iconst (v := (zI 0)) h dX12_agree_0 rfl ?_
  refine zr_istore_n (L' := [(0, zrf E 0), (1, .int x1), (2, .int x2), (3, .int (zI 0))]) h [1, 2, 3, 0] dX12_agree_1 rfl (by decide) rfl ?_
  refine w_X12_agree_L2 M h x1 x2 (zI 0) (zOk_mono (zOk_bind hk) (fun e2 hk => ?_))
  cases e2 with
  | inl e2a =>
    have hk := zOk_selL hk
    refine zr_iconst (v := (zI 1)) h dX12_agree_183 rfl ?_
    have hk := zOk_some hk
    exact zr_zret h dX12_agree_184 (by decide) ⟨rfl, _, rfl, hk⟩
  | inr e2b =>
    have hk := zOk_selR hk
    have hk := zOk_some hk
    exact hk
theorem dX12_canBe_0 : decode cX12_canBe 0 = .ok (.aload_n 0, 1) := by decide +kernel
theorem dX12_canBe_1 : decode cX12_canBe 1 = .ok (.aload_n 0, 1) := by decide +kernel
theorem dX12_canBe_2 : decode cX12_canBe 2 = .ok (.getfield 87, 3) := by decide +kernel
theorem dX12_canBe_5 : decode cX12_canBe 5 = .ok (.iload_n 1, 1) := by decide +kernel
theorem dX12_canBe_6 : decode cX12_canBe 6 = .ok (.iaload, 1) := by decide +kernel
theorem dX12_canBe_7 : decode cX12_canBe 7 = .ok (.iload_n 1, 1) := by decide +kernel
theorem dX12_canBe_8 : decode cX12_canBe 8 = .ok (.invokevirtual 377, 3) := by decide +kernel
theorem dX12_canBe_11 : decode cX12_canBe 11 = .ok (.ifCond .ne 5, 3) := by decide +kernel
theorem dX12_canBe_14 : decode cX12_canBe 14 = .ok (.iconst 0, 1) := by decide +kernel
theorem dX12_canBe_15 : decode cX12_canBe 15 = .ok (.ireturn, 1) := by decide +kernel
theorem dX12_canBe_16 : decode cX12_canBe 16 = .ok (.iconst 0, 1) := by decide +kernel
theorem dX12_canBe_17 : decode cX12_canBe 17 = .ok (.istore_n 2, 1) := by decide +kernel
theorem dX12_canBe_18 : decode cX12_canBe 18 = .ok (.iload_n 2, 1) := by decide +kernel
theorem dX12_canBe_19 : decode cX12_canBe 19 = .ok (.iload_n 1, 1) := by decide +kernel
theorem dX12_canBe_20 : decode cX12_canBe 20 = .ok (.if_icmp .gt 40, 3) := by decide +kernel
theorem dX12_canBe_23 : decode cX12_canBe 23 = .ok (.iload_n 2, 1) := by decide +kernel
theorem dX12_canBe_24 : decode cX12_canBe 24 = .ok (.iload_n 1, 1) := by decide +kernel
theorem dX12_canBe_25 : decode cX12_canBe 25 = .ok (.if_icmp .ge 18, 3) := by decide +kernel
theorem dX12_canBe_28 : decode cX12_canBe 28 = .ok (.aload_n 0, 1) := by decide +kernel
theorem dX12_canBe_29 : decode cX12_canBe 29 = .ok (.getfield 87, 3) := by decide +kernel
theorem dX12_canBe_32 : decode cX12_canBe 32 = .ok (.iload_n 2, 1) := by decide +kernel
theorem dX12_canBe_33 : decode cX12_canBe 33 = .ok (.iaload, 1) := by decide +kernel
theorem dX12_canBe_34 : decode cX12_canBe 34 = .ok (.aload_n 0, 1) := by decide +kernel
theorem dX12_canBe_35 : decode cX12_canBe 35 = .ok (.getfield 87, 3) := by decide +kernel
theorem dX12_canBe_38 : decode cX12_canBe 38 = .ok (.iload_n 1, 1) := by decide +kernel
theorem dX12_canBe_39 : decode cX12_canBe 39 = .ok (.iaload, 1) := by decide +kernel
theorem dX12_canBe_40 : decode cX12_canBe 40 = .ok (.if_icmp .eq 12, 3) := by decide +kernel
theorem dX12_canBe_43 : decode cX12_canBe 43 = .ok (.aload_n 0, 1) := by decide +kernel
theorem dX12_canBe_44 : decode cX12_canBe 44 = .ok (.iload_n 1, 1) := by decide +kernel
theorem dX12_canBe_45 : decode cX12_canBe 45 = .ok (.iload_n 2, 1) := by decide +kernel
theorem dX12_canBe_46 : decode cX12_canBe 46 = .ok (.invokevirtual 383, 3) := by decide +kernel
theorem dX12_canBe_49 : decode cX12_canBe 49 = .ok (.ifCond .ne 5, 3) := by decide +kernel
theorem dX12_canBe_52 : decode cX12_canBe 52 = .ok (.iconst 0, 1) := by decide +kernel
theorem dX12_canBe_53 : decode cX12_canBe 53 = .ok (.ireturn, 1) := by decide +kernel
theorem dX12_canBe_54 : decode cX12_canBe 54 = .ok (.iinc 2 1, 3) := by decide +kernel
theorem dX12_canBe_57 : decode cX12_canBe 57 = .ok (.goto (-39), 3) := by decide +kernel
theorem dX12_canBe_60 : decode cX12_canBe 60 = .ok (.iconst 1, 1) := by decide +kernel
theorem dX12_canBe_61 : decode cX12_canBe 61 = .ok (.ireturn, 1) := by decide +kernel
noncomputable def f_X12_canBe_43_L18 (M : ZMem) (x1 : Int32) (x2 : Int32) : Option ((Int32) ⊕ ((Unit) ⊕ Int32)) := zbind (f_X12_agree M x1 x2) (fun r_46 => if r_46 = (zI 0) then some (.inr (.inr (zI 0))) else zbnd (x2 + (zI 1)) (fun x2_54 => some (.inl x2_54)))
set_option maxRecDepth 100000 in
set_option maxHeartbeats 4000000 in
theorem w_X12_canBe_43_L18 {E : ZEv} {G : ZG} {K : Int32 → Prop} (M : ZMem) (h : zRu lyR E G (zRp M K) cX12_canBe RX12 3 (some .boolean) 2) (x1 : Int32) (x2 : Int32) (hk : zOk (f_X12_canBe_43_L18 M x1 x2) (zlp (fun s => G M 18 [(0, zrf E 0), (1, .int x1), (2, .int s)] []) (fun e => zsel e (fun e0 => G M 60 [] []) (fun f0 => K f0)))) : G M 43 [(0, zrf E 0), (1, .int x1), (2, .int x2)] [] := by
  unfold f_X12_canBe_43_L18 at hk
  refine zr_aload_n h dX12_canBe_43 0 rfl rfl ?_
  refine zr_iload_n h dX12_canBe_44 1 rfl rfl ?_
  refine zr_iload_n h dX12_canBe_45 2 rfl rfl ?_
  refine zr_callVp h lR_0 zcw_X12_383 (by decide) (c_X12_agree E M x1 x2 _ (zOk_bind hk)) rfl rfl (Nat.le_of_ble_eq_true rfl) dX12_canBe_46 (fun r_46 hk => ?_)
  refine zr_if_ne (tgt := 54) h dX12_canBe_49 (by decide) (fun c => ?_) (fun c => ?_)
  · have hk := zOk_t c hk
    refine zr_iconst (v := (zI 0)) h dX12_canBe_52 rfl ?_
    have hk := zOk_some hk
    exact zr_zret h dX12_canBe_53 (by decide) ⟨rfl, _, rfl, hk⟩
  · have hk := zOk_f c hk
    obtain ⟨x2_54, ex⟩ : ∃ y : Int32, y = x2 + (zI 1) := ⟨_, rfl⟩
    have hk := zOk_bnd ex hk
    refine zr_iinc (v := x2_54) (L' := [(0, zrf E 0), (1, .int x1), (2, .int x2_54)]) h 2 [1, 2, 0] dX12_canBe_54 rfl (by rw [ex]; rfl) (by decide) rfl ?_
    refine zr_goto (tgt := 18) h dX12_canBe_57 (by decide) ?_
    have hk := zOk_some hk
    exact zr_weak h [0, 1, 2] rfl hk
noncomputable def f_X12_canBe_L18 (M : ZMem) (x1 : Int32) (s : (Int32)) : Option ((Int32) ⊕ ((Unit) ⊕ Int32)) := if x1 < s then some (.inr (.inl ())) else if x1 ≤ s then f_X12_canBe_43_L18 M x1 s else zchk (zin s 4) (zchk (zin x1 4) (if (M.1 26 (zix s)) = (M.1 26 (zix x1)) then some (.inr (.inr (zI 0))) else f_X12_canBe_43_L18 M x1 s))
set_option maxRecDepth 100000 in
set_option maxHeartbeats 4000000 in
theorem w_X12_canBe_L18 {E : ZEv} {G : ZG} {K : Int32 → Prop} (M : ZMem) (h : zRu lyR E G (zRp M K) cX12_canBe RX12 3 (some .boolean) 2) (x1 : Int32) (s : (Int32)) (hk : zOk (zloop (f_X12_canBe_L18 M x1) s) (fun e => zsel e (fun e0 => G M 60 [] []) (fun f0 => K f0))) : G M 18 [(0, zrf E 0), (1, .int x1), (2, .int s)] [] := by
  refine zloop_walk (P := fun s => G M 18 [(0, zrf E 0), (1, .int x1), (2, .int s)] []) hk (fun s hk => ?_)
  unfold f_X12_canBe_L18 at hk
  refine zr_iload_n h dX12_canBe_18 2 rfl rfl ?_
  refine zr_iload_n h dX12_canBe_19 1 rfl rfl ?_
  refine zr_icmp_gt (tgt := 60) h dX12_canBe_20 (by decide) (fun c => ?_) (fun c => ?_)
  · have hk := zOk_t c hk
    have hk := zOk_some hk
    exact zr_weak h [] rfl hk
  · have hk := zOk_f c hk
    refine zr_iload_n h dX12_canBe_23 2 rfl rfl ?_
    refine zr_iload_n h dX12_canBe_24 1 rfl rfl ?_
    refine zr_icmp_ge (tgt := 43) h dX12_canBe_25 (by decide) (fun c => ?_) (fun c => ?_)
    · have hk := zOk_t c hk
      exact w_X12_canBe_43_L18 M h x1 s hk
    · have hk := zOk_f c hk
      refine zr_aload_n h dX12_canBe_28 0 rfl rfl ?_
      refine zr_getR h zfo_X12_87 lR_0 rfl dX12_canBe_29 ?_
      refine zr_iload_n h dX12_canBe_32 2 rfl rfl ?_
      have hb := zOk_chk hk
      have hk := hb.2
      refine zr_iald h lR_26 hb.1 dX12_canBe_33 ?_
      refine zr_aload_n h dX12_canBe_34 0 rfl rfl ?_
      refine zr_getR h zfo_X12_87 lR_0 rfl dX12_canBe_35 ?_
      refine zr_iload_n h dX12_canBe_38 1 rfl rfl ?_
      have hb := zOk_chk hk
      have hk := hb.2
      refine zr_iald h lR_26 hb.1 dX12_canBe_39 ?_
      refine zr_icmp_eq (tgt := 52) h dX12_canBe_40 (by decide) (fun c => ?_) (fun c => ?_)
      · have hk := zOk_t c hk
        refine zr_iconst (v := (zI 0)) h dX12_canBe_52 rfl ?_
        have hk := zOk_some hk
        exact zr_zret h dX12_canBe_53 (by decide) ⟨rfl, _, rfl, hk⟩
      · have hk := zOk_f c hk
        exact w_X12_canBe_43_L18 M h x1 s hk
noncomputable def f_X12_canBe (M : ZMem) (x1 : Int32) : Option Int32 := zchk (zin x1 4) (zbind (f_X12_fitsName M (M.1 26 (zix x1)) x1) (fun r_8 => if r_8 = (zI 0) then some (zI 0) else zbind (zloop (f_X12_canBe_L18 M x1) (zI 0)) (fun e18 => zsel e18 (fun e18a => some (zI 1)) (fun e18b => some e18b))))
set_option maxRecDepth 100000 in
set_option maxHeartbeats 4000000 in
theorem c_X12_canBe (E : ZEv) (M : ZMem) (x1 : Int32) (K : Int32 → Prop) (hk : zOk (f_X12_canBe M x1) K) : zCon lyR E yX12_canBe cX12_canBe 3 (some .boolean) 2 [zrf E 0, .int x1] M (zRp M K) := by
  refine zcon_of (L0 := [(0, zrf E 0), (1, .int x1)]) (by decide) rfl (Nat.le_of_ble_eq_true rfl) (fun G h => ?_)
  have h : zRu lyR E G (zRp M K) cX12_canBe RX12 3 (some .boolean) 2 := h
  unfold f_X12_canBe at hk
  refine zr_aload_n h dX12_canBe_0 0 rfl rfl ?_
  refine zr_aload_n h dX12_canBe_1 0 rfl rfl ?_
  refine zr_getR h zfo_X12_87 lR_0 rfl dX12_canBe_2 ?_
  refine zr_iload_n h dX12_canBe_5 1 rfl rfl ?_
  have hb := zOk_chk hk
  have hk := hb.2
  refine zr_iald h lR_26 hb.1 dX12_canBe_6 ?_
  refine zr_iload_n h dX12_canBe_7 1 rfl rfl ?_
  refine zr_callVp h lR_0 zcw_X12_377 (by decide) (c_X12_fitsName E M (M.1 26 (zix x1)) x1 _ (zOk_bind hk)) rfl rfl (Nat.le_of_ble_eq_true rfl) dX12_canBe_8 (fun r_8 hk => ?_)
  refine zr_if_ne (tgt := 16) h dX12_canBe_11 (by decide) (fun c => ?_) (fun c => ?_)
  · have hk := zOk_t c hk
    refine zr_iconst (v := (zI 0)) h dX12_canBe_14 rfl ?_
    have hk := zOk_some hk
    exact zr_zret h dX12_canBe_15 (by decide) ⟨rfl, _, rfl, hk⟩
  · have hk := zOk_f c hk
    refine zr_iconst (v := (zI 0)) h dX12_canBe_16 rfl ?_
    refine zr_istore_n (L' := [(0, zrf E 0), (1, .int x1), (2, .int (zI 0))]) h [1, 2, 0] dX12_canBe_17 rfl (by decide) rfl ?_
    refine w_X12_canBe_L18 M h x1 (zI 0) (zOk_mono (zOk_bind hk) (fun e18 hk => ?_))
    cases e18 with
    | inl e18a =>
      have hk := zOk_selL hk
      refine zr_iconst (v := (zI 1)) h dX12_canBe_60 rfl ?_
      have hk := zOk_some hk
      exact zr_zret h dX12_canBe_61 (by decide) ⟨rfl, _, rfl, hk⟩
    | inr e18b =>
      have hk := zOk_selR hk
      have hk := zOk_some hk
      exact hk
theorem dX12_takesWay_0 : decode cX12_takesWay 0 = .ok (.iconst 0, 1) := by decide +kernel
theorem dX12_takesWay_1 : decode cX12_takesWay 1 = .ok (.istore_n 1, 1) := by decide +kernel
theorem dX12_takesWay_2 : decode cX12_takesWay 2 = .ok (.iload_n 1, 1) := by decide +kernel
theorem dX12_takesWay_3 : decode cX12_takesWay 3 = .ok (.aload_n 0, 1) := by decide +kernel
theorem dX12_takesWay_4 : decode cX12_takesWay 4 = .ok (.getfield 203, 3) := by decide +kernel
theorem dX12_takesWay_7 : decode cX12_takesWay 7 = .ok (.if_icmp .ge 28, 3) := by decide +kernel
theorem dX12_takesWay_10 : decode cX12_takesWay 10 = .ok (.aload_n 0, 1) := by decide +kernel
theorem dX12_takesWay_11 : decode cX12_takesWay 11 = .ok (.getfield 386, 3) := by decide +kernel
theorem dX12_takesWay_14 : decode cX12_takesWay 14 = .ok (.ifCond .ne 21, 3) := by decide +kernel
theorem dX12_takesWay_17 : decode cX12_takesWay 17 = .ok (.aload_n 0, 1) := by decide +kernel
theorem dX12_takesWay_18 : decode cX12_takesWay 18 = .ok (.getfield 90, 3) := by decide +kernel
theorem dX12_takesWay_21 : decode cX12_takesWay 21 = .ok (.iload_n 1, 1) := by decide +kernel
theorem dX12_takesWay_22 : decode cX12_takesWay 22 = .ok (.aload_n 0, 1) := by decide +kernel
theorem dX12_takesWay_23 : decode cX12_takesWay 23 = .ok (.getfield 87, 3) := by decide +kernel
theorem dX12_takesWay_26 : decode cX12_takesWay 26 = .ok (.iload_n 1, 1) := by decide +kernel
theorem dX12_takesWay_27 : decode cX12_takesWay 27 = .ok (.iaload, 1) := by decide +kernel
theorem dX12_takesWay_28 : decode cX12_takesWay 28 = .ok (.iastore, 1) := by decide +kernel
theorem dX12_takesWay_29 : decode cX12_takesWay 29 = .ok (.iinc 1 1, 3) := by decide +kernel
theorem dX12_takesWay_32 : decode cX12_takesWay 32 = .ok (.goto (-30), 3) := by decide +kernel
theorem dX12_takesWay_35 : decode cX12_takesWay 35 = .ok (.aload_n 0, 1) := by decide +kernel
theorem dX12_takesWay_36 : decode cX12_takesWay 36 = .ok (.dup, 1) := by decide +kernel
theorem dX12_takesWay_37 : decode cX12_takesWay 37 = .ok (.getfield 386, 3) := by decide +kernel
theorem dX12_takesWay_40 : decode cX12_takesWay 40 = .ok (.iconst 1, 1) := by decide +kernel
theorem dX12_takesWay_41 : decode cX12_takesWay 41 = .ok (.iadd, 1) := by decide +kernel
theorem dX12_takesWay_42 : decode cX12_takesWay 42 = .ok (.putfield 386, 3) := by decide +kernel
theorem dX12_takesWay_45 : decode cX12_takesWay 45 = .ok (.return_, 1) := by decide +kernel
noncomputable def f_X12_takesWay_L2 (s : (ZMem × Int32)) : Option ((ZMem × Int32) ⊕ (ZMem)) := if (s.1.1 0 12) ≤ s.2 then some (.inr s.1) else if (s.1.1 0 40) = (zI 0) then zchk (zin s.2 4) (zchk (zin s.2 4) (zbnd (zstI s.1 27 (zix s.2) (s.1.1 26 (zix s.2))) (fun M_28 => zbnd (s.2 + (zI 1)) (fun x1_29 => some (.inl (M_28, x1_29)))))) else some (.inr s.1)
set_option maxRecDepth 100000 in
set_option maxHeartbeats 4000000 in
theorem w_X12_takesWay_L2 {E : ZEv} {G : ZG} {K : ZMem → Prop} (h : zRu lyR E G (zRv K) cX12_takesWay RX12 2 none 0) (s : (ZMem × Int32)) (hk : zOk (zloop (f_X12_takesWay_L2) s) (fun e => G e 35 [(0, zrf E 0)] [])) : G s.1 2 [(0, zrf E 0), (1, .int s.2)] [] := by
  refine zloop_walk (P := fun s => G s.1 2 [(0, zrf E 0), (1, .int s.2)] []) hk (fun s hk => ?_)
  unfold f_X12_takesWay_L2 at hk
  refine zr_iload_n h dX12_takesWay_2 1 rfl rfl ?_
  refine zr_aload_n h dX12_takesWay_3 0 rfl rfl ?_
  refine zr_getI h zfo_X12_203 lR_0 rfl dX12_takesWay_4 ?_
  refine zr_icmp_ge (tgt := 35) h dX12_takesWay_7 (by decide) (fun c => ?_) (fun c => ?_)
  · have hk := zOk_t c hk
    have hk := zOk_some hk
    exact zr_weak h [0] rfl hk
  · have hk := zOk_f c hk
    refine zr_aload_n h dX12_takesWay_10 0 rfl rfl ?_
    refine zr_getI h zfo_X12_386 lR_0 rfl dX12_takesWay_11 ?_
    refine zr_if_ne (tgt := 35) h dX12_takesWay_14 (by decide) (fun c => ?_) (fun c => ?_)
    · have hk := zOk_t c hk
      refine zr_aload_n h dX12_takesWay_17 0 rfl rfl ?_
      refine zr_getR h zfo_X12_90 lR_0 rfl dX12_takesWay_18 ?_
      refine zr_iload_n h dX12_takesWay_21 1 rfl rfl ?_
      refine zr_aload_n h dX12_takesWay_22 0 rfl rfl ?_
      refine zr_getR h zfo_X12_87 lR_0 rfl dX12_takesWay_23 ?_
      refine zr_iload_n h dX12_takesWay_26 1 rfl rfl ?_
      have hb := zOk_chk hk
      have hk := hb.2
      refine zr_iald h lR_26 hb.1 dX12_takesWay_27 ?_
      have hb := zOk_chk hk
      have hk := hb.2
      refine zr_iast h lR_27 hb.1 dX12_takesWay_28 ?_
      refine zr_mem (fun M_28 eM => ?_)
      have hk := zOk_bnd eM hk
      obtain ⟨x1_29, ex⟩ : ∃ y : Int32, y = s.2 + (zI 1) := ⟨_, rfl⟩
      have hk := zOk_bnd ex hk
      refine zr_iinc (v := x1_29) (L' := [(0, zrf E 0), (1, .int x1_29)]) h 1 [1, 0] dX12_takesWay_29 rfl (by rw [ex]; rfl) (by decide) rfl ?_
      refine zr_goto (tgt := 2) h dX12_takesWay_32 (by decide) ?_
      have hk := zOk_some hk
      exact zr_weak h [0, 1] rfl hk
    · have hk := zOk_f c hk
      have hk := zOk_some hk
      exact zr_weak h [0] rfl hk
noncomputable def f_X12_takesWay (M : ZMem) : Option ZMem := zbind (zloop (f_X12_takesWay_L2) (M, (zI 0))) (fun e2 => zbnd (zstI e2 0 40 ((e2.1 0 40) + (zI 1))) (fun M_42 => some M_42))
set_option maxRecDepth 100000 in
set_option maxHeartbeats 4000000 in
theorem c_X12_takesWay (E : ZEv) (M : ZMem) (K : ZMem → Prop) (hk : zOk (f_X12_takesWay M) K) : zCon lyR E yX12_takesWay cX12_takesWay 2 none 0 [zrf E 0] M (zRv K) := by
  refine zcon_of (L0 := [(0, zrf E 0)]) (by decide) rfl (Nat.le_of_ble_eq_true rfl) (fun G h => ?_)
  have h : zRu lyR E G (zRv K) cX12_takesWay RX12 2 none 0 := h
  unfold f_X12_takesWay at hk
  refine zr_iconst (v := (zI 0)) h dX12_takesWay_0 rfl ?_
  refine zr_istore_n (L' := [(0, zrf E 0), (1, .int (zI 0))]) h [1, 0] dX12_takesWay_1 rfl (by decide) rfl ?_
  refine w_X12_takesWay_L2 h (M, (zI 0)) (zOk_mono (zOk_bind hk) (fun e2 hk => ?_))
  refine zr_aload_n h dX12_takesWay_35 0 rfl rfl ?_
  refine zr_dup h dX12_takesWay_36 rfl ?_
  refine zr_getI h zfo_X12_386 lR_0 rfl dX12_takesWay_37 ?_
  refine zr_iconst (v := (zI 1)) h dX12_takesWay_40 rfl ?_
  refine zr_iadd h dX12_takesWay_41 ?_
  refine zr_putI h zfp_X12_386 lR_0 rfl dX12_takesWay_42 ?_
  refine zr_mem (fun M_42 eM => ?_)
  have hk := zOk_bnd eM hk
  have hk := zOk_some hk
  exact zr_vret h dX12_takesWay_45 ⟨rfl, hk⟩
theorem dX12_laysWays_0 : decode cX12_laysWays 0 = .ok (.aload_n 0, 1) := by decide +kernel
theorem dX12_laysWays_1 : decode cX12_laysWays 1 = .ok (.iconst 0, 1) := by decide +kernel
theorem dX12_laysWays_2 : decode cX12_laysWays 2 = .ok (.putfield 386, 3) := by decide +kernel
theorem dX12_laysWays_5 : decode cX12_laysWays 5 = .ok (.aload_n 0, 1) := by decide +kernel
theorem dX12_laysWays_6 : decode cX12_laysWays 6 = .ok (.getfield 203, 3) := by decide +kernel
theorem dX12_laysWays_9 : decode cX12_laysWays 9 = .ok (.ifCond .ne 9, 3) := by decide +kernel
theorem dX12_laysWays_12 : decode cX12_laysWays 12 = .ok (.aload_n 0, 1) := by decide +kernel
theorem dX12_laysWays_13 : decode cX12_laysWays 13 = .ok (.iconst 1, 1) := by decide +kernel
theorem dX12_laysWays_14 : decode cX12_laysWays 14 = .ok (.putfield 386, 3) := by decide +kernel
theorem dX12_laysWays_17 : decode cX12_laysWays 17 = .ok (.return_, 1) := by decide +kernel
theorem dX12_laysWays_18 : decode cX12_laysWays 18 = .ok (.iconst 0, 1) := by decide +kernel
theorem dX12_laysWays_19 : decode cX12_laysWays 19 = .ok (.istore_n 1, 1) := by decide +kernel
theorem dX12_laysWays_20 : decode cX12_laysWays 20 = .ok (.aload_n 0, 1) := by decide +kernel
theorem dX12_laysWays_21 : decode cX12_laysWays 21 = .ok (.getfield 87, 3) := by decide +kernel
theorem dX12_laysWays_24 : decode cX12_laysWays 24 = .ok (.iconst 0, 1) := by decide +kernel
theorem dX12_laysWays_25 : decode cX12_laysWays 25 = .ok (.iconst (-1), 1) := by decide +kernel
theorem dX12_laysWays_26 : decode cX12_laysWays 26 = .ok (.iastore, 1) := by decide +kernel
theorem dX12_laysWays_27 : decode cX12_laysWays 27 = .ok (.iload_n 1, 1) := by decide +kernel
theorem dX12_laysWays_28 : decode cX12_laysWays 28 = .ok (.ifCond .lt 80, 3) := by decide +kernel
theorem dX12_laysWays_31 : decode cX12_laysWays 31 = .ok (.aload_n 0, 1) := by decide +kernel
theorem dX12_laysWays_32 : decode cX12_laysWays 32 = .ok (.getfield 386, 3) := by decide +kernel
theorem dX12_laysWays_35 : decode cX12_laysWays 35 = .ok (.sipush 999, 3) := by decide +kernel
theorem dX12_laysWays_38 : decode cX12_laysWays 38 = .ok (.if_icmp .ge 70, 3) := by decide +kernel
theorem dX12_laysWays_41 : decode cX12_laysWays 41 = .ok (.aload_n 0, 1) := by decide +kernel
theorem dX12_laysWays_42 : decode cX12_laysWays 42 = .ok (.getfield 87, 3) := by decide +kernel
theorem dX12_laysWays_45 : decode cX12_laysWays 45 = .ok (.iload_n 1, 1) := by decide +kernel
theorem dX12_laysWays_46 : decode cX12_laysWays 46 = .ok (.dup2, 1) := by decide +kernel
theorem dX12_laysWays_47 : decode cX12_laysWays 47 = .ok (.iaload, 1) := by decide +kernel
theorem dX12_laysWays_48 : decode cX12_laysWays 48 = .ok (.iconst 1, 1) := by decide +kernel
theorem dX12_laysWays_49 : decode cX12_laysWays 49 = .ok (.iadd, 1) := by decide +kernel
theorem dX12_laysWays_50 : decode cX12_laysWays 50 = .ok (.iastore, 1) := by decide +kernel
theorem dX12_laysWays_51 : decode cX12_laysWays 51 = .ok (.aload_n 0, 1) := by decide +kernel
theorem dX12_laysWays_52 : decode cX12_laysWays 52 = .ok (.getfield 87, 3) := by decide +kernel
theorem dX12_laysWays_55 : decode cX12_laysWays 55 = .ok (.iload_n 1, 1) := by decide +kernel
theorem dX12_laysWays_56 : decode cX12_laysWays 56 = .ok (.iaload, 1) := by decide +kernel
theorem dX12_laysWays_57 : decode cX12_laysWays 57 = .ok (.aload_n 0, 1) := by decide +kernel
theorem dX12_laysWays_58 : decode cX12_laysWays 58 = .ok (.getfield 302, 3) := by decide +kernel
theorem dX12_laysWays_61 : decode cX12_laysWays 61 = .ok (.if_icmp .lt 9, 3) := by decide +kernel
theorem dX12_laysWays_64 : decode cX12_laysWays 64 = .ok (.iinc 1 (-1), 3) := by decide +kernel
theorem dX12_laysWays_67 : decode cX12_laysWays 67 = .ok (.goto (-40), 3) := by decide +kernel
theorem dX12_laysWays_70 : decode cX12_laysWays 70 = .ok (.aload_n 0, 1) := by decide +kernel
theorem dX12_laysWays_71 : decode cX12_laysWays 71 = .ok (.iload_n 1, 1) := by decide +kernel
theorem dX12_laysWays_72 : decode cX12_laysWays 72 = .ok (.invokevirtual 389, 3) := by decide +kernel
theorem dX12_laysWays_75 : decode cX12_laysWays 75 = .ok (.ifCond .eq (-48), 3) := by decide +kernel
theorem dX12_laysWays_78 : decode cX12_laysWays 78 = .ok (.iload_n 1, 1) := by decide +kernel
theorem dX12_laysWays_79 : decode cX12_laysWays 79 = .ok (.aload_n 0, 1) := by decide +kernel
theorem dX12_laysWays_80 : decode cX12_laysWays 80 = .ok (.getfield 203, 3) := by decide +kernel
theorem dX12_laysWays_83 : decode cX12_laysWays 83 = .ok (.iconst 1, 1) := by decide +kernel
theorem dX12_laysWays_84 : decode cX12_laysWays 84 = .ok (.isub, 1) := by decide +kernel
theorem dX12_laysWays_85 : decode cX12_laysWays 85 = .ok (.if_icmp .ne 10, 3) := by decide +kernel
theorem dX12_laysWays_88 : decode cX12_laysWays 88 = .ok (.aload_n 0, 1) := by decide +kernel
theorem dX12_laysWays_89 : decode cX12_laysWays 89 = .ok (.invokevirtual 392, 3) := by decide +kernel
theorem dX12_laysWays_92 : decode cX12_laysWays 92 = .ok (.goto (-65), 3) := by decide +kernel
theorem dX12_laysWays_95 : decode cX12_laysWays 95 = .ok (.iinc 1 1, 3) := by decide +kernel
theorem dX12_laysWays_98 : decode cX12_laysWays 98 = .ok (.aload_n 0, 1) := by decide +kernel
theorem dX12_laysWays_99 : decode cX12_laysWays 99 = .ok (.getfield 87, 3) := by decide +kernel
theorem dX12_laysWays_102 : decode cX12_laysWays 102 = .ok (.iload_n 1, 1) := by decide +kernel
theorem dX12_laysWays_103 : decode cX12_laysWays 103 = .ok (.iconst (-1), 1) := by decide +kernel
theorem dX12_laysWays_104 : decode cX12_laysWays 104 = .ok (.iastore, 1) := by decide +kernel
theorem dX12_laysWays_105 : decode cX12_laysWays 105 = .ok (.goto (-78), 3) := by decide +kernel
theorem dX12_laysWays_108 : decode cX12_laysWays 108 = .ok (.return_, 1) := by decide +kernel
noncomputable def f_X12_laysWays_L27 (s : (ZMem × Int32)) : Option ((ZMem × Int32) ⊕ (ZMem)) := if s.2 < (zI 0) then some (.inr s.1) else if (zI 999) ≤ (s.1.1 0 40) then some (.inr s.1) else zchk (zin s.2 4) (zchk (zin s.2 4) (zbnd (zstI s.1 26 (zix s.2) ((s.1.1 26 (zix s.2)) + (zI 1))) (fun M_50 => zchk (zin s.2 4) (if (M_50.1 26 (zix s.2)) < (M_50.1 0 25) then zbind (f_X12_canBe M_50 s.2) (fun r_72 => if r_72 = (zI 0) then some (.inl (M_50, s.2)) else if s.2 = ((M_50.1 0 12) - (zI 1)) then zbind (f_X12_takesWay M_50) (fun M_89 => some (.inl (M_89, s.2))) else zbnd (s.2 + (zI 1)) (fun x1_95 => zchk (zin x1_95 4) (zbnd (zstI M_50 26 (zix x1_95) (zI (-1))) (fun M_104 => some (.inl (M_104, x1_95)))))) else zbnd (s.2 + (zI (-1))) (fun x1_64 => some (.inl (M_50, x1_64)))))))
set_option maxRecDepth 100000 in
set_option maxHeartbeats 4000000 in
theorem w_X12_laysWays_L27 {E : ZEv} {G : ZG} {K : ZMem → Prop} (h : zRu lyR E G (zRv K) cX12_laysWays RX12 2 none 3) (s : (ZMem × Int32)) (hk : zOk (zloop (f_X12_laysWays_L27) s) (fun e => G e 108 [] [])) : G s.1 27 [(0, zrf E 0), (1, .int s.2)] [] := by
  refine zloop_walk (P := fun s => G s.1 27 [(0, zrf E 0), (1, .int s.2)] []) hk (fun s hk => ?_)
  unfold f_X12_laysWays_L27 at hk
  refine zr_iload_n h dX12_laysWays_27 1 rfl rfl ?_
  refine zr_if_lt (tgt := 108) h dX12_laysWays_28 (by decide) (fun c => ?_) (fun c => ?_)
  · have hk := zOk_t c hk
    have hk := zOk_some hk
    exact zr_weak h [] rfl hk
  · have hk := zOk_f c hk
    refine zr_aload_n h dX12_laysWays_31 0 rfl rfl ?_
    refine zr_getI h zfo_X12_386 lR_0 rfl dX12_laysWays_32 ?_
    refine zr_sipush (v := (zI 999)) h dX12_laysWays_35 (by decide) ?_
    refine zr_icmp_ge (tgt := 108) h dX12_laysWays_38 (by decide) (fun c => ?_) (fun c => ?_)
    · have hk := zOk_t c hk
      have hk := zOk_some hk
      exact zr_weak h [] rfl hk
    · have hk := zOk_f c hk
      refine zr_aload_n h dX12_laysWays_41 0 rfl rfl ?_
      refine zr_getR h zfo_X12_87 lR_0 rfl dX12_laysWays_42 ?_
      refine zr_iload_n h dX12_laysWays_45 1 rfl rfl ?_
      refine zr_dup2_11 h dX12_laysWays_46 rfl rfl ?_
      have hb := zOk_chk hk
      have hk := hb.2
      refine zr_iald h lR_26 hb.1 dX12_laysWays_47 ?_
      refine zr_iconst (v := (zI 1)) h dX12_laysWays_48 rfl ?_
      refine zr_iadd h dX12_laysWays_49 ?_
      have hb := zOk_chk hk
      have hk := hb.2
      refine zr_iast h lR_26 hb.1 dX12_laysWays_50 ?_
      refine zr_mem (fun M_50 eM => ?_)
      have hk := zOk_bnd eM hk
      refine zr_aload_n h dX12_laysWays_51 0 rfl rfl ?_
      refine zr_getR h zfo_X12_87 lR_0 rfl dX12_laysWays_52 ?_
      refine zr_iload_n h dX12_laysWays_55 1 rfl rfl ?_
      have hb := zOk_chk hk
      have hk := hb.2
      refine zr_iald h lR_26 hb.1 dX12_laysWays_56 ?_
      refine zr_aload_n h dX12_laysWays_57 0 rfl rfl ?_
      refine zr_getI h zfo_X12_302 lR_0 rfl dX12_laysWays_58 ?_
      refine zr_icmp_lt (tgt := 70) h dX12_laysWays_61 (by decide) (fun c => ?_) (fun c => ?_)
      · have hk := zOk_t c hk
        refine zr_aload_n h dX12_laysWays_70 0 rfl rfl ?_
        refine zr_iload_n h dX12_laysWays_71 1 rfl rfl ?_
        refine zr_callVp h lR_0 zcw_X12_389 (by decide) (c_X12_canBe E M_50 s.2 _ (zOk_bind hk)) rfl rfl (Nat.le_of_ble_eq_true rfl) dX12_laysWays_72 (fun r_72 hk => ?_)
        refine zr_if_eq (tgt := 27) h dX12_laysWays_75 (by decide) (fun c => ?_) (fun c => ?_)
        · have hk := zOk_t c hk
          have hk := zOk_some hk
          exact zr_weak h [0, 1] rfl hk
        · have hk := zOk_f c hk
          refine zr_iload_n h dX12_laysWays_78 1 rfl rfl ?_
          refine zr_aload_n h dX12_laysWays_79 0 rfl rfl ?_
          refine zr_getI h zfo_X12_203 lR_0 rfl dX12_laysWays_80 ?_
          refine zr_iconst (v := (zI 1)) h dX12_laysWays_83 rfl ?_
          refine zr_isub h dX12_laysWays_84 ?_
          refine zr_icmp_ne (tgt := 95) h dX12_laysWays_85 (by decide) (fun c => ?_) (fun c => ?_)
          · have hk := zOk_t c hk
            refine zr_aload_n h dX12_laysWays_88 0 rfl rfl ?_
            refine zr_callVv h lR_0 zcw_X12_392 (by decide) (c_X12_takesWay E M_50 _ (zOk_bind hk)) rfl rfl (Nat.le_of_ble_eq_true rfl) dX12_laysWays_89 (fun M_89 hk => ?_)
            refine zr_goto (tgt := 27) h dX12_laysWays_92 (by decide) ?_
            have hk := zOk_some hk
            exact zr_weak h [0, 1] rfl hk
          · have hk := zOk_f c hk
            obtain ⟨x1_95, ex⟩ : ∃ y : Int32, y = s.2 + (zI 1) := ⟨_, rfl⟩
            have hk := zOk_bnd ex hk
            refine zr_iinc (v := x1_95) (L' := [(0, zrf E 0), (1, .int x1_95)]) h 1 [1, 0] dX12_laysWays_95 rfl (by rw [ex]; rfl) (by decide) rfl ?_
            refine zr_aload_n h dX12_laysWays_98 0 rfl rfl ?_
            refine zr_getR h zfo_X12_87 lR_0 rfl dX12_laysWays_99 ?_
            refine zr_iload_n h dX12_laysWays_102 1 rfl rfl ?_
            refine zr_iconst (v := (zI (-1))) h dX12_laysWays_103 rfl ?_
            have hb := zOk_chk hk
            have hk := hb.2
            refine zr_iast h lR_26 hb.1 dX12_laysWays_104 ?_
            refine zr_mem (fun M_104 eM => ?_)
            have hk := zOk_bnd eM hk
            refine zr_goto (tgt := 27) h dX12_laysWays_105 (by decide) ?_
            have hk := zOk_some hk
            exact zr_weak h [0, 1] rfl hk
      · have hk := zOk_f c hk
        obtain ⟨x1_64, ex⟩ : ∃ y : Int32, y = s.2 + (zI (-1)) := ⟨_, rfl⟩
        have hk := zOk_bnd ex hk
        refine zr_iinc (v := x1_64) (L' := [(0, zrf E 0), (1, .int x1_64)]) h 1 [1, 0] dX12_laysWays_64 rfl (by rw [ex]; rfl) (by decide) rfl ?_
        refine zr_goto (tgt := 27) h dX12_laysWays_67 (by decide) ?_
        have hk := zOk_some hk
        exact zr_weak h [0, 1] rfl hk
noncomputable def f_X12_laysWays (M : ZMem) : Option ZMem := zbnd (zstI M 0 40 (zI 0)) (fun M_2 => if (M_2.1 0 12) = (zI 0) then zbnd (zstI M_2 0 40 (zI 1)) (fun M_14 => some M_14) else zbnd (zstI M_2 26 (zix (zI 0)) (zI (-1))) (fun M_26 => zbind (zloop (f_X12_laysWays_L27) (M_26, (zI 0))) (fun e27 => some e27)))
set_option maxRecDepth 100000 in
set_option maxHeartbeats 4000000 in
theorem c_X12_laysWays (E : ZEv) (M : ZMem) (K : ZMem → Prop) (hk : zOk (f_X12_laysWays M) K) : zCon lyR E yX12_laysWays cX12_laysWays 2 none 3 [zrf E 0] M (zRv K) := by
  refine zcon_of (L0 := [(0, zrf E 0)]) (by decide) rfl (Nat.le_of_ble_eq_true rfl) (fun G h => ?_)
  have h : zRu lyR E G (zRv K) cX12_laysWays RX12 2 none 3 := h
  unfold f_X12_laysWays at hk
  refine zr_aload_n h dX12_laysWays_0 0 rfl rfl ?_
  refine zr_iconst (v := (zI 0)) h dX12_laysWays_1 rfl ?_
  refine zr_putI h zfp_X12_386 lR_0 rfl dX12_laysWays_2 ?_
  refine zr_mem (fun M_2 eM => ?_)
  have hk := zOk_bnd eM hk
  refine zr_aload_n h dX12_laysWays_5 0 rfl rfl ?_
  refine zr_getI h zfo_X12_203 lR_0 rfl dX12_laysWays_6 ?_
  refine zr_if_ne (tgt := 18) h dX12_laysWays_9 (by decide) (fun c => ?_) (fun c => ?_)
  · have hk := zOk_t c hk
    refine zr_aload_n h dX12_laysWays_12 0 rfl rfl ?_
    refine zr_iconst (v := (zI 1)) h dX12_laysWays_13 rfl ?_
    refine zr_putI h zfp_X12_386 lR_0 rfl dX12_laysWays_14 ?_
    refine zr_mem (fun M_14 eM => ?_)
    have hk := zOk_bnd eM hk
    have hk := zOk_some hk
    exact zr_vret h dX12_laysWays_17 ⟨rfl, hk⟩
  · have hk := zOk_f c hk
    refine zr_iconst (v := (zI 0)) h dX12_laysWays_18 rfl ?_
    refine zr_istore_n (L' := [(0, zrf E 0), (1, .int (zI 0))]) h [1, 0] dX12_laysWays_19 rfl (by decide) rfl ?_
    refine zr_aload_n h dX12_laysWays_20 0 rfl rfl ?_
    refine zr_getR h zfo_X12_87 lR_0 rfl dX12_laysWays_21 ?_
    refine zr_iconst (v := (zI 0)) h dX12_laysWays_24 rfl ?_
    refine zr_iconst (v := (zI (-1))) h dX12_laysWays_25 rfl ?_
    refine zr_iast h lR_26 (by decide) dX12_laysWays_26 ?_
    refine zr_mem (fun M_26 eM => ?_)
    have hk := zOk_bnd eM hk
    refine w_X12_laysWays_L27 h (M_26, (zI 0)) (zOk_mono (zOk_bind hk) (fun e27 hk => ?_))
    have hk := zOk_some hk
    exact zr_vret h dX12_laysWays_108 ⟨rfl, hk⟩
theorem dX12_ways_0 : decode cX12_ways 0 = .ok (.iload_n 1, 1) := by decide +kernel
theorem dX12_ways_1 : decode cX12_ways 1 = .ok (.iconst (-1), 1) := by decide +kernel
theorem dX12_ways_2 : decode cX12_ways 2 = .ok (.aload_n 0, 1) := by decide +kernel
theorem dX12_ways_3 : decode cX12_ways 3 = .ok (.getfield 203, 3) := by decide +kernel
theorem dX12_ways_6 : decode cX12_ways 6 = .ok (.iconst 1, 1) := by decide +kernel
theorem dX12_ways_7 : decode cX12_ways 7 = .ok (.isub, 1) := by decide +kernel
theorem dX12_ways_8 : decode cX12_ways 8 = .ok (.invokestatic 123, 3) := by decide +kernel
theorem dX12_ways_11 : decode cX12_ways 11 = .ok (.ifCond .ne 5, 3) := by decide +kernel
theorem dX12_ways_14 : decode cX12_ways 14 = .ok (.iconst (-1), 1) := by decide +kernel
theorem dX12_ways_15 : decode cX12_ways 15 = .ok (.ireturn, 1) := by decide +kernel
theorem dX12_ways_16 : decode cX12_ways 16 = .ok (.aload_n 0, 1) := by decide +kernel
theorem dX12_ways_17 : decode cX12_ways 17 = .ok (.invokevirtual 235, 3) := by decide +kernel
theorem dX12_ways_20 : decode cX12_ways 20 = .ok (.aload_n 0, 1) := by decide +kernel
theorem dX12_ways_21 : decode cX12_ways 21 = .ok (.invokevirtual 395, 3) := by decide +kernel
theorem dX12_ways_24 : decode cX12_ways 24 = .ok (.iload_n 1, 1) := by decide +kernel
theorem dX12_ways_25 : decode cX12_ways 25 = .ok (.iconst (-1), 1) := by decide +kernel
theorem dX12_ways_26 : decode cX12_ways 26 = .ok (.if_icmp .ne 10, 3) := by decide +kernel
theorem dX12_ways_29 : decode cX12_ways 29 = .ok (.aload_n 0, 1) := by decide +kernel
theorem dX12_ways_30 : decode cX12_ways 30 = .ok (.getfield 386, 3) := by decide +kernel
theorem dX12_ways_33 : decode cX12_ways 33 = .ok (.goto 21, 3) := by decide +kernel
theorem dX12_ways_36 : decode cX12_ways 36 = .ok (.aload_n 0, 1) := by decide +kernel
theorem dX12_ways_37 : decode cX12_ways 37 = .ok (.getfield 386, 3) := by decide +kernel
theorem dX12_ways_40 : decode cX12_ways 40 = .ok (.ifCond .ne 8, 3) := by decide +kernel
theorem dX12_ways_43 : decode cX12_ways 43 = .ok (.bipush (-2), 2) := by decide +kernel
theorem dX12_ways_45 : decode cX12_ways 45 = .ok (.goto 9, 3) := by decide +kernel
theorem dX12_ways_48 : decode cX12_ways 48 = .ok (.aload_n 0, 1) := by decide +kernel
theorem dX12_ways_49 : decode cX12_ways 49 = .ok (.getfield 90, 3) := by decide +kernel
theorem dX12_ways_52 : decode cX12_ways 52 = .ok (.iload_n 1, 1) := by decide +kernel
theorem dX12_ways_53 : decode cX12_ways 53 = .ok (.iaload, 1) := by decide +kernel
theorem dX12_ways_54 : decode cX12_ways 54 = .ok (.ireturn, 1) := by decide +kernel
noncomputable def f_X12_ways (M : ZMem) (x1 : Int32) : Option (ZMem × Int32) := zbind (f_X12_in M x1 (zI (-1)) ((M.1 0 12) - (zI 1))) (fun r_8 => if r_8 = (zI 0) then some (M, (zI (-1))) else zbind (f_X12_lays M) (fun M_17 => zbind (f_X12_laysWays M_17) (fun M_21 => if x1 = (zI (-1)) then some (M_21, (M_21.1 0 40)) else if (M_21.1 0 40) = (zI 0) then some (M_21, (zI (-2))) else zchk (zin x1 4) (some (M_21, (M_21.1 27 (zix x1)))))))
set_option maxRecDepth 100000 in
set_option maxHeartbeats 4000000 in
theorem c_X12_ways (E : ZEv) (M : ZMem) (x1 : Int32) (K : ZMem × Int32 → Prop) (hk : zOk (f_X12_ways M x1) K) : zCon lyR E yX12_ways cX12_ways 2 (some .int) 6 [zrf E 0, .int x1] M (zRm K) := by
  refine zcon_of (L0 := [(0, zrf E 0), (1, .int x1)]) (by decide) rfl (Nat.le_of_ble_eq_true rfl) (fun G h => ?_)
  have h : zRu lyR E G (zRm K) cX12_ways RX12 2 (some .int) 6 := h
  unfold f_X12_ways at hk
  refine zr_iload_n h dX12_ways_0 1 rfl rfl ?_
  refine zr_iconst (v := (zI (-1))) h dX12_ways_1 rfl ?_
  refine zr_aload_n h dX12_ways_2 0 rfl rfl ?_
  refine zr_getI h zfo_X12_203 lR_0 rfl dX12_ways_3 ?_
  refine zr_iconst (v := (zI 1)) h dX12_ways_6 rfl ?_
  refine zr_isub h dX12_ways_7 ?_
  refine zr_callSp h zcw_X12_123 (by decide) (c_X12_in E M x1 (zI (-1)) ((M.1 0 12) - (zI 1)) _ (zOk_bind hk)) rfl rfl (Nat.le_of_ble_eq_true rfl) dX12_ways_8 (fun r_8 hk => ?_)
  refine zr_if_ne (tgt := 16) h dX12_ways_11 (by decide) (fun c => ?_) (fun c => ?_)
  · have hk := zOk_t c hk
    refine zr_iconst (v := (zI (-1))) h dX12_ways_14 rfl ?_
    have hk := zOk_some hk
    exact zr_iret h dX12_ways_15 ⟨_, rfl, hk⟩
  · have hk := zOk_f c hk
    refine zr_aload_n h dX12_ways_16 0 rfl rfl ?_
    refine zr_callVv h lR_0 zcw_X12_235 (by decide) (c_X12_lays E M _ (zOk_bind hk)) rfl rfl (Nat.le_of_ble_eq_true rfl) dX12_ways_17 (fun M_17 hk => ?_)
    refine zr_aload_n h dX12_ways_20 0 rfl rfl ?_
    refine zr_callVv h lR_0 zcw_X12_395 (by decide) (c_X12_laysWays E M_17 _ (zOk_bind hk)) rfl rfl (Nat.le_of_ble_eq_true rfl) dX12_ways_21 (fun M_21 hk => ?_)
    refine zr_iload_n h dX12_ways_24 1 rfl rfl ?_
    refine zr_iconst (v := (zI (-1))) h dX12_ways_25 rfl ?_
    refine zr_icmp_ne (tgt := 36) h dX12_ways_26 (by decide) (fun c => ?_) (fun c => ?_)
    · have hk := zOk_t c hk
      refine zr_aload_n h dX12_ways_29 0 rfl rfl ?_
      refine zr_getI h zfo_X12_386 lR_0 rfl dX12_ways_30 ?_
      refine zr_goto (tgt := 54) h dX12_ways_33 (by decide) ?_
      have hk := zOk_some hk
      exact zr_iret h dX12_ways_54 ⟨_, rfl, hk⟩
    · have hk := zOk_f c hk
      refine zr_aload_n h dX12_ways_36 0 rfl rfl ?_
      refine zr_getI h zfo_X12_386 lR_0 rfl dX12_ways_37 ?_
      refine zr_if_ne (tgt := 48) h dX12_ways_40 (by decide) (fun c => ?_) (fun c => ?_)
      · have hk := zOk_t c hk
        refine zr_bipush (v := (zI (-2))) h dX12_ways_43 (by decide) ?_
        refine zr_goto (tgt := 54) h dX12_ways_45 (by decide) ?_
        have hk := zOk_some hk
        exact zr_iret h dX12_ways_54 ⟨_, rfl, hk⟩
      · have hk := zOk_f c hk
        refine zr_aload_n h dX12_ways_48 0 rfl rfl ?_
        refine zr_getR h zfo_X12_90 lR_0 rfl dX12_ways_49 ?_
        refine zr_iload_n h dX12_ways_52 1 rfl rfl ?_
        have hb := zOk_chk hk
        have hk := hb.2
        refine zr_iald h lR_27 hb.1 dX12_ways_53 ?_
        have hk := zOk_some hk
        exact zr_iret h dX12_ways_54 ⟨_, rfl, hk⟩
theorem dX12_draws_0 : decode cX12_draws 0 = .ok (.iload_n 1, 1) := by decide +kernel
theorem dX12_draws_1 : decode cX12_draws 1 = .ok (.ifCond .ge 5, 3) := by decide +kernel
theorem dX12_draws_4 : decode cX12_draws 4 = .ok (.iconst (-1), 1) := by decide +kernel
theorem dX12_draws_5 : decode cX12_draws 5 = .ok (.ireturn, 1) := by decide +kernel
theorem dX12_draws_6 : decode cX12_draws 6 = .ok (.aload_n 0, 1) := by decide +kernel
theorem dX12_draws_7 : decode cX12_draws 7 = .ok (.getfield 398, 3) := by decide +kernel
theorem dX12_draws_10 : decode cX12_draws 10 = .ok (.istore_n 2, 1) := by decide +kernel
theorem dX12_draws_11 : decode cX12_draws 11 = .ok (.aload_n 0, 1) := by decide +kernel
theorem dX12_draws_12 : decode cX12_draws 12 = .ok (.iload_n 1, 1) := by decide +kernel
theorem dX12_draws_13 : decode cX12_draws 13 = .ok (.putfield 398, 3) := by decide +kernel
theorem dX12_draws_16 : decode cX12_draws 16 = .ok (.iload_n 2, 1) := by decide +kernel
theorem dX12_draws_17 : decode cX12_draws 17 = .ok (.ireturn, 1) := by decide +kernel
noncomputable def f_X12_draws (M : ZMem) (x1 : Int32) : Option (ZMem × Int32) := if (zI 0) ≤ x1 then zbnd (M.1 0 41) (fun x2_10 => zbnd (zstI M 0 41 x1) (fun M_13 => some (M_13, x2_10))) else some (M, (zI (-1)))
set_option maxRecDepth 100000 in
set_option maxHeartbeats 4000000 in
theorem c_X12_draws (E : ZEv) (M : ZMem) (x1 : Int32) (K : ZMem × Int32 → Prop) (hk : zOk (f_X12_draws M x1) K) : zCon lyR E yX12_draws cX12_draws 3 (some .int) 0 [zrf E 0, .int x1] M (zRm K) := by
  refine zcon_of (L0 := [(0, zrf E 0), (1, .int x1)]) (by decide) rfl (Nat.le_of_ble_eq_true rfl) (fun G h => ?_)
  have h : zRu lyR E G (zRm K) cX12_draws RX12 3 (some .int) 0 := h
  unfold f_X12_draws at hk
  refine zr_iload_n h dX12_draws_0 1 rfl rfl ?_
  refine zr_if_ge (tgt := 6) h dX12_draws_1 (by decide) (fun c => ?_) (fun c => ?_)
  · have hk := zOk_t c hk
    refine zr_aload_n h dX12_draws_6 0 rfl rfl ?_
    refine zr_getI h zfo_X12_398 lR_0 rfl dX12_draws_7 ?_
    refine zr_topi (fun x2_10 ex => ?_)
    have hk := zOk_bnd ex hk
    refine zr_istore_n (L' := [(0, zrf E 0), (1, .int x1), (2, .int x2_10)]) h [1, 2, 0] dX12_draws_10 rfl (by decide) rfl ?_
    refine zr_aload_n h dX12_draws_11 0 rfl rfl ?_
    refine zr_iload_n h dX12_draws_12 1 rfl rfl ?_
    refine zr_putI h zfp_X12_398 lR_0 rfl dX12_draws_13 ?_
    refine zr_mem (fun M_13 eM => ?_)
    have hk := zOk_bnd eM hk
    refine zr_iload_n h dX12_draws_16 2 rfl rfl ?_
    have hk := zOk_some hk
    exact zr_iret h dX12_draws_17 ⟨_, rfl, hk⟩
  · have hk := zOk_f c hk
    refine zr_iconst (v := (zI (-1))) h dX12_draws_4 rfl ?_
    have hk := zOk_some hk
    exact zr_iret h dX12_draws_5 ⟨_, rfl, hk⟩
theorem dX12_drawn_0 : decode cX12_drawn 0 = .ok (.aload_n 0, 1) := by decide +kernel
theorem dX12_drawn_1 : decode cX12_drawn 1 = .ok (.aload_n 0, 1) := by decide +kernel
theorem dX12_drawn_2 : decode cX12_drawn 2 = .ok (.getfield 398, 3) := by decide +kernel
theorem dX12_drawn_5 : decode cX12_drawn 5 = .ok (.i2l, 1) := by decide +kernel
theorem dX12_drawn_6 : decode cX12_drawn 6 = .ok (.ldc2_w 401, 3) := by decide +kernel
theorem dX12_drawn_9 : decode cX12_drawn 9 = .ok (.lmul, 1) := by decide +kernel
theorem dX12_drawn_10 : decode cX12_drawn 10 = .ok (.ldc2_w 403, 3) := by decide +kernel
theorem dX12_drawn_13 : decode cX12_drawn 13 = .ok (.ladd, 1) := by decide +kernel
theorem dX12_drawn_14 : decode cX12_drawn 14 = .ok (.ldc2_w 405, 3) := by decide +kernel
theorem dX12_drawn_17 : decode cX12_drawn 17 = .ok (.lrem, 1) := by decide +kernel
theorem dX12_drawn_18 : decode cX12_drawn 18 = .ok (.l2i, 1) := by decide +kernel
theorem dX12_drawn_19 : decode cX12_drawn 19 = .ok (.putfield 398, 3) := by decide +kernel
theorem dX12_drawn_22 : decode cX12_drawn 22 = .ok (.aload_n 0, 1) := by decide +kernel
theorem dX12_drawn_23 : decode cX12_drawn 23 = .ok (.getfield 398, 3) := by decide +kernel
theorem dX12_drawn_26 : decode cX12_drawn 26 = .ok (.ldc_w 407, 3) := by decide +kernel
theorem dX12_drawn_29 : decode cX12_drawn 29 = .ok (.idiv, 1) := by decide +kernel
theorem dX12_drawn_30 : decode cX12_drawn 30 = .ok (.iload_n 1, 1) := by decide +kernel
theorem dX12_drawn_31 : decode cX12_drawn 31 = .ok (.irem, 1) := by decide +kernel
theorem dX12_drawn_32 : decode cX12_drawn 32 = .ok (.ireturn, 1) := by decide +kernel
noncomputable def f_X12_drawn (M : ZMem) (x1 : Int32) : Option (ZMem × Int32) := zbnd (zstI M 0 41 ((((((((M.1 0 41) : Int32).toInt64) * (1103515245 : Int64)) + (12345 : Int64)) - (((((M.1 0 41) : Int32).toInt64) * (1103515245 : Int64)) + (12345 : Int64)) / (2147483648 : Int64) * (2147483648 : Int64)) : Int64).toInt32)) (fun M_19 => zchk (zne x1) (some (M_19, (((M_19.1 0 41) / (65536 : Int32)) - ((M_19.1 0 41) / (65536 : Int32)) / x1 * x1))))
set_option maxRecDepth 100000 in
set_option maxHeartbeats 4000000 in
theorem c_X12_drawn (E : ZEv) (M : ZMem) (x1 : Int32) (K : ZMem × Int32 → Prop) (hk : zOk (f_X12_drawn M x1) K) : zCon lyR E yX12_drawn cX12_drawn 2 (some .int) 0 [zrf E 0, .int x1] M (zRm K) := by
  refine zcon_of (L0 := [(0, zrf E 0), (1, .int x1)]) (by decide) rfl (Nat.le_of_ble_eq_true rfl) (fun G h => ?_)
  have h : zRu lyR E G (zRm K) cX12_drawn RX12 2 (some .int) 0 := h
  unfold f_X12_drawn at hk
  refine zr_aload_n h dX12_drawn_0 0 rfl rfl ?_
  refine zr_aload_n h dX12_drawn_1 0 rfl rfl ?_
  refine zr_getI h zfo_X12_398 lR_0 rfl dX12_drawn_2 ?_
  refine zr_i2l h dX12_drawn_5 ?_
  refine zr_ldc2 (v := 1103515245) h dX12_drawn_6 (zm_69 _ (List.mem_of_getElem? (i := 18) rfl)) ?_
  refine zr_lmul h dX12_drawn_9 ?_
  refine zr_ldc2 (v := 12345) h dX12_drawn_10 (zm_69 _ (List.mem_of_getElem? (i := 19) rfl)) ?_
  refine zr_ladd h dX12_drawn_13 ?_
  refine zr_ldc2 (v := 2147483648) h dX12_drawn_14 (zm_69 _ (List.mem_of_getElem? (i := 20) rfl)) ?_
  refine zr_lrem h dX12_drawn_17 (by decide) ?_
  refine zr_l2i h dX12_drawn_18 ?_
  refine zr_putI h zfp_X12_398 lR_0 rfl dX12_drawn_19 ?_
  refine zr_mem (fun M_19 eM => ?_)
  have hk := zOk_bnd eM hk
  refine zr_aload_n h dX12_drawn_22 0 rfl rfl ?_
  refine zr_getI h zfo_X12_398 lR_0 rfl dX12_drawn_23 ?_
  refine zr_ldcw (v := 65536) h dX12_drawn_26 (zm_69 _ (List.mem_of_getElem? (i := 21) rfl)) ?_
  refine zr_idiv h dX12_drawn_29 (by decide) ?_
  refine zr_iload_n h dX12_drawn_30 1 rfl rfl ?_
  have hb := zOk_chk hk
  have hk := hb.2
  refine zr_irem h dX12_drawn_31 (zne_of hb.1) ?_
  have hk := zOk_some hk
  exact zr_iret h dX12_drawn_32 ⟨_, rfl, hk⟩
theorem dX12_laysWhole_0 : decode cX12_laysWhole 0 = .ok (.iconst 0, 1) := by decide +kernel
theorem dX12_laysWhole_1 : decode cX12_laysWhole 1 = .ok (.istore_n 1, 1) := by decide +kernel
theorem dX12_laysWhole_2 : decode cX12_laysWhole 2 = .ok (.iconst 0, 1) := by decide +kernel
theorem dX12_laysWhole_3 : decode cX12_laysWhole 3 = .ok (.istore_n 2, 1) := by decide +kernel
theorem dX12_laysWhole_4 : decode cX12_laysWhole 4 = .ok (.iload_n 2, 1) := by decide +kernel
theorem dX12_laysWhole_5 : decode cX12_laysWhole 5 = .ok (.aload_n 0, 1) := by decide +kernel
theorem dX12_laysWhole_6 : decode cX12_laysWhole 6 = .ok (.getfield 162, 3) := by decide +kernel
theorem dX12_laysWhole_9 : decode cX12_laysWhole 9 = .ok (.if_icmp .ge 59, 3) := by decide +kernel
theorem dX12_laysWhole_12 : decode cX12_laysWhole 12 = .ok (.aload_n 0, 1) := by decide +kernel
theorem dX12_laysWhole_13 : decode cX12_laysWhole 13 = .ok (.iload_n 2, 1) := by decide +kernel
theorem dX12_laysWhole_14 : decode cX12_laysWhole 14 = .ok (.invokevirtual 356, 3) := by decide +kernel
theorem dX12_laysWhole_17 : decode cX12_laysWhole 17 = .ok (.ifCond .eq 45, 3) := by decide +kernel
theorem dX12_laysWhole_20 : decode cX12_laysWhole 20 = .ok (.aload_n 0, 1) := by decide +kernel
theorem dX12_laysWhole_21 : decode cX12_laysWhole 21 = .ok (.iload_n 2, 1) := by decide +kernel
theorem dX12_laysWhole_22 : decode cX12_laysWhole 22 = .ok (.invokevirtual 368, 3) := by decide +kernel
theorem dX12_laysWhole_25 : decode cX12_laysWhole 25 = .ok (.ifCond .eq 37, 3) := by decide +kernel
theorem dX12_laysWhole_28 : decode cX12_laysWhole 28 = .ok (.aload_n 0, 1) := by decide +kernel
theorem dX12_laysWhole_29 : decode cX12_laysWhole 29 = .ok (.getfield 93, 3) := by decide +kernel
theorem dX12_laysWhole_32 : decode cX12_laysWhole 32 = .ok (.iload_n 1, 1) := by decide +kernel
theorem dX12_laysWhole_33 : decode cX12_laysWhole 33 = .ok (.iload_n 2, 1) := by decide +kernel
theorem dX12_laysWhole_34 : decode cX12_laysWhole 34 = .ok (.iastore, 1) := by decide +kernel
theorem dX12_laysWhole_35 : decode cX12_laysWhole 35 = .ok (.aload_n 0, 1) := by decide +kernel
theorem dX12_laysWhole_36 : decode cX12_laysWhole 36 = .ok (.getfield 96, 3) := by decide +kernel
theorem dX12_laysWhole_39 : decode cX12_laysWhole 39 = .ok (.iload_n 1, 1) := by decide +kernel
theorem dX12_laysWhole_40 : decode cX12_laysWhole 40 = .ok (.iconst 5, 1) := by decide +kernel
theorem dX12_laysWhole_41 : decode cX12_laysWhole 41 = .ok (.aload_n 0, 1) := by decide +kernel
theorem dX12_laysWhole_42 : decode cX12_laysWhole 42 = .ok (.getfield 84, 3) := by decide +kernel
theorem dX12_laysWhole_45 : decode cX12_laysWhole 45 = .ok (.iload_n 2, 1) := by decide +kernel
theorem dX12_laysWhole_46 : decode cX12_laysWhole 46 = .ok (.iaload, 1) := by decide +kernel
theorem dX12_laysWhole_47 : decode cX12_laysWhole 47 = .ok (.imul, 1) := by decide +kernel
theorem dX12_laysWhole_48 : decode cX12_laysWhole 48 = .ok (.aload_n 0, 1) := by decide +kernel
theorem dX12_laysWhole_49 : decode cX12_laysWhole 49 = .ok (.getfield 84, 3) := by decide +kernel
theorem dX12_laysWhole_52 : decode cX12_laysWhole 52 = .ok (.bipush 20, 2) := by decide +kernel
theorem dX12_laysWhole_54 : decode cX12_laysWhole 54 = .ok (.iload_n 2, 1) := by decide +kernel
theorem dX12_laysWhole_55 : decode cX12_laysWhole 55 = .ok (.iadd, 1) := by decide +kernel
theorem dX12_laysWhole_56 : decode cX12_laysWhole 56 = .ok (.iaload, 1) := by decide +kernel
theorem dX12_laysWhole_57 : decode cX12_laysWhole 57 = .ok (.iadd, 1) := by decide +kernel
theorem dX12_laysWhole_58 : decode cX12_laysWhole 58 = .ok (.iastore, 1) := by decide +kernel
theorem dX12_laysWhole_59 : decode cX12_laysWhole 59 = .ok (.iinc 1 1, 3) := by decide +kernel
theorem dX12_laysWhole_62 : decode cX12_laysWhole 62 = .ok (.iinc 2 1, 3) := by decide +kernel
theorem dX12_laysWhole_65 : decode cX12_laysWhole 65 = .ok (.goto (-61), 3) := by decide +kernel
theorem dX12_laysWhole_68 : decode cX12_laysWhole 68 = .ok (.iload_n 1, 1) := by decide +kernel
theorem dX12_laysWhole_69 : decode cX12_laysWhole 69 = .ok (.ireturn, 1) := by decide +kernel
noncomputable def f_X12_laysWhole_L4 (s : (ZMem × Int32 × Int32)) : Option ((ZMem × Int32 × Int32) ⊕ (ZMem × Int32)) := if (s.1.1 0 4) ≤ s.2.2 then some (.inr (s.1, s.2.1)) else zbind (f_X12_isSign s.1 s.2.2) (fun r_14 => if r_14 = (zI 0) then zbnd (s.2.2 + (zI 1)) (fun x2_62 => some (.inl (s.1, s.2.1, x2_62))) else zbind (f_X12_isWhole s.1 s.2.2) (fun r_22 => if r_22 = (zI 0) then zbnd (s.2.2 + (zI 1)) (fun x2_62 => some (.inl (s.1, s.2.1, x2_62))) else zchk (zin s.2.1 20) (zbnd (zstI s.1 28 (zix s.2.1) s.2.2) (fun M_34 => zchk (zin s.2.2 40) (zchk (zin ((zI 20) + s.2.2) 40) (zchk (zin s.2.1 20) (zbnd (zstI M_34 29 (zix s.2.1) (((zI 5) * (M_34.1 25 (zix s.2.2))) + (M_34.1 25 (zix ((zI 20) + s.2.2))))) (fun M_58 => zbnd (s.2.1 + (zI 1)) (fun x1_59 => zbnd (s.2.2 + (zI 1)) (fun x2_62 => some (.inl (M_58, x1_59, x2_62))))))))))))
set_option maxRecDepth 100000 in
set_option maxHeartbeats 4000000 in
theorem w_X12_laysWhole_L4 {E : ZEv} {G : ZG} {K : (ZMem × Int32) → Prop} (h : zRu lyR E G (zRm K) cX12_laysWhole RX12 3 (some .int) 1) (s : (ZMem × Int32 × Int32)) (hk : zOk (zloop (f_X12_laysWhole_L4) s) (fun e => G e.1 68 [(1, .int e.2)] [])) : G s.1 4 [(0, zrf E 0), (1, .int s.2.1), (2, .int s.2.2)] [] := by
  refine zloop_walk (P := fun s => G s.1 4 [(0, zrf E 0), (1, .int s.2.1), (2, .int s.2.2)] []) hk (fun s hk => ?_)
  unfold f_X12_laysWhole_L4 at hk
  refine zr_iload_n h dX12_laysWhole_4 2 rfl rfl ?_
  refine zr_aload_n h dX12_laysWhole_5 0 rfl rfl ?_
  refine zr_getI h zfo_X12_162 lR_0 rfl dX12_laysWhole_6 ?_
  refine zr_icmp_ge (tgt := 68) h dX12_laysWhole_9 (by decide) (fun c => ?_) (fun c => ?_)
  · have hk := zOk_t c hk
    have hk := zOk_some hk
    exact zr_weak h [1] rfl hk
  · have hk := zOk_f c hk
    refine zr_aload_n h dX12_laysWhole_12 0 rfl rfl ?_
    refine zr_iload_n h dX12_laysWhole_13 2 rfl rfl ?_
    refine zr_callVp h lR_0 zcw_X12_356 (by decide) (c_X12_isSign E s.1 s.2.2 _ (zOk_bind hk)) rfl rfl (Nat.le_of_ble_eq_true rfl) dX12_laysWhole_14 (fun r_14 hk => ?_)
    refine zr_if_eq (tgt := 62) h dX12_laysWhole_17 (by decide) (fun c => ?_) (fun c => ?_)
    · have hk := zOk_t c hk
      obtain ⟨x2_62, ex⟩ : ∃ y : Int32, y = s.2.2 + (zI 1) := ⟨_, rfl⟩
      have hk := zOk_bnd ex hk
      refine zr_iinc (v := x2_62) (L' := [(0, zrf E 0), (1, .int s.2.1), (2, .int x2_62)]) h 2 [1, 2, 0] dX12_laysWhole_62 rfl (by rw [ex]; rfl) (by decide) rfl ?_
      refine zr_goto (tgt := 4) h dX12_laysWhole_65 (by decide) ?_
      have hk := zOk_some hk
      exact zr_weak h [0, 1, 2] rfl hk
    · have hk := zOk_f c hk
      refine zr_aload_n h dX12_laysWhole_20 0 rfl rfl ?_
      refine zr_iload_n h dX12_laysWhole_21 2 rfl rfl ?_
      refine zr_callVp h lR_0 zcw_X12_368 (by decide) (c_X12_isWhole E s.1 s.2.2 _ (zOk_bind hk)) rfl rfl (Nat.le_of_ble_eq_true rfl) dX12_laysWhole_22 (fun r_22 hk => ?_)
      refine zr_if_eq (tgt := 62) h dX12_laysWhole_25 (by decide) (fun c => ?_) (fun c => ?_)
      · have hk := zOk_t c hk
        obtain ⟨x2_62, ex⟩ : ∃ y : Int32, y = s.2.2 + (zI 1) := ⟨_, rfl⟩
        have hk := zOk_bnd ex hk
        refine zr_iinc (v := x2_62) (L' := [(0, zrf E 0), (1, .int s.2.1), (2, .int x2_62)]) h 2 [1, 2, 0] dX12_laysWhole_62 rfl (by rw [ex]; rfl) (by decide) rfl ?_
        refine zr_goto (tgt := 4) h dX12_laysWhole_65 (by decide) ?_
        have hk := zOk_some hk
        exact zr_weak h [0, 1, 2] rfl hk
      · have hk := zOk_f c hk
        refine zr_aload_n h dX12_laysWhole_28 0 rfl rfl ?_
        refine zr_getR h zfo_X12_93 lR_0 rfl dX12_laysWhole_29 ?_
        refine zr_iload_n h dX12_laysWhole_32 1 rfl rfl ?_
        refine zr_iload_n h dX12_laysWhole_33 2 rfl rfl ?_
        have hb := zOk_chk hk
        have hk := hb.2
        refine zr_iast h lR_28 hb.1 dX12_laysWhole_34 ?_
        refine zr_mem (fun M_34 eM => ?_)
        have hk := zOk_bnd eM hk
        refine zr_aload_n h dX12_laysWhole_35 0 rfl rfl ?_
        refine zr_getR h zfo_X12_96 lR_0 rfl dX12_laysWhole_36 ?_
        refine zr_iload_n h dX12_laysWhole_39 1 rfl rfl ?_
        refine zr_iconst (v := (zI 5)) h dX12_laysWhole_40 rfl ?_
        refine zr_aload_n h dX12_laysWhole_41 0 rfl rfl ?_
        refine zr_getR h zfo_X12_84 lR_0 rfl dX12_laysWhole_42 ?_
        refine zr_iload_n h dX12_laysWhole_45 2 rfl rfl ?_
        have hb := zOk_chk hk
        have hk := hb.2
        refine zr_iald h lR_25 hb.1 dX12_laysWhole_46 ?_
        refine zr_imul h dX12_laysWhole_47 ?_
        refine zr_aload_n h dX12_laysWhole_48 0 rfl rfl ?_
        refine zr_getR h zfo_X12_84 lR_0 rfl dX12_laysWhole_49 ?_
        refine zr_bipush (v := (zI 20)) h dX12_laysWhole_52 (by decide) ?_
        refine zr_iload_n h dX12_laysWhole_54 2 rfl rfl ?_
        refine zr_iadd h dX12_laysWhole_55 ?_
        have hb := zOk_chk hk
        have hk := hb.2
        refine zr_iald h lR_25 hb.1 dX12_laysWhole_56 ?_
        refine zr_iadd h dX12_laysWhole_57 ?_
        have hb := zOk_chk hk
        have hk := hb.2
        refine zr_iast h lR_29 hb.1 dX12_laysWhole_58 ?_
        refine zr_mem (fun M_58 eM => ?_)
        have hk := zOk_bnd eM hk
        obtain ⟨x1_59, ex⟩ : ∃ y : Int32, y = s.2.1 + (zI 1) := ⟨_, rfl⟩
        have hk := zOk_bnd ex hk
        refine zr_iinc (v := x1_59) (L' := [(0, zrf E 0), (1, .int x1_59), (2, .int s.2.2)]) h 1 [1, 0, 2] dX12_laysWhole_59 rfl (by rw [ex]; rfl) (by decide) rfl ?_
        obtain ⟨x2_62, ex⟩ : ∃ y : Int32, y = s.2.2 + (zI 1) := ⟨_, rfl⟩
        have hk := zOk_bnd ex hk
        refine zr_iinc (v := x2_62) (L' := [(0, zrf E 0), (1, .int x1_59), (2, .int x2_62)]) h 2 [1, 2, 0] dX12_laysWhole_62 rfl (by rw [ex]; rfl) (by decide) rfl ?_
        refine zr_goto (tgt := 4) h dX12_laysWhole_65 (by decide) ?_
        have hk := zOk_some hk
        exact zr_weak h [0, 1, 2] rfl hk
noncomputable def f_X12_laysWhole (M : ZMem) : Option (ZMem × Int32) := zbind (zloop (f_X12_laysWhole_L4) (M, (zI 0), (zI 0))) (fun e4 => some (e4.1, e4.2))
set_option maxRecDepth 100000 in
set_option maxHeartbeats 4000000 in
theorem c_X12_laysWhole (E : ZEv) (M : ZMem) (K : ZMem × Int32 → Prop) (hk : zOk (f_X12_laysWhole M) K) : zCon lyR E yX12_laysWhole cX12_laysWhole 3 (some .int) 1 [zrf E 0] M (zRm K) := by
  refine zcon_of (L0 := [(0, zrf E 0)]) (by decide) rfl (Nat.le_of_ble_eq_true rfl) (fun G h => ?_)
  have h : zRu lyR E G (zRm K) cX12_laysWhole RX12 3 (some .int) 1 := h
  unfold f_X12_laysWhole at hk
  refine zr_iconst (v := (zI 0)) h dX12_laysWhole_0 rfl ?_
  refine zr_istore_n (L' := [(0, zrf E 0), (1, .int (zI 0))]) h [1, 0] dX12_laysWhole_1 rfl (by decide) rfl ?_
  refine zr_iconst (v := (zI 0)) h dX12_laysWhole_2 rfl ?_
  refine zr_istore_n (L' := [(0, zrf E 0), (1, .int (zI 0)), (2, .int (zI 0))]) h [1, 2, 0] dX12_laysWhole_3 rfl (by decide) rfl ?_
  refine w_X12_laysWhole_L4 h (M, (zI 0), (zI 0)) (zOk_mono (zOk_bind hk) (fun e4 hk => ?_))
  refine zr_iload_n h dX12_laysWhole_68 0 rfl rfl ?_
  have hk := zOk_some hk
  exact zr_iret h dX12_laysWhole_69 ⟨_, rfl, hk⟩
