theorem dX12_guess_0 : decode cX12_guess 0 = .ok (.iload_n 2, 1) := by decide +kernel
theorem dX12_guess_1 : decode cX12_guess 1 = .ok (.iconst (-1), 1) := by decide +kernel
theorem dX12_guess_2 : decode cX12_guess 2 = .ok (.if_icmp .ne 12, 3) := by decide +kernel
theorem dX12_guess_5 : decode cX12_guess 5 = .ok (.iload_n 3, 1) := by decide +kernel
theorem dX12_guess_6 : decode cX12_guess 6 = .ok (.iconst (-1), 1) := by decide +kernel
theorem dX12_guess_7 : decode cX12_guess 7 = .ok (.if_icmp .ne 7, 3) := by decide +kernel
theorem dX12_guess_10 : decode cX12_guess 10 = .ok (.iconst 1, 1) := by decide +kernel
theorem dX12_guess_11 : decode cX12_guess 11 = .ok (.goto 4, 3) := by decide +kernel
theorem dX12_guess_14 : decode cX12_guess 14 = .ok (.iconst 0, 1) := by decide +kernel
theorem dX12_guess_15 : decode cX12_guess 15 = .ok (.istore 4, 2) := by decide +kernel
theorem dX12_guess_17 : decode cX12_guess 17 = .ok (.aload_n 0, 1) := by decide +kernel
theorem dX12_guess_18 : decode cX12_guess 18 = .ok (.iload_n 1, 1) := by decide +kernel
theorem dX12_guess_19 : decode cX12_guess 19 = .ok (.invokevirtual 224, 3) := by decide +kernel
theorem dX12_guess_22 : decode cX12_guess 22 = .ok (.ifCond .eq 27, 3) := by decide +kernel
theorem dX12_guess_25 : decode cX12_guess 25 = .ok (.iload 4, 2) := by decide +kernel
theorem dX12_guess_27 : decode cX12_guess 27 = .ok (.ifCond .ne 24, 3) := by decide +kernel
theorem dX12_guess_30 : decode cX12_guess 30 = .ok (.iload_n 2, 1) := by decide +kernel
theorem dX12_guess_31 : decode cX12_guess 31 = .ok (.iconst 0, 1) := by decide +kernel
theorem dX12_guess_32 : decode cX12_guess 32 = .ok (.bipush 9, 2) := by decide +kernel
theorem dX12_guess_34 : decode cX12_guess 34 = .ok (.invokestatic 123, 3) := by decide +kernel
theorem dX12_guess_37 : decode cX12_guess 37 = .ok (.ifCond .eq 12, 3) := by decide +kernel
theorem dX12_guess_40 : decode cX12_guess 40 = .ok (.iload_n 3, 1) := by decide +kernel
theorem dX12_guess_41 : decode cX12_guess 41 = .ok (.iconst 0, 1) := by decide +kernel
theorem dX12_guess_42 : decode cX12_guess 42 = .ok (.iconst 4, 1) := by decide +kernel
theorem dX12_guess_43 : decode cX12_guess 43 = .ok (.invokestatic 123, 3) := by decide +kernel
theorem dX12_guess_46 : decode cX12_guess 46 = .ok (.ifCond .ne 5, 3) := by decide +kernel
theorem dX12_guess_49 : decode cX12_guess 49 = .ok (.iconst (-1), 1) := by decide +kernel
theorem dX12_guess_50 : decode cX12_guess 50 = .ok (.ireturn, 1) := by decide +kernel
theorem dX12_guess_51 : decode cX12_guess 51 = .ok (.iload 4, 2) := by decide +kernel
theorem dX12_guess_53 : decode cX12_guess 53 = .ok (.ifCond .eq 7, 3) := by decide +kernel
theorem dX12_guess_56 : decode cX12_guess 56 = .ok (.iconst (-1), 1) := by decide +kernel
theorem dX12_guess_57 : decode cX12_guess 57 = .ok (.goto 8, 3) := by decide +kernel
theorem dX12_guess_60 : decode cX12_guess 60 = .ok (.iconst 5, 1) := by decide +kernel
theorem dX12_guess_61 : decode cX12_guess 61 = .ok (.iload_n 2, 1) := by decide +kernel
theorem dX12_guess_62 : decode cX12_guess 62 = .ok (.imul, 1) := by decide +kernel
theorem dX12_guess_63 : decode cX12_guess 63 = .ok (.iload_n 3, 1) := by decide +kernel
theorem dX12_guess_64 : decode cX12_guess 64 = .ok (.iadd, 1) := by decide +kernel
theorem dX12_guess_65 : decode cX12_guess 65 = .ok (.istore 5, 2) := by decide +kernel
theorem dX12_guess_67 : decode cX12_guess 67 = .ok (.aload_n 0, 1) := by decide +kernel
theorem dX12_guess_68 : decode cX12_guess 68 = .ok (.getfield 35, 3) := by decide +kernel
theorem dX12_guess_71 : decode cX12_guess 71 = .ok (.iconst 4, 1) := by decide +kernel
theorem dX12_guess_72 : decode cX12_guess 72 = .ok (.iload_n 1, 1) := by decide +kernel
theorem dX12_guess_73 : decode cX12_guess 73 = .ok (.iadd, 1) := by decide +kernel
theorem dX12_guess_74 : decode cX12_guess 74 = .ok (.iaload, 1) := by decide +kernel
theorem dX12_guess_75 : decode cX12_guess 75 = .ok (.iload 5, 2) := by decide +kernel
theorem dX12_guess_77 : decode cX12_guess 77 = .ok (.if_icmp .ne 5, 3) := by decide +kernel
theorem dX12_guess_80 : decode cX12_guess 80 = .ok (.iconst (-1), 1) := by decide +kernel
theorem dX12_guess_81 : decode cX12_guess 81 = .ok (.ireturn, 1) := by decide +kernel
theorem dX12_guess_82 : decode cX12_guess 82 = .ok (.aload_n 0, 1) := by decide +kernel
theorem dX12_guess_83 : decode cX12_guess 83 = .ok (.invokevirtual 214, 3) := by decide +kernel
theorem dX12_guess_86 : decode cX12_guess 86 = .ok (.aload_n 0, 1) := by decide +kernel
theorem dX12_guess_87 : decode cX12_guess 87 = .ok (.getfield 35, 3) := by decide +kernel
theorem dX12_guess_90 : decode cX12_guess 90 = .ok (.iconst 4, 1) := by decide +kernel
theorem dX12_guess_91 : decode cX12_guess 91 = .ok (.iload_n 1, 1) := by decide +kernel
theorem dX12_guess_92 : decode cX12_guess 92 = .ok (.iadd, 1) := by decide +kernel
theorem dX12_guess_93 : decode cX12_guess 93 = .ok (.iload 5, 2) := by decide +kernel
theorem dX12_guess_95 : decode cX12_guess 95 = .ok (.iastore, 1) := by decide +kernel
theorem dX12_guess_96 : decode cX12_guess 96 = .ok (.aload_n 0, 1) := by decide +kernel
theorem dX12_guess_97 : decode cX12_guess 97 = .ok (.invokevirtual 235, 3) := by decide +kernel
theorem dX12_guess_100 : decode cX12_guess 100 = .ok (.aload_n 0, 1) := by decide +kernel
theorem dX12_guess_101 : decode cX12_guess 101 = .ok (.invokevirtual 242, 3) := by decide +kernel
theorem dX12_guess_104 : decode cX12_guess 104 = .ok (.ireturn, 1) := by decide +kernel
noncomputable def f_X12_guess_65 (M : ZMem) (x1 : Int32) (v0 : Int32) : Option (ZMem × Int32) := zchk (zin ((zI 4) + x1) 460) (if (M.1 9 (zix ((zI 4) + x1))) = v0 then some (M, (zI (-1))) else zbind (f_X12_remembers M) (fun M_83 => zchk (zin ((zI 4) + x1) 460) (zbnd (zstI M_83 9 (zix ((zI 4) + x1)) v0) (fun M_95 => zbind (f_X12_lays M_95) (fun M_97 => zbind (f_X12_disputedMany M_97) (fun r_101 => some (M_97, r_101)))))))
set_option maxRecDepth 100000 in
set_option maxHeartbeats 4000000 in
theorem w_X12_guess_65 {E : ZEv} {G : ZG} {K : (ZMem × Int32) → Prop} (h : zRu lyR E G (zRm K) cX12_guess RX12 6 (some .int) 6) (M : ZMem) (x1 : Int32) (v0 : Int32) (hk : zOk (f_X12_guess_65 M x1 v0) K) : G M 65 [(0, zrf E 0), (1, .int x1)] [.int v0] := by
  unfold f_X12_guess_65 at hk
  refine zr_istore (L' := [(0, zrf E 0), (1, .int x1), (5, .int v0)]) h [1, 2, 0] dX12_guess_65 (by decide) rfl ?_
  refine zr_aload_n h dX12_guess_67 0 rfl rfl ?_
  refine zr_getR h zfo_X12_35 lR_0 rfl dX12_guess_68 ?_
  refine zr_iconst (v := (zI 4)) h dX12_guess_71 rfl ?_
  refine zr_iload_n h dX12_guess_72 1 rfl rfl ?_
  refine zr_iadd h dX12_guess_73 ?_
  have hb := zOk_chk hk
  have hk := hb.2
  refine zr_iald h lR_9 hb.1 dX12_guess_74 ?_
  refine zr_iload h dX12_guess_75 2 rfl ?_
  refine zr_icmp_ne (tgt := 82) h dX12_guess_77 (by decide) (fun c => ?_) (fun c => ?_)
  · have hk := zOk_t c hk
    refine zr_iconst (v := (zI (-1))) h dX12_guess_80 rfl ?_
    have hk := zOk_some hk
    exact zr_iret h dX12_guess_81 ⟨_, rfl, hk⟩
  · have hk := zOk_f c hk
    refine zr_aload_n h dX12_guess_82 0 rfl rfl ?_
    refine zr_callVv h lR_0 zcw_X12_214 (by decide) (c_X12_remembers E M _ (zOk_bind hk)) rfl rfl (Nat.le_of_ble_eq_true rfl) dX12_guess_83 (fun M_83 hk => ?_)
    refine zr_aload_n h dX12_guess_86 0 rfl rfl ?_
    refine zr_getR h zfo_X12_35 lR_0 rfl dX12_guess_87 ?_
    refine zr_iconst (v := (zI 4)) h dX12_guess_90 rfl ?_
    refine zr_iload_n h dX12_guess_91 1 rfl rfl ?_
    refine zr_iadd h dX12_guess_92 ?_
    refine zr_iload h dX12_guess_93 2 rfl ?_
    have hb := zOk_chk hk
    have hk := hb.2
    refine zr_iast h lR_9 hb.1 dX12_guess_95 ?_
    refine zr_mem (fun M_95 eM => ?_)
    have hk := zOk_bnd eM hk
    refine zr_aload_n h dX12_guess_96 0 rfl rfl ?_
    refine zr_callVv h lR_0 zcw_X12_235 (by decide) (c_X12_lays E M_95 _ (zOk_bind hk)) rfl rfl (Nat.le_of_ble_eq_true rfl) dX12_guess_97 (fun M_97 hk => ?_)
    refine zr_aload_n h dX12_guess_100 0 rfl rfl ?_
    refine zr_callVp h lR_0 zcw_X12_242 (by decide) (c_X12_disputedMany E M_97 _ (zOk_bind hk)) rfl rfl (Nat.le_of_ble_eq_true rfl) dX12_guess_101 (fun r_101 hk => ?_)
    have hk := zOk_some hk
    exact zr_iret h dX12_guess_104 ⟨_, rfl, hk⟩
noncomputable def f_X12_guess_51 (M : ZMem) (x1 : Int32) (x2 : Int32) (x3 : Int32) (x4 : Int32) : Option (ZMem × Int32) := if x4 = (zI 0) then f_X12_guess_65 M x1 (((zI 5) * x2) + x3) else f_X12_guess_65 M x1 (zI (-1))
set_option maxRecDepth 100000 in
set_option maxHeartbeats 4000000 in
theorem w_X12_guess_51 {E : ZEv} {G : ZG} {K : (ZMem × Int32) → Prop} (h : zRu lyR E G (zRm K) cX12_guess RX12 6 (some .int) 6) (M : ZMem) (x1 : Int32) (x2 : Int32) (x3 : Int32) (x4 : Int32) (hk : zOk (f_X12_guess_51 M x1 x2 x3 x4) K) : G M 51 [(0, zrf E 0), (1, .int x1), (2, .int x2), (3, .int x3), (4, .int x4)] [] := by
  unfold f_X12_guess_51 at hk
  refine zr_iload h dX12_guess_51 4 rfl ?_
  refine zr_if_eq (tgt := 60) h dX12_guess_53 (by decide) (fun c => ?_) (fun c => ?_)
  · have hk := zOk_t c hk
    refine zr_iconst (v := (zI 5)) h dX12_guess_60 rfl ?_
    refine zr_iload_n h dX12_guess_61 2 rfl rfl ?_
    refine zr_imul h dX12_guess_62 ?_
    refine zr_iload_n h dX12_guess_63 3 rfl rfl ?_
    refine zr_iadd h dX12_guess_64 ?_
    exact zr_weak h [0, 1] rfl (w_X12_guess_65 h M x1 (((zI 5) * x2) + x3) hk)
  · have hk := zOk_f c hk
    refine zr_iconst (v := (zI (-1))) h dX12_guess_56 rfl ?_
    refine zr_goto (tgt := 65) h dX12_guess_57 (by decide) ?_
    exact zr_weak h [0, 1] rfl (w_X12_guess_65 h M x1 (zI (-1)) hk)
noncomputable def f_X12_guess_15 (M : ZMem) (x1 : Int32) (x2 : Int32) (x3 : Int32) (v0 : Int32) : Option (ZMem × Int32) := zbind (f_X12_isForm M x1) (fun r_19 => if r_19 = (zI 0) then some (M, (zI (-1))) else if v0 = (zI 0) then zbind (f_X12_in M x2 (zI 0) (zI 9)) (fun r_34 => if r_34 = (zI 0) then some (M, (zI (-1))) else zbind (f_X12_in M x3 (zI 0) (zI 4)) (fun r_43 => if r_43 = (zI 0) then some (M, (zI (-1))) else f_X12_guess_51 M x1 x2 x3 v0)) else f_X12_guess_51 M x1 x2 x3 v0)
set_option maxRecDepth 100000 in
set_option maxHeartbeats 4000000 in
theorem w_X12_guess_15 {E : ZEv} {G : ZG} {K : (ZMem × Int32) → Prop} (h : zRu lyR E G (zRm K) cX12_guess RX12 6 (some .int) 6) (M : ZMem) (x1 : Int32) (x2 : Int32) (x3 : Int32) (v0 : Int32) (hk : zOk (f_X12_guess_15 M x1 x2 x3 v0) K) : G M 15 [(0, zrf E 0), (1, .int x1), (2, .int x2), (3, .int x3)] [.int v0] := by
  unfold f_X12_guess_15 at hk
  refine zr_istore (L' := [(0, zrf E 0), (1, .int x1), (2, .int x2), (3, .int x3), (4, .int v0)]) h [1, 2, 3, 4, 0] dX12_guess_15 (by decide) rfl ?_
  refine zr_aload_n h dX12_guess_17 0 rfl rfl ?_
  refine zr_iload_n h dX12_guess_18 1 rfl rfl ?_
  refine zr_callVp h lR_0 zcw_X12_224 (by decide) (c_X12_isForm E M x1 _ (zOk_bind hk)) rfl rfl (Nat.le_of_ble_eq_true rfl) dX12_guess_19 (fun r_19 hk => ?_)
  refine zr_if_eq (tgt := 49) h dX12_guess_22 (by decide) (fun c => ?_) (fun c => ?_)
  · have hk := zOk_t c hk
    refine zr_iconst (v := (zI (-1))) h dX12_guess_49 rfl ?_
    have hk := zOk_some hk
    exact zr_iret h dX12_guess_50 ⟨_, rfl, hk⟩
  · have hk := zOk_f c hk
    refine zr_iload h dX12_guess_25 4 rfl ?_
    refine zr_if_ne (tgt := 51) h dX12_guess_27 (by decide) (fun c => ?_) (fun c => ?_)
    · have hk := zOk_t c hk
      refine zr_iload_n h dX12_guess_30 2 rfl rfl ?_
      refine zr_iconst (v := (zI 0)) h dX12_guess_31 rfl ?_
      refine zr_bipush (v := (zI 9)) h dX12_guess_32 (by decide) ?_
      refine zr_callSp h zcw_X12_123 (by decide) (c_X12_in E M x2 (zI 0) (zI 9) _ (zOk_bind hk)) rfl rfl (Nat.le_of_ble_eq_true rfl) dX12_guess_34 (fun r_34 hk => ?_)
      refine zr_if_eq (tgt := 49) h dX12_guess_37 (by decide) (fun c => ?_) (fun c => ?_)
      · have hk := zOk_t c hk
        refine zr_iconst (v := (zI (-1))) h dX12_guess_49 rfl ?_
        have hk := zOk_some hk
        exact zr_iret h dX12_guess_50 ⟨_, rfl, hk⟩
      · have hk := zOk_f c hk
        refine zr_iload_n h dX12_guess_40 3 rfl rfl ?_
        refine zr_iconst (v := (zI 0)) h dX12_guess_41 rfl ?_
        refine zr_iconst (v := (zI 4)) h dX12_guess_42 rfl ?_
        refine zr_callSp h zcw_X12_123 (by decide) (c_X12_in E M x3 (zI 0) (zI 4) _ (zOk_bind hk)) rfl rfl (Nat.le_of_ble_eq_true rfl) dX12_guess_43 (fun r_43 hk => ?_)
        refine zr_if_ne (tgt := 51) h dX12_guess_46 (by decide) (fun c => ?_) (fun c => ?_)
        · have hk := zOk_t c hk
          refine zr_iconst (v := (zI (-1))) h dX12_guess_49 rfl ?_
          have hk := zOk_some hk
          exact zr_iret h dX12_guess_50 ⟨_, rfl, hk⟩
        · have hk := zOk_f c hk
          exact w_X12_guess_51 h M x1 x2 x3 v0 hk
    · have hk := zOk_f c hk
      exact w_X12_guess_51 h M x1 x2 x3 v0 hk
noncomputable def f_X12_guess_14 (M : ZMem) (x1 : Int32) (x2 : Int32) (x3 : Int32) : Option (ZMem × Int32) := f_X12_guess_15 M x1 x2 x3 (zI 0)
set_option maxRecDepth 100000 in
set_option maxHeartbeats 4000000 in
theorem w_X12_guess_14 {E : ZEv} {G : ZG} {K : (ZMem × Int32) → Prop} (h : zRu lyR E G (zRm K) cX12_guess RX12 6 (some .int) 6) (M : ZMem) (x1 : Int32) (x2 : Int32) (x3 : Int32) (hk : zOk (f_X12_guess_14 M x1 x2 x3) K) : G M 14 [(0, zrf E 0), (1, .int x1), (2, .int x2), (3, .int x3)] [] := by
  unfold f_X12_guess_14 at hk
  refine zr_iconst (v := (zI 0)) h dX12_guess_14 rfl ?_
  exact w_X12_guess_15 h M x1 x2 x3 (zI 0) hk
noncomputable def f_X12_guess (M : ZMem) (x1 : Int32) (x2 : Int32) (x3 : Int32) : Option (ZMem × Int32) := if x2 = (zI (-1)) then if x3 = (zI (-1)) then f_X12_guess_15 M x1 x2 x3 (zI 1) else f_X12_guess_14 M x1 x2 x3 else f_X12_guess_14 M x1 x2 x3
set_option maxRecDepth 100000 in
set_option maxHeartbeats 4000000 in
theorem c_X12_guess (E : ZEv) (M : ZMem) (x1 : Int32) (x2 : Int32) (x3 : Int32) (K : ZMem × Int32 → Prop) (hk : zOk (f_X12_guess M x1 x2 x3) K) : zCon lyR E yX12_guess cX12_guess 6 (some .int) 6 [zrf E 0, .int x1, .int x2, .int x3] M (zRm K) := by
  refine zcon_of (L0 := [(0, zrf E 0), (1, .int x1), (2, .int x2), (3, .int x3)]) (by decide) rfl (Nat.le_of_ble_eq_true rfl) (fun G h => ?_)
  have h : zRu lyR E G (zRm K) cX12_guess RX12 6 (some .int) 6 := h
  unfold f_X12_guess at hk
  refine zr_iload_n h dX12_guess_0 2 rfl rfl ?_
  refine zr_iconst (v := (zI (-1))) h dX12_guess_1 rfl ?_
  refine zr_icmp_ne (tgt := 14) h dX12_guess_2 (by decide) (fun c => ?_) (fun c => ?_)
  · have hk := zOk_t c hk
    refine zr_iload_n h dX12_guess_5 3 rfl rfl ?_
    refine zr_iconst (v := (zI (-1))) h dX12_guess_6 rfl ?_
    refine zr_icmp_ne (tgt := 14) h dX12_guess_7 (by decide) (fun c => ?_) (fun c => ?_)
    · have hk := zOk_t c hk
      refine zr_iconst (v := (zI 1)) h dX12_guess_10 rfl ?_
      refine zr_goto (tgt := 15) h dX12_guess_11 (by decide) ?_
      exact w_X12_guess_15 h M x1 x2 x3 (zI 1) hk
    · have hk := zOk_f c hk
      exact w_X12_guess_14 h M x1 x2 x3 hk
  · have hk := zOk_f c hk
    exact w_X12_guess_14 h M x1 x2 x3 hk
theorem dX12_unlike_0 : decode cX12_unlike 0 = .ok (.aload_n 0, 1) := by decide +kernel
theorem dX12_unlike_1 : decode cX12_unlike 1 = .ok (.iload_n 1, 1) := by decide +kernel
theorem dX12_unlike_2 : decode cX12_unlike 2 = .ok (.invokevirtual 224, 3) := by decide +kernel
theorem dX12_unlike_5 : decode cX12_unlike 5 = .ok (.ifCond .eq 20, 3) := by decide +kernel
theorem dX12_unlike_8 : decode cX12_unlike 8 = .ok (.aload_n 0, 1) := by decide +kernel
theorem dX12_unlike_9 : decode cX12_unlike 9 = .ok (.iload_n 2, 1) := by decide +kernel
theorem dX12_unlike_10 : decode cX12_unlike 10 = .ok (.invokevirtual 224, 3) := by decide +kernel
theorem dX12_unlike_13 : decode cX12_unlike 13 = .ok (.ifCond .eq 12, 3) := by decide +kernel
theorem dX12_unlike_16 : decode cX12_unlike 16 = .ok (.aload_n 0, 1) := by decide +kernel
theorem dX12_unlike_17 : decode cX12_unlike 17 = .ok (.iload_n 1, 1) := by decide +kernel
theorem dX12_unlike_18 : decode cX12_unlike 18 = .ok (.iload_n 2, 1) := by decide +kernel
theorem dX12_unlike_19 : decode cX12_unlike 19 = .ok (.invokevirtual 252, 3) := by decide +kernel
theorem dX12_unlike_22 : decode cX12_unlike 22 = .ok (.goto 4, 3) := by decide +kernel
theorem dX12_unlike_25 : decode cX12_unlike 25 = .ok (.iconst (-1), 1) := by decide +kernel
theorem dX12_unlike_26 : decode cX12_unlike 26 = .ok (.ireturn, 1) := by decide +kernel
noncomputable def f_X12_unlike (M : ZMem) (x1 : Int32) (x2 : Int32) : Option Int32 := zbind (f_X12_isForm M x1) (fun r_2 => if r_2 = (zI 0) then some (zI (-1)) else zbind (f_X12_isForm M x2) (fun r_10 => if r_10 = (zI 0) then some (zI (-1)) else zbind (f_X12_unlikeOf M x1 x2) (fun r_19 => some r_19)))
set_option maxRecDepth 100000 in
set_option maxHeartbeats 4000000 in
theorem c_X12_unlike (E : ZEv) (M : ZMem) (x1 : Int32) (x2 : Int32) (K : Int32 → Prop) (hk : zOk (f_X12_unlike M x1 x2) K) : zCon lyR E yX12_unlike cX12_unlike 3 (some .int) 3 [zrf E 0, .int x1, .int x2] M (zRp M K) := by
  refine zcon_of (L0 := [(0, zrf E 0), (1, .int x1), (2, .int x2)]) (by decide) rfl (Nat.le_of_ble_eq_true rfl) (fun G h => ?_)
  have h : zRu lyR E G (zRp M K) cX12_unlike RX12 3 (some .int) 3 := h
  unfold f_X12_unlike at hk
  refine zr_aload_n h dX12_unlike_0 0 rfl rfl ?_
  refine zr_iload_n h dX12_unlike_1 1 rfl rfl ?_
  refine zr_callVp h lR_0 zcw_X12_224 (by decide) (c_X12_isForm E M x1 _ (zOk_bind hk)) rfl rfl (Nat.le_of_ble_eq_true rfl) dX12_unlike_2 (fun r_2 hk => ?_)
  refine zr_if_eq (tgt := 25) h dX12_unlike_5 (by decide) (fun c => ?_) (fun c => ?_)
  · have hk := zOk_t c hk
    refine zr_iconst (v := (zI (-1))) h dX12_unlike_25 rfl ?_
    have hk := zOk_some hk
    exact zr_iret h dX12_unlike_26 ⟨rfl, _, rfl, hk⟩
  · have hk := zOk_f c hk
    refine zr_aload_n h dX12_unlike_8 0 rfl rfl ?_
    refine zr_iload_n h dX12_unlike_9 2 rfl rfl ?_
    refine zr_callVp h lR_0 zcw_X12_224 (by decide) (c_X12_isForm E M x2 _ (zOk_bind hk)) rfl rfl (Nat.le_of_ble_eq_true rfl) dX12_unlike_10 (fun r_10 hk => ?_)
    refine zr_if_eq (tgt := 25) h dX12_unlike_13 (by decide) (fun c => ?_) (fun c => ?_)
    · have hk := zOk_t c hk
      refine zr_iconst (v := (zI (-1))) h dX12_unlike_25 rfl ?_
      have hk := zOk_some hk
      exact zr_iret h dX12_unlike_26 ⟨rfl, _, rfl, hk⟩
    · have hk := zOk_f c hk
      refine zr_aload_n h dX12_unlike_16 0 rfl rfl ?_
      refine zr_iload_n h dX12_unlike_17 1 rfl rfl ?_
      refine zr_iload_n h dX12_unlike_18 2 rfl rfl ?_
      refine zr_callVp h lR_0 zcw_X12_252 (by decide) (c_X12_unlikeOf E M x1 x2 _ (zOk_bind hk)) rfl rfl (Nat.le_of_ble_eq_true rfl) dX12_unlike_19 (fun r_19 hk => ?_)
      refine zr_goto (tgt := 26) h dX12_unlike_22 (by decide) ?_
      have hk := zOk_some hk
      exact zr_iret h dX12_unlike_26 ⟨rfl, _, rfl, hk⟩
theorem dX12_sign__0 : decode cX12_sign_ 0 = .ok (.aload_n 0, 1) := by decide +kernel
theorem dX12_sign__1 : decode cX12_sign_ 1 = .ok (.iload_n 1, 1) := by decide +kernel
theorem dX12_sign__2 : decode cX12_sign_ 2 = .ok (.invokevirtual 224, 3) := by decide +kernel
theorem dX12_sign__5 : decode cX12_sign_ 5 = .ok (.ifCond .ne 5, 3) := by decide +kernel
theorem dX12_sign__8 : decode cX12_sign_ 8 = .ok (.iconst (-1), 1) := by decide +kernel
theorem dX12_sign__9 : decode cX12_sign_ 9 = .ok (.ireturn, 1) := by decide +kernel
theorem dX12_sign__10 : decode cX12_sign_ 10 = .ok (.aload_n 0, 1) := by decide +kernel
theorem dX12_sign__11 : decode cX12_sign_ 11 = .ok (.invokevirtual 235, 3) := by decide +kernel
theorem dX12_sign__14 : decode cX12_sign_ 14 = .ok (.aload_n 0, 1) := by decide +kernel
theorem dX12_sign__15 : decode cX12_sign_ 15 = .ok (.getfield 41, 3) := by decide +kernel
theorem dX12_sign__18 : decode cX12_sign_ 18 = .ok (.iload_n 1, 1) := by decide +kernel
theorem dX12_sign__19 : decode cX12_sign_ 19 = .ok (.iaload, 1) := by decide +kernel
theorem dX12_sign__20 : decode cX12_sign_ 20 = .ok (.ireturn, 1) := by decide +kernel
noncomputable def f_X12_sign_ (M : ZMem) (x1 : Int32) : Option (ZMem × Int32) := zbind (f_X12_isForm M x1) (fun r_2 => if r_2 = (zI 0) then some (M, (zI (-1))) else zbind (f_X12_lays M) (fun M_11 => zchk (zin x1 20) (some (M_11, (M_11.1 11 (zix x1))))))
set_option maxRecDepth 100000 in
set_option maxHeartbeats 4000000 in
theorem c_X12_sign_ (E : ZEv) (M : ZMem) (x1 : Int32) (K : ZMem × Int32 → Prop) (hk : zOk (f_X12_sign_ M x1) K) : zCon lyR E yX12_sign_ cX12_sign_ 2 (some .int) 6 [zrf E 0, .int x1] M (zRm K) := by
  refine zcon_of (L0 := [(0, zrf E 0), (1, .int x1)]) (by decide) rfl (Nat.le_of_ble_eq_true rfl) (fun G h => ?_)
  have h : zRu lyR E G (zRm K) cX12_sign_ RX12 2 (some .int) 6 := h
  unfold f_X12_sign_ at hk
  refine zr_aload_n h dX12_sign__0 0 rfl rfl ?_
  refine zr_iload_n h dX12_sign__1 1 rfl rfl ?_
  refine zr_callVp h lR_0 zcw_X12_224 (by decide) (c_X12_isForm E M x1 _ (zOk_bind hk)) rfl rfl (Nat.le_of_ble_eq_true rfl) dX12_sign__2 (fun r_2 hk => ?_)
  refine zr_if_ne (tgt := 10) h dX12_sign__5 (by decide) (fun c => ?_) (fun c => ?_)
  · have hk := zOk_t c hk
    refine zr_iconst (v := (zI (-1))) h dX12_sign__8 rfl ?_
    have hk := zOk_some hk
    exact zr_iret h dX12_sign__9 ⟨_, rfl, hk⟩
  · have hk := zOk_f c hk
    refine zr_aload_n h dX12_sign__10 0 rfl rfl ?_
    refine zr_callVv h lR_0 zcw_X12_235 (by decide) (c_X12_lays E M _ (zOk_bind hk)) rfl rfl (Nat.le_of_ble_eq_true rfl) dX12_sign__11 (fun M_11 hk => ?_)
    refine zr_aload_n h dX12_sign__14 0 rfl rfl ?_
    refine zr_getR h zfo_X12_41 lR_0 rfl dX12_sign__15 ?_
    refine zr_iload_n h dX12_sign__18 1 rfl rfl ?_
    have hb := zOk_chk hk
    have hk := hb.2
    refine zr_iald h lR_11 hb.1 dX12_sign__19 ?_
    have hk := zOk_some hk
    exact zr_iret h dX12_sign__20 ⟨_, rfl, hk⟩
theorem dX12_size_0 : decode cX12_size 0 = .ok (.aload_n 0, 1) := by decide +kernel
theorem dX12_size_1 : decode cX12_size 1 = .ok (.iload_n 1, 1) := by decide +kernel
theorem dX12_size_2 : decode cX12_size 2 = .ok (.invokevirtual 224, 3) := by decide +kernel
theorem dX12_size_5 : decode cX12_size 5 = .ok (.ifCond .ne 5, 3) := by decide +kernel
theorem dX12_size_8 : decode cX12_size 8 = .ok (.iconst (-1), 1) := by decide +kernel
theorem dX12_size_9 : decode cX12_size 9 = .ok (.ireturn, 1) := by decide +kernel
theorem dX12_size_10 : decode cX12_size 10 = .ok (.aload_n 0, 1) := by decide +kernel
theorem dX12_size_11 : decode cX12_size 11 = .ok (.invokevirtual 235, 3) := by decide +kernel
theorem dX12_size_14 : decode cX12_size 14 = .ok (.iconst 0, 1) := by decide +kernel
theorem dX12_size_15 : decode cX12_size 15 = .ok (.istore_n 2, 1) := by decide +kernel
theorem dX12_size_16 : decode cX12_size 16 = .ok (.iconst 0, 1) := by decide +kernel
theorem dX12_size_17 : decode cX12_size 17 = .ok (.istore_n 3, 1) := by decide +kernel
theorem dX12_size_18 : decode cX12_size 18 = .ok (.iload_n 3, 1) := by decide +kernel
theorem dX12_size_19 : decode cX12_size 19 = .ok (.aload_n 0, 1) := by decide +kernel
theorem dX12_size_20 : decode cX12_size 20 = .ok (.getfield 162, 3) := by decide +kernel
theorem dX12_size_23 : decode cX12_size 23 = .ok (.if_icmp .ge 35, 3) := by decide +kernel
theorem dX12_size_26 : decode cX12_size 26 = .ok (.iload_n 2, 1) := by decide +kernel
theorem dX12_size_27 : decode cX12_size 27 = .ok (.aload_n 0, 1) := by decide +kernel
theorem dX12_size_28 : decode cX12_size 28 = .ok (.getfield 41, 3) := by decide +kernel
theorem dX12_size_31 : decode cX12_size 31 = .ok (.iload_n 3, 1) := by decide +kernel
theorem dX12_size_32 : decode cX12_size 32 = .ok (.iaload, 1) := by decide +kernel
theorem dX12_size_33 : decode cX12_size 33 = .ok (.aload_n 0, 1) := by decide +kernel
theorem dX12_size_34 : decode cX12_size 34 = .ok (.getfield 41, 3) := by decide +kernel
theorem dX12_size_37 : decode cX12_size 37 = .ok (.iload_n 1, 1) := by decide +kernel
theorem dX12_size_38 : decode cX12_size 38 = .ok (.iaload, 1) := by decide +kernel
theorem dX12_size_39 : decode cX12_size 39 = .ok (.if_icmp .ne 7, 3) := by decide +kernel
theorem dX12_size_42 : decode cX12_size 42 = .ok (.iconst 1, 1) := by decide +kernel
theorem dX12_size_43 : decode cX12_size 43 = .ok (.goto 4, 3) := by decide +kernel
theorem dX12_size_46 : decode cX12_size 46 = .ok (.iconst 0, 1) := by decide +kernel
theorem dX12_size_47 : decode cX12_size 47 = .ok (.invokestatic 177, 3) := by decide +kernel
theorem dX12_size_50 : decode cX12_size 50 = .ok (.iadd, 1) := by decide +kernel
theorem dX12_size_51 : decode cX12_size 51 = .ok (.istore_n 2, 1) := by decide +kernel
theorem dX12_size_52 : decode cX12_size 52 = .ok (.iinc 3 1, 3) := by decide +kernel
theorem dX12_size_55 : decode cX12_size 55 = .ok (.goto (-37), 3) := by decide +kernel
theorem dX12_size_58 : decode cX12_size 58 = .ok (.iload_n 2, 1) := by decide +kernel
theorem dX12_size_59 : decode cX12_size 59 = .ok (.ireturn, 1) := by decide +kernel
noncomputable def f_X12_size_47_L18 (M : ZMem) (x1 : Int32) (x3 : Int32) (v0 : Int32) (v1 : Int32) : Option ((Int32 × Int32) ⊕ (Int32)) := zbind (f_X12_truth M v1) (fun r_47 => zbnd (v0 + r_47) (fun x2_51 => zbnd (x3 + (zI 1)) (fun x3_52 => some (.inl (x2_51, x3_52)))))
set_option maxRecDepth 100000 in
set_option maxHeartbeats 4000000 in
theorem w_X12_size_47_L18 {E : ZEv} {G : ZG} {K : (ZMem × Int32) → Prop} (h : zRu lyR E G (zRm K) cX12_size RX12 4 (some .int) 6) (M : ZMem) (x1 : Int32) (x3 : Int32) (v0 : Int32) (v1 : Int32) (hk : zOk (f_X12_size_47_L18 M x1 x3 v0 v1) (zlp (fun s => G M 18 [(0, zrf E 0), (1, .int x1), (2, .int s.1), (3, .int s.2)] []) (fun e => G M 58 [(2, .int e)] []))) : G M 47 [(0, zrf E 0), (1, .int x1), (3, .int x3)] [.int v1, .int v0] := by
  unfold f_X12_size_47_L18 at hk
  refine zr_callSp h zcw_X12_177 (by decide) (c_X12_truth E M v1 _ (zOk_bind hk)) rfl rfl (Nat.le_of_ble_eq_true rfl) dX12_size_47 (fun r_47 hk => ?_)
  refine zr_iadd h dX12_size_50 ?_
  refine zr_topi (fun x2_51 ex => ?_)
  have hk := zOk_bnd ex hk
  refine zr_istore_n (L' := [(0, zrf E 0), (1, .int x1), (2, .int x2_51), (3, .int x3)]) h [1, 2, 0, 3] dX12_size_51 rfl (by decide) rfl ?_
  obtain ⟨x3_52, ex⟩ : ∃ y : Int32, y = x3 + (zI 1) := ⟨_, rfl⟩
  have hk := zOk_bnd ex hk
  refine zr_iinc (v := x3_52) (L' := [(0, zrf E 0), (1, .int x1), (2, .int x2_51), (3, .int x3_52)]) h 3 [1, 2, 3, 0] dX12_size_52 rfl (by rw [ex]; rfl) (by decide) rfl ?_
  refine zr_goto (tgt := 18) h dX12_size_55 (by decide) ?_
  have hk := zOk_some hk
  exact zr_weak h [0, 1, 2, 3] rfl hk
noncomputable def f_X12_size_L18 (M : ZMem) (x1 : Int32) (s : (Int32 × Int32)) : Option ((Int32 × Int32) ⊕ (Int32)) := if (M.1 0 4) ≤ s.2 then some (.inr s.1) else zchk (zin s.2 20) (zchk (zin x1 20) (if (M.1 11 (zix s.2)) = (M.1 11 (zix x1)) then f_X12_size_47_L18 M x1 s.2 s.1 (zI 1) else f_X12_size_47_L18 M x1 s.2 s.1 (zI 0)))
set_option maxRecDepth 100000 in
set_option maxHeartbeats 4000000 in
theorem w_X12_size_L18 {E : ZEv} {G : ZG} {K : (ZMem × Int32) → Prop} (h : zRu lyR E G (zRm K) cX12_size RX12 4 (some .int) 6) (M : ZMem) (x1 : Int32) (s : (Int32 × Int32)) (hk : zOk (zloop (f_X12_size_L18 M x1) s) (fun e => G M 58 [(2, .int e)] [])) : G M 18 [(0, zrf E 0), (1, .int x1), (2, .int s.1), (3, .int s.2)] [] := by
  refine zloop_walk (P := fun s => G M 18 [(0, zrf E 0), (1, .int x1), (2, .int s.1), (3, .int s.2)] []) hk (fun s hk => ?_)
  unfold f_X12_size_L18 at hk
  refine zr_iload_n h dX12_size_18 3 rfl rfl ?_
  refine zr_aload_n h dX12_size_19 0 rfl rfl ?_
  refine zr_getI h zfo_X12_162 lR_0 rfl dX12_size_20 ?_
  refine zr_icmp_ge (tgt := 58) h dX12_size_23 (by decide) (fun c => ?_) (fun c => ?_)
  · have hk := zOk_t c hk
    have hk := zOk_some hk
    exact zr_weak h [2] rfl hk
  · have hk := zOk_f c hk
    refine zr_iload_n h dX12_size_26 2 rfl rfl ?_
    refine zr_aload_n h dX12_size_27 0 rfl rfl ?_
    refine zr_getR h zfo_X12_41 lR_0 rfl dX12_size_28 ?_
    refine zr_iload_n h dX12_size_31 3 rfl rfl ?_
    have hb := zOk_chk hk
    have hk := hb.2
    refine zr_iald h lR_11 hb.1 dX12_size_32 ?_
    refine zr_aload_n h dX12_size_33 0 rfl rfl ?_
    refine zr_getR h zfo_X12_41 lR_0 rfl dX12_size_34 ?_
    refine zr_iload_n h dX12_size_37 1 rfl rfl ?_
    have hb := zOk_chk hk
    have hk := hb.2
    refine zr_iald h lR_11 hb.1 dX12_size_38 ?_
    refine zr_icmp_ne (tgt := 46) h dX12_size_39 (by decide) (fun c => ?_) (fun c => ?_)
    · have hk := zOk_t c hk
      refine zr_iconst (v := (zI 1)) h dX12_size_42 rfl ?_
      refine zr_goto (tgt := 47) h dX12_size_43 (by decide) ?_
      exact zr_weak h [0, 1, 3] rfl (w_X12_size_47_L18 h M x1 s.2 s.1 (zI 1) hk)
    · have hk := zOk_f c hk
      refine zr_iconst (v := (zI 0)) h dX12_size_46 rfl ?_
      exact zr_weak h [0, 1, 3] rfl (w_X12_size_47_L18 h M x1 s.2 s.1 (zI 0) hk)
noncomputable def f_X12_size (M : ZMem) (x1 : Int32) : Option (ZMem × Int32) := zbind (f_X12_isForm M x1) (fun r_2 => if r_2 = (zI 0) then some (M, (zI (-1))) else zbind (f_X12_lays M) (fun M_11 => zbind (zloop (f_X12_size_L18 M_11 x1) ((zI 0), (zI 0))) (fun e18 => some (M_11, e18))))
set_option maxRecDepth 100000 in
set_option maxHeartbeats 4000000 in
theorem c_X12_size (E : ZEv) (M : ZMem) (x1 : Int32) (K : ZMem × Int32 → Prop) (hk : zOk (f_X12_size M x1) K) : zCon lyR E yX12_size cX12_size 4 (some .int) 6 [zrf E 0, .int x1] M (zRm K) := by
  refine zcon_of (L0 := [(0, zrf E 0), (1, .int x1)]) (by decide) rfl (Nat.le_of_ble_eq_true rfl) (fun G h => ?_)
  have h : zRu lyR E G (zRm K) cX12_size RX12 4 (some .int) 6 := h
  unfold f_X12_size at hk
  refine zr_aload_n h dX12_size_0 0 rfl rfl ?_
  refine zr_iload_n h dX12_size_1 1 rfl rfl ?_
  refine zr_callVp h lR_0 zcw_X12_224 (by decide) (c_X12_isForm E M x1 _ (zOk_bind hk)) rfl rfl (Nat.le_of_ble_eq_true rfl) dX12_size_2 (fun r_2 hk => ?_)
  refine zr_if_ne (tgt := 10) h dX12_size_5 (by decide) (fun c => ?_) (fun c => ?_)
  · have hk := zOk_t c hk
    refine zr_iconst (v := (zI (-1))) h dX12_size_8 rfl ?_
    have hk := zOk_some hk
    exact zr_iret h dX12_size_9 ⟨_, rfl, hk⟩
  · have hk := zOk_f c hk
    refine zr_aload_n h dX12_size_10 0 rfl rfl ?_
    refine zr_callVv h lR_0 zcw_X12_235 (by decide) (c_X12_lays E M _ (zOk_bind hk)) rfl rfl (Nat.le_of_ble_eq_true rfl) dX12_size_11 (fun M_11 hk => ?_)
    refine zr_iconst (v := (zI 0)) h dX12_size_14 rfl ?_
    refine zr_istore_n (L' := [(0, zrf E 0), (1, .int x1), (2, .int (zI 0))]) h [1, 2, 0] dX12_size_15 rfl (by decide) rfl ?_
    refine zr_iconst (v := (zI 0)) h dX12_size_16 rfl ?_
    refine zr_istore_n (L' := [(0, zrf E 0), (1, .int x1), (2, .int (zI 0)), (3, .int (zI 0))]) h [1, 2, 3, 0] dX12_size_17 rfl (by decide) rfl ?_
    refine w_X12_size_L18 h M_11 x1 ((zI 0), (zI 0)) (zOk_mono (zOk_bind hk) (fun e18 hk => ?_))
    refine zr_iload_n h dX12_size_58 0 rfl rfl ?_
    have hk := zOk_some hk
    exact zr_iret h dX12_size_59 ⟨_, rfl, hk⟩
theorem dX12_joins_0 : decode cX12_joins 0 = .ok (.iconst 0, 1) := by decide +kernel
theorem dX12_joins_1 : decode cX12_joins 1 = .ok (.istore_n 3, 1) := by decide +kernel
theorem dX12_joins_2 : decode cX12_joins 2 = .ok (.iload_n 3, 1) := by decide +kernel
theorem dX12_joins_3 : decode cX12_joins 3 = .ok (.aload_n 0, 1) := by decide +kernel
theorem dX12_joins_4 : decode cX12_joins 4 = .ok (.getfield 162, 3) := by decide +kernel
theorem dX12_joins_7 : decode cX12_joins 7 = .ok (.if_icmp .ge 35, 3) := by decide +kernel
theorem dX12_joins_10 : decode cX12_joins 10 = .ok (.aload_n 0, 1) := by decide +kernel
theorem dX12_joins_11 : decode cX12_joins 11 = .ok (.getfield 44, 3) := by decide +kernel
theorem dX12_joins_14 : decode cX12_joins 14 = .ok (.iload_n 3, 1) := by decide +kernel
theorem dX12_joins_15 : decode cX12_joins 15 = .ok (.aload_n 0, 1) := by decide +kernel
theorem dX12_joins_16 : decode cX12_joins 16 = .ok (.getfield 44, 3) := by decide +kernel
theorem dX12_joins_19 : decode cX12_joins 19 = .ok (.iload_n 3, 1) := by decide +kernel
theorem dX12_joins_20 : decode cX12_joins 20 = .ok (.iaload, 1) := by decide +kernel
theorem dX12_joins_21 : decode cX12_joins 21 = .ok (.iload_n 2, 1) := by decide +kernel
theorem dX12_joins_22 : decode cX12_joins 22 = .ok (.if_icmp .ne 7, 3) := by decide +kernel
theorem dX12_joins_25 : decode cX12_joins 25 = .ok (.iload_n 1, 1) := by decide +kernel
theorem dX12_joins_26 : decode cX12_joins 26 = .ok (.goto 9, 3) := by decide +kernel
theorem dX12_joins_29 : decode cX12_joins 29 = .ok (.aload_n 0, 1) := by decide +kernel
theorem dX12_joins_30 : decode cX12_joins 30 = .ok (.getfield 44, 3) := by decide +kernel
theorem dX12_joins_33 : decode cX12_joins 33 = .ok (.iload_n 3, 1) := by decide +kernel
theorem dX12_joins_34 : decode cX12_joins 34 = .ok (.iaload, 1) := by decide +kernel
theorem dX12_joins_35 : decode cX12_joins 35 = .ok (.iastore, 1) := by decide +kernel
theorem dX12_joins_36 : decode cX12_joins 36 = .ok (.iinc 3 1, 3) := by decide +kernel
theorem dX12_joins_39 : decode cX12_joins 39 = .ok (.goto (-37), 3) := by decide +kernel
theorem dX12_joins_42 : decode cX12_joins 42 = .ok (.return_, 1) := by decide +kernel
noncomputable def f_X12_joins_35_L2 (M : ZMem) (x1 : Int32) (x2 : Int32) (x3 : Int32) (v1 : Int32) (v2 : Int32) : Option ((ZMem × Int32) ⊕ (ZMem)) := zchk (zin v1 20) (zbnd (zstI M 12 (zix v1) v2) (fun M_35 => zbnd (x3 + (zI 1)) (fun x3_36 => some (.inl (M_35, x3_36)))))
set_option maxRecDepth 100000 in
set_option maxHeartbeats 4000000 in
theorem w_X12_joins_35_L2 {E : ZEv} {G : ZG} {K : ZMem → Prop} (h : zRu lyR E G (zRv K) cX12_joins RX12 4 none 0) (M : ZMem) (x1 : Int32) (x2 : Int32) (x3 : Int32) (v1 : Int32) (v2 : Int32) (hk : zOk (f_X12_joins_35_L2 M x1 x2 x3 v1 v2) (zlp (fun s => G s.1 2 [(0, zrf E 0), (1, .int x1), (2, .int x2), (3, .int s.2)] []) (fun e => G e 42 [] []))) : G M 35 [(0, zrf E 0), (1, .int x1), (2, .int x2), (3, .int x3)] [.int v2, .int v1, zrf E 12] := by
  unfold f_X12_joins_35_L2 at hk
  have hb := zOk_chk hk
  have hk := hb.2
  refine zr_iast h lR_12 hb.1 dX12_joins_35 ?_
  refine zr_mem (fun M_35 eM => ?_)
  have hk := zOk_bnd eM hk
  obtain ⟨x3_36, ex⟩ : ∃ y : Int32, y = x3 + (zI 1) := ⟨_, rfl⟩
  have hk := zOk_bnd ex hk
  refine zr_iinc (v := x3_36) (L' := [(0, zrf E 0), (1, .int x1), (2, .int x2), (3, .int x3_36)]) h 3 [1, 2, 3, 0] dX12_joins_36 rfl (by rw [ex]; rfl) (by decide) rfl ?_
  refine zr_goto (tgt := 2) h dX12_joins_39 (by decide) ?_
  have hk := zOk_some hk
  exact zr_weak h [0, 1, 2, 3] rfl hk
noncomputable def f_X12_joins_L2 (x1 : Int32) (x2 : Int32) (s : (ZMem × Int32)) : Option ((ZMem × Int32) ⊕ (ZMem)) := if (s.1.1 0 4) ≤ s.2 then some (.inr s.1) else zchk (zin s.2 20) (if (s.1.1 12 (zix s.2)) = x2 then f_X12_joins_35_L2 s.1 x1 x2 s.2 s.2 x1 else zchk (zin s.2 20) (f_X12_joins_35_L2 s.1 x1 x2 s.2 s.2 (s.1.1 12 (zix s.2))))
set_option maxRecDepth 100000 in
set_option maxHeartbeats 4000000 in
theorem w_X12_joins_L2 {E : ZEv} {G : ZG} {K : ZMem → Prop} (h : zRu lyR E G (zRv K) cX12_joins RX12 4 none 0) (x1 : Int32) (x2 : Int32) (s : (ZMem × Int32)) (hk : zOk (zloop (f_X12_joins_L2 x1 x2) s) (fun e => G e 42 [] [])) : G s.1 2 [(0, zrf E 0), (1, .int x1), (2, .int x2), (3, .int s.2)] [] := by
  refine zloop_walk (P := fun s => G s.1 2 [(0, zrf E 0), (1, .int x1), (2, .int x2), (3, .int s.2)] []) hk (fun s hk => ?_)
  unfold f_X12_joins_L2 at hk
  refine zr_iload_n h dX12_joins_2 3 rfl rfl ?_
  refine zr_aload_n h dX12_joins_3 0 rfl rfl ?_
  refine zr_getI h zfo_X12_162 lR_0 rfl dX12_joins_4 ?_
  refine zr_icmp_ge (tgt := 42) h dX12_joins_7 (by decide) (fun c => ?_) (fun c => ?_)
  · have hk := zOk_t c hk
    have hk := zOk_some hk
    exact zr_weak h [] rfl hk
  · have hk := zOk_f c hk
    refine zr_aload_n h dX12_joins_10 0 rfl rfl ?_
    refine zr_getR h zfo_X12_44 lR_0 rfl dX12_joins_11 ?_
    refine zr_iload_n h dX12_joins_14 3 rfl rfl ?_
    refine zr_aload_n h dX12_joins_15 0 rfl rfl ?_
    refine zr_getR h zfo_X12_44 lR_0 rfl dX12_joins_16 ?_
    refine zr_iload_n h dX12_joins_19 3 rfl rfl ?_
    have hb := zOk_chk hk
    have hk := hb.2
    refine zr_iald h lR_12 hb.1 dX12_joins_20 ?_
    refine zr_iload_n h dX12_joins_21 2 rfl rfl ?_
    refine zr_icmp_ne (tgt := 29) h dX12_joins_22 (by decide) (fun c => ?_) (fun c => ?_)
    · have hk := zOk_t c hk
      refine zr_iload_n h dX12_joins_25 1 rfl rfl ?_
      refine zr_goto (tgt := 35) h dX12_joins_26 (by decide) ?_
      exact w_X12_joins_35_L2 h s.1 x1 x2 s.2 s.2 x1 hk
    · have hk := zOk_f c hk
      refine zr_aload_n h dX12_joins_29 0 rfl rfl ?_
      refine zr_getR h zfo_X12_44 lR_0 rfl dX12_joins_30 ?_
      refine zr_iload_n h dX12_joins_33 3 rfl rfl ?_
      have hb := zOk_chk hk
      have hk := hb.2
      refine zr_iald h lR_12 hb.1 dX12_joins_34 ?_
      exact w_X12_joins_35_L2 h s.1 x1 x2 s.2 s.2 (s.1.1 12 (zix s.2)) hk
noncomputable def f_X12_joins (M : ZMem) (x1 : Int32) (x2 : Int32) : Option ZMem := zbind (zloop (f_X12_joins_L2 x1 x2) (M, (zI 0))) (fun e2 => some e2)
set_option maxRecDepth 100000 in
set_option maxHeartbeats 4000000 in
theorem c_X12_joins (E : ZEv) (M : ZMem) (x1 : Int32) (x2 : Int32) (K : ZMem → Prop) (hk : zOk (f_X12_joins M x1 x2) K) : zCon lyR E yX12_joins cX12_joins 4 none 0 [zrf E 0, .int x1, .int x2] M (zRv K) := by
  refine zcon_of (L0 := [(0, zrf E 0), (1, .int x1), (2, .int x2)]) (by decide) rfl (Nat.le_of_ble_eq_true rfl) (fun G h => ?_)
  have h : zRu lyR E G (zRv K) cX12_joins RX12 4 none 0 := h
  unfold f_X12_joins at hk
  refine zr_iconst (v := (zI 0)) h dX12_joins_0 rfl ?_
  refine zr_istore_n (L' := [(0, zrf E 0), (1, .int x1), (2, .int x2), (3, .int (zI 0))]) h [1, 2, 3, 0] dX12_joins_1 rfl (by decide) rfl ?_
  refine w_X12_joins_L2 h x1 x2 (M, (zI 0)) (zOk_mono (zOk_bind hk) (fun e2 hk => ?_))
  have hk := zOk_some hk
  exact zr_vret h dX12_joins_42 ⟨rfl, hk⟩
theorem dX12_tree_0 : decode cX12_tree 0 = .ok (.iload_n 1, 1) := by decide +kernel
theorem dX12_tree_1 : decode cX12_tree 1 = .ok (.iconst 0, 1) := by decide +kernel
theorem dX12_tree_2 : decode cX12_tree 2 = .ok (.aload_n 0, 1) := by decide +kernel
theorem dX12_tree_3 : decode cX12_tree 3 = .ok (.getfield 162, 3) := by decide +kernel
theorem dX12_tree_6 : decode cX12_tree 6 = .ok (.iconst 2, 1) := by decide +kernel
theorem dX12_tree_7 : decode cX12_tree 7 = .ok (.isub, 1) := by decide +kernel
theorem dX12_tree_8 : decode cX12_tree 8 = .ok (.invokestatic 123, 3) := by decide +kernel
theorem dX12_tree_11 : decode cX12_tree 11 = .ok (.ifCond .eq 12, 3) := by decide +kernel
theorem dX12_tree_14 : decode cX12_tree 14 = .ok (.iload_n 2, 1) := by decide +kernel
theorem dX12_tree_15 : decode cX12_tree 15 = .ok (.iconst 0, 1) := by decide +kernel
theorem dX12_tree_16 : decode cX12_tree 16 = .ok (.iconst 2, 1) := by decide +kernel
theorem dX12_tree_17 : decode cX12_tree 17 = .ok (.invokestatic 123, 3) := by decide +kernel
theorem dX12_tree_20 : decode cX12_tree 20 = .ok (.ifCond .ne 5, 3) := by decide +kernel
theorem dX12_tree_23 : decode cX12_tree 23 = .ok (.iconst (-1), 1) := by decide +kernel
theorem dX12_tree_24 : decode cX12_tree 24 = .ok (.ireturn, 1) := by decide +kernel
theorem dX12_tree_25 : decode cX12_tree 25 = .ok (.iconst 0, 1) := by decide +kernel
theorem dX12_tree_26 : decode cX12_tree 26 = .ok (.istore_n 3, 1) := by decide +kernel
theorem dX12_tree_27 : decode cX12_tree 27 = .ok (.iload_n 3, 1) := by decide +kernel
theorem dX12_tree_28 : decode cX12_tree 28 = .ok (.aload_n 0, 1) := by decide +kernel
theorem dX12_tree_29 : decode cX12_tree 29 = .ok (.getfield 162, 3) := by decide +kernel
theorem dX12_tree_32 : decode cX12_tree 32 = .ok (.if_icmp .ge 16, 3) := by decide +kernel
theorem dX12_tree_35 : decode cX12_tree 35 = .ok (.aload_n 0, 1) := by decide +kernel
theorem dX12_tree_36 : decode cX12_tree 36 = .ok (.getfield 44, 3) := by decide +kernel
theorem dX12_tree_39 : decode cX12_tree 39 = .ok (.iload_n 3, 1) := by decide +kernel
theorem dX12_tree_40 : decode cX12_tree 40 = .ok (.iload_n 3, 1) := by decide +kernel
theorem dX12_tree_41 : decode cX12_tree 41 = .ok (.iastore, 1) := by decide +kernel
theorem dX12_tree_42 : decode cX12_tree 42 = .ok (.iinc 3 1, 3) := by decide +kernel
theorem dX12_tree_45 : decode cX12_tree 45 = .ok (.goto (-18), 3) := by decide +kernel
theorem dX12_tree_48 : decode cX12_tree 48 = .ok (.iconst 0, 1) := by decide +kernel
theorem dX12_tree_49 : decode cX12_tree 49 = .ok (.istore_n 3, 1) := by decide +kernel
theorem dX12_tree_50 : decode cX12_tree 50 = .ok (.iconst 0, 1) := by decide +kernel
theorem dX12_tree_51 : decode cX12_tree 51 = .ok (.istore 4, 2) := by decide +kernel
theorem dX12_tree_53 : decode cX12_tree 53 = .ok (.iload 4, 2) := by decide +kernel
theorem dX12_tree_55 : decode cX12_tree 55 = .ok (.bipush 25, 2) := by decide +kernel
theorem dX12_tree_57 : decode cX12_tree 57 = .ok (.if_icmp .gt 129, 3) := by decide +kernel
theorem dX12_tree_60 : decode cX12_tree 60 = .ok (.iconst 0, 1) := by decide +kernel
theorem dX12_tree_61 : decode cX12_tree 61 = .ok (.istore 5, 2) := by decide +kernel
theorem dX12_tree_63 : decode cX12_tree 63 = .ok (.iload 5, 2) := by decide +kernel
theorem dX12_tree_65 : decode cX12_tree 65 = .ok (.aload_n 0, 1) := by decide +kernel
theorem dX12_tree_66 : decode cX12_tree 66 = .ok (.getfield 162, 3) := by decide +kernel
theorem dX12_tree_69 : decode cX12_tree 69 = .ok (.if_icmp .ge 111, 3) := by decide +kernel
theorem dX12_tree_72 : decode cX12_tree 72 = .ok (.iload 5, 2) := by decide +kernel
theorem dX12_tree_74 : decode cX12_tree 74 = .ok (.iconst 1, 1) := by decide +kernel
theorem dX12_tree_75 : decode cX12_tree 75 = .ok (.iadd, 1) := by decide +kernel
theorem dX12_tree_76 : decode cX12_tree 76 = .ok (.istore 6, 2) := by decide +kernel
theorem dX12_tree_78 : decode cX12_tree 78 = .ok (.iload 6, 2) := by decide +kernel
theorem dX12_tree_80 : decode cX12_tree 80 = .ok (.aload_n 0, 1) := by decide +kernel
theorem dX12_tree_81 : decode cX12_tree 81 = .ok (.getfield 162, 3) := by decide +kernel
theorem dX12_tree_84 : decode cX12_tree 84 = .ok (.if_icmp .ge 90, 3) := by decide +kernel
theorem dX12_tree_87 : decode cX12_tree 87 = .ok (.aload_n 0, 1) := by decide +kernel
theorem dX12_tree_88 : decode cX12_tree 88 = .ok (.getfield 44, 3) := by decide +kernel
theorem dX12_tree_91 : decode cX12_tree 91 = .ok (.iload 5, 2) := by decide +kernel
theorem dX12_tree_93 : decode cX12_tree 93 = .ok (.iaload, 1) := by decide +kernel
theorem dX12_tree_94 : decode cX12_tree 94 = .ok (.aload_n 0, 1) := by decide +kernel
theorem dX12_tree_95 : decode cX12_tree 95 = .ok (.getfield 44, 3) := by decide +kernel
theorem dX12_tree_98 : decode cX12_tree 98 = .ok (.iload 6, 2) := by decide +kernel
theorem dX12_tree_100 : decode cX12_tree 100 = .ok (.iaload, 1) := by decide +kernel
theorem dX12_tree_101 : decode cX12_tree 101 = .ok (.if_icmp .eq 67, 3) := by decide +kernel
theorem dX12_tree_104 : decode cX12_tree 104 = .ok (.aload_n 0, 1) := by decide +kernel
theorem dX12_tree_105 : decode cX12_tree 105 = .ok (.iload 5, 2) := by decide +kernel
theorem dX12_tree_107 : decode cX12_tree 107 = .ok (.iload 6, 2) := by decide +kernel
theorem dX12_tree_109 : decode cX12_tree 109 = .ok (.invokevirtual 252, 3) := by decide +kernel
theorem dX12_tree_112 : decode cX12_tree 112 = .ok (.iload 4, 2) := by decide +kernel
theorem dX12_tree_114 : decode cX12_tree 114 = .ok (.if_icmp .eq 6, 3) := by decide +kernel
theorem dX12_tree_117 : decode cX12_tree 117 = .ok (.goto 51, 3) := by decide +kernel
theorem dX12_tree_120 : decode cX12_tree 120 = .ok (.iload_n 3, 1) := by decide +kernel
theorem dX12_tree_121 : decode cX12_tree 121 = .ok (.iload_n 1, 1) := by decide +kernel
theorem dX12_tree_122 : decode cX12_tree 122 = .ok (.if_icmp .ne 25, 3) := by decide +kernel
theorem dX12_tree_125 : decode cX12_tree 125 = .ok (.iload_n 2, 1) := by decide +kernel
theorem dX12_tree_126 : decode cX12_tree 126 = .ok (.ifCond .ne 8, 3) := by decide +kernel
theorem dX12_tree_129 : decode cX12_tree 129 = .ok (.iload 4, 2) := by decide +kernel
theorem dX12_tree_131 : decode cX12_tree 131 = .ok (.goto 15, 3) := by decide +kernel
theorem dX12_tree_134 : decode cX12_tree 134 = .ok (.iload_n 2, 1) := by decide +kernel
theorem dX12_tree_135 : decode cX12_tree 135 = .ok (.iconst 1, 1) := by decide +kernel
theorem dX12_tree_136 : decode cX12_tree 136 = .ok (.if_icmp .ne 8, 3) := by decide +kernel
theorem dX12_tree_139 : decode cX12_tree 139 = .ok (.iload 5, 2) := by decide +kernel
theorem dX12_tree_141 : decode cX12_tree 141 = .ok (.goto 5, 3) := by decide +kernel
theorem dX12_tree_144 : decode cX12_tree 144 = .ok (.iload 6, 2) := by decide +kernel
theorem dX12_tree_146 : decode cX12_tree 146 = .ok (.ireturn, 1) := by decide +kernel
theorem dX12_tree_147 : decode cX12_tree 147 = .ok (.iinc 3 1, 3) := by decide +kernel
theorem dX12_tree_150 : decode cX12_tree 150 = .ok (.aload_n 0, 1) := by decide +kernel
theorem dX12_tree_151 : decode cX12_tree 151 = .ok (.aload_n 0, 1) := by decide +kernel
theorem dX12_tree_152 : decode cX12_tree 152 = .ok (.getfield 44, 3) := by decide +kernel
theorem dX12_tree_155 : decode cX12_tree 155 = .ok (.iload 5, 2) := by decide +kernel
theorem dX12_tree_157 : decode cX12_tree 157 = .ok (.iaload, 1) := by decide +kernel
theorem dX12_tree_158 : decode cX12_tree 158 = .ok (.aload_n 0, 1) := by decide +kernel
theorem dX12_tree_159 : decode cX12_tree 159 = .ok (.getfield 44, 3) := by decide +kernel
theorem dX12_tree_162 : decode cX12_tree 162 = .ok (.iload 6, 2) := by decide +kernel
theorem dX12_tree_164 : decode cX12_tree 164 = .ok (.iaload, 1) := by decide +kernel
theorem dX12_tree_165 : decode cX12_tree 165 = .ok (.invokevirtual 262, 3) := by decide +kernel
theorem dX12_tree_168 : decode cX12_tree 168 = .ok (.iinc 6 1, 3) := by decide +kernel
theorem dX12_tree_171 : decode cX12_tree 171 = .ok (.goto (-93), 3) := by decide +kernel
theorem dX12_tree_174 : decode cX12_tree 174 = .ok (.iinc 5 1, 3) := by decide +kernel
theorem dX12_tree_177 : decode cX12_tree 177 = .ok (.goto (-114), 3) := by decide +kernel
theorem dX12_tree_180 : decode cX12_tree 180 = .ok (.iinc 4 1, 3) := by decide +kernel
theorem dX12_tree_183 : decode cX12_tree 183 = .ok (.goto (-130), 3) := by decide +kernel
theorem dX12_tree_186 : decode cX12_tree 186 = .ok (.iconst (-1), 1) := by decide +kernel
theorem dX12_tree_187 : decode cX12_tree 187 = .ok (.ireturn, 1) := by decide +kernel
noncomputable def f_X12_tree_L27 (x1 : Int32) (x2 : Int32) (s : (ZMem × Int32)) : Option ((ZMem × Int32) ⊕ (ZMem)) := if (s.1.1 0 4) ≤ s.2 then some (.inr s.1) else zchk (zin s.2 20) (zbnd (zstI s.1 12 (zix s.2) s.2) (fun M_41 => zbnd (s.2 + (zI 1)) (fun x3_42 => some (.inl (M_41, x3_42)))))
set_option maxRecDepth 100000 in
set_option maxHeartbeats 4000000 in
theorem w_X12_tree_L27 {E : ZEv} {G : ZG} {K : (ZMem × Int32) → Prop} (h : zRu lyR E G (zRm K) cX12_tree RX12 7 (some .int) 3) (x1 : Int32) (x2 : Int32) (s : (ZMem × Int32)) (hk : zOk (zloop (f_X12_tree_L27 x1 x2) s) (fun e => G e 48 [(0, zrf E 0), (1, .int x1), (2, .int x2)] [])) : G s.1 27 [(0, zrf E 0), (1, .int x1), (2, .int x2), (3, .int s.2)] [] := by
  refine zloop_walk (P := fun s => G s.1 27 [(0, zrf E 0), (1, .int x1), (2, .int x2), (3, .int s.2)] []) hk (fun s hk => ?_)
  unfold f_X12_tree_L27 at hk
  refine zr_iload_n h dX12_tree_27 3 rfl rfl ?_
  refine zr_aload_n h dX12_tree_28 0 rfl rfl ?_
  refine zr_getI h zfo_X12_162 lR_0 rfl dX12_tree_29 ?_
  refine zr_icmp_ge (tgt := 48) h dX12_tree_32 (by decide) (fun c => ?_) (fun c => ?_)
  · have hk := zOk_t c hk
    have hk := zOk_some hk
    exact zr_weak h [0, 1, 2] rfl hk
  · have hk := zOk_f c hk
    refine zr_aload_n h dX12_tree_35 0 rfl rfl ?_
    refine zr_getR h zfo_X12_44 lR_0 rfl dX12_tree_36 ?_
    refine zr_iload_n h dX12_tree_39 3 rfl rfl ?_
    refine zr_iload_n h dX12_tree_40 3 rfl rfl ?_
    have hb := zOk_chk hk
    have hk := hb.2
    refine zr_iast h lR_12 hb.1 dX12_tree_41 ?_
    refine zr_mem (fun M_41 eM => ?_)
    have hk := zOk_bnd eM hk
    obtain ⟨x3_42, ex⟩ : ∃ y : Int32, y = s.2 + (zI 1) := ⟨_, rfl⟩
    have hk := zOk_bnd ex hk
    refine zr_iinc (v := x3_42) (L' := [(0, zrf E 0), (1, .int x1), (2, .int x2), (3, .int x3_42)]) h 3 [1, 2, 3, 0] dX12_tree_42 rfl (by rw [ex]; rfl) (by decide) rfl ?_
    refine zr_goto (tgt := 27) h dX12_tree_45 (by decide) ?_
    have hk := zOk_some hk
    exact zr_weak h [0, 1, 2, 3] rfl hk
noncomputable def f_X12_tree_L78 (x1 : Int32) (x2 : Int32) (x4 : Int32) (x5 : Int32) (s : (ZMem × Int32 × Int32)) : Option ((ZMem × Int32 × Int32) ⊕ ((ZMem × Int32) ⊕ (ZMem × Int32))) := if (s.1.1 0 4) ≤ s.2.2 then some (.inr (.inl (s.1, s.2.1))) else zchk (zin x5 20) (zchk (zin s.2.2 20) (if (s.1.1 12 (zix x5)) = (s.1.1 12 (zix s.2.2)) then zbnd (s.2.2 + (zI 1)) (fun x6_168 => some (.inl (s.1, s.2.1, x6_168))) else zbind (f_X12_unlikeOf s.1 x5 s.2.2) (fun r_109 => if r_109 = x4 then if s.2.1 = x1 then if x2 = (zI 0) then some (.inr (.inr (s.1, x4))) else if x2 = (zI 1) then some (.inr (.inr (s.1, x5))) else some (.inr (.inr (s.1, s.2.2))) else zbnd (s.2.1 + (zI 1)) (fun x3_147 => zchk (zin x5 20) (zchk (zin s.2.2 20) (zbind (f_X12_joins s.1 (s.1.1 12 (zix x5)) (s.1.1 12 (zix s.2.2))) (fun M_165 => zbnd (s.2.2 + (zI 1)) (fun x6_168 => some (.inl (M_165, x3_147, x6_168))))))) else zbnd (s.2.2 + (zI 1)) (fun x6_168 => some (.inl (s.1, s.2.1, x6_168))))))
set_option maxRecDepth 100000 in
set_option maxHeartbeats 4000000 in
theorem w_X12_tree_L78 {E : ZEv} {G : ZG} {K : (ZMem × Int32) → Prop} (h : zRu lyR E G (zRm K) cX12_tree RX12 7 (some .int) 3) (x1 : Int32) (x2 : Int32) (x4 : Int32) (x5 : Int32) (s : (ZMem × Int32 × Int32)) (hk : zOk (zloop (f_X12_tree_L78 x1 x2 x4 x5) s) (fun e => zsel e (fun e0 => G e0.1 174 [(0, zrf E 0), (1, .int x1), (2, .int x2), (3, .int e0.2), (4, .int x4), (5, .int x5)] []) (fun f0 => K f0))) : G s.1 78 [(0, zrf E 0), (1, .int x1), (2, .int x2), (3, .int s.2.1), (4, .int x4), (5, .int x5), (6, .int s.2.2)] [] := by
  refine zloop_walk (P := fun s => G s.1 78 [(0, zrf E 0), (1, .int x1), (2, .int x2), (3, .int s.2.1), (4, .int x4), (5, .int x5), (6, .int s.2.2)] []) hk (fun s hk => ?_)
  unfold f_X12_tree_L78 at hk
  refine zr_iload h dX12_tree_78 6 rfl ?_
  refine zr_aload_n h dX12_tree_80 0 rfl rfl ?_
  refine zr_getI h zfo_X12_162 lR_0 rfl dX12_tree_81 ?_
  refine zr_icmp_ge (tgt := 174) h dX12_tree_84 (by decide) (fun c => ?_) (fun c => ?_)
  · have hk := zOk_t c hk
    have hk := zOk_some hk
    exact zr_weak h [0, 1, 2, 3, 4, 5] rfl hk
  · have hk := zOk_f c hk
    refine zr_aload_n h dX12_tree_87 0 rfl rfl ?_
    refine zr_getR h zfo_X12_44 lR_0 rfl dX12_tree_88 ?_
    refine zr_iload h dX12_tree_91 5 rfl ?_
    have hb := zOk_chk hk
    have hk := hb.2
    refine zr_iald h lR_12 hb.1 dX12_tree_93 ?_
    refine zr_aload_n h dX12_tree_94 0 rfl rfl ?_
    refine zr_getR h zfo_X12_44 lR_0 rfl dX12_tree_95 ?_
    refine zr_iload h dX12_tree_98 6 rfl ?_
    have hb := zOk_chk hk
    have hk := hb.2
    refine zr_iald h lR_12 hb.1 dX12_tree_100 ?_
    refine zr_icmp_eq (tgt := 168) h dX12_tree_101 (by decide) (fun c => ?_) (fun c => ?_)
    · have hk := zOk_t c hk
      obtain ⟨x6_168, ex⟩ : ∃ y : Int32, y = s.2.2 + (zI 1) := ⟨_, rfl⟩
      have hk := zOk_bnd ex hk
      refine zr_iinc (v := x6_168) (L' := [(0, zrf E 0), (1, .int x1), (2, .int x2), (3, .int s.2.1), (4, .int x4), (5, .int x5), (6, .int x6_168)]) h 6 [1, 2, 3, 4, 5, 6, 0] dX12_tree_168 rfl (by rw [ex]; rfl) (by decide) rfl ?_
      refine zr_goto (tgt := 78) h dX12_tree_171 (by decide) ?_
      have hk := zOk_some hk
      exact zr_weak h [0, 1, 2, 3, 4, 5, 6] rfl hk
    · have hk := zOk_f c hk
      refine zr_aload_n h dX12_tree_104 0 rfl rfl ?_
      refine zr_iload h dX12_tree_105 5 rfl ?_
      refine zr_iload h dX12_tree_107 6 rfl ?_
      refine zr_callVp h lR_0 zcw_X12_252 (by decide) (c_X12_unlikeOf E s.1 x5 s.2.2 _ (zOk_bind hk)) rfl rfl (Nat.le_of_ble_eq_true rfl) dX12_tree_109 (fun r_109 hk => ?_)
      refine zr_iload h dX12_tree_112 4 rfl ?_
      refine zr_icmp_eq (tgt := 120) h dX12_tree_114 (by decide) (fun c => ?_) (fun c => ?_)
      · have hk := zOk_t c hk
        refine zr_iload_n h dX12_tree_120 3 rfl rfl ?_
        refine zr_iload_n h dX12_tree_121 1 rfl rfl ?_
        refine zr_icmp_ne (tgt := 147) h dX12_tree_122 (by decide) (fun c => ?_) (fun c => ?_)
        · have hk := zOk_t c hk
          refine zr_iload_n h dX12_tree_125 2 rfl rfl ?_
          refine zr_if_ne (tgt := 134) h dX12_tree_126 (by decide) (fun c => ?_) (fun c => ?_)
          · have hk := zOk_t c hk
            refine zr_iload h dX12_tree_129 4 rfl ?_
            refine zr_goto (tgt := 146) h dX12_tree_131 (by decide) ?_
            have hk := zOk_some hk
            exact zr_iret h dX12_tree_146 ⟨_, rfl, hk⟩
          · have hk := zOk_f c hk
            refine zr_iload_n h dX12_tree_134 2 rfl rfl ?_
            refine zr_iconst (v := (zI 1)) h dX12_tree_135 rfl ?_
            refine zr_icmp_ne (tgt := 144) h dX12_tree_136 (by decide) (fun c => ?_) (fun c => ?_)
            · have hk := zOk_t c hk
              refine zr_iload h dX12_tree_139 5 rfl ?_
              refine zr_goto (tgt := 146) h dX12_tree_141 (by decide) ?_
              have hk := zOk_some hk
              exact zr_iret h dX12_tree_146 ⟨_, rfl, hk⟩
            · have hk := zOk_f c hk
              refine zr_iload h dX12_tree_144 6 rfl ?_
              have hk := zOk_some hk
              exact zr_iret h dX12_tree_146 ⟨_, rfl, hk⟩
        · have hk := zOk_f c hk
          obtain ⟨x3_147, ex⟩ : ∃ y : Int32, y = s.2.1 + (zI 1) := ⟨_, rfl⟩
          have hk := zOk_bnd ex hk
          refine zr_iinc (v := x3_147) (L' := [(0, zrf E 0), (1, .int x1), (2, .int x2), (3, .int x3_147), (4, .int x4), (5, .int x5), (6, .int s.2.2)]) h 3 [1, 2, 3, 0, 4, 5, 6] dX12_tree_147 rfl (by rw [ex]; rfl) (by decide) rfl ?_
          refine zr_aload_n h dX12_tree_150 0 rfl rfl ?_
          refine zr_aload_n h dX12_tree_151 0 rfl rfl ?_
          refine zr_getR h zfo_X12_44 lR_0 rfl dX12_tree_152 ?_
          refine zr_iload h dX12_tree_155 5 rfl ?_
          have hb := zOk_chk hk
          have hk := hb.2
          refine zr_iald h lR_12 hb.1 dX12_tree_157 ?_
          refine zr_aload_n h dX12_tree_158 0 rfl rfl ?_
          refine zr_getR h zfo_X12_44 lR_0 rfl dX12_tree_159 ?_
          refine zr_iload h dX12_tree_162 6 rfl ?_
          have hb := zOk_chk hk
          have hk := hb.2
          refine zr_iald h lR_12 hb.1 dX12_tree_164 ?_
          refine zr_callVv h lR_0 zcw_X12_262 (by decide) (c_X12_joins E s.1 (s.1.1 12 (zix x5)) (s.1.1 12 (zix s.2.2)) _ (zOk_bind hk)) rfl rfl (Nat.le_of_ble_eq_true rfl) dX12_tree_165 (fun M_165 hk => ?_)
          obtain ⟨x6_168, ex⟩ : ∃ y : Int32, y = s.2.2 + (zI 1) := ⟨_, rfl⟩
          have hk := zOk_bnd ex hk
          refine zr_iinc (v := x6_168) (L' := [(0, zrf E 0), (1, .int x1), (2, .int x2), (3, .int x3_147), (4, .int x4), (5, .int x5), (6, .int x6_168)]) h 6 [1, 2, 3, 4, 5, 6, 0] dX12_tree_168 rfl (by rw [ex]; rfl) (by decide) rfl ?_
          refine zr_goto (tgt := 78) h dX12_tree_171 (by decide) ?_
          have hk := zOk_some hk
          exact zr_weak h [0, 1, 2, 3, 4, 5, 6] rfl hk
      · have hk := zOk_f c hk
        refine zr_goto (tgt := 168) h dX12_tree_117 (by decide) ?_
        obtain ⟨x6_168, ex⟩ : ∃ y : Int32, y = s.2.2 + (zI 1) := ⟨_, rfl⟩
        have hk := zOk_bnd ex hk
        refine zr_iinc (v := x6_168) (L' := [(0, zrf E 0), (1, .int x1), (2, .int x2), (3, .int s.2.1), (4, .int x4), (5, .int x5), (6, .int x6_168)]) h 6 [1, 2, 3, 4, 5, 6, 0] dX12_tree_168 rfl (by rw [ex]; rfl) (by decide) rfl ?_
        refine zr_goto (tgt := 78) h dX12_tree_171 (by decide) ?_
        have hk := zOk_some hk
        exact zr_weak h [0, 1, 2, 3, 4, 5, 6] rfl hk
noncomputable def f_X12_tree_L63 (x1 : Int32) (x2 : Int32) (x4 : Int32) (s : (ZMem × Int32 × Int32)) : Option ((ZMem × Int32 × Int32) ⊕ ((ZMem × Int32) ⊕ (ZMem × Int32))) := if (s.1.1 0 4) ≤ s.2.2 then some (.inr (.inl (s.1, s.2.1))) else zbnd (s.2.2 + (zI 1)) (fun x6_76 => zbind (zloop (f_X12_tree_L78 x1 x2 x4 s.2.2) (s.1, s.2.1, x6_76)) (fun e78 => zsel e78 (fun e78a => zbnd (s.2.2 + (zI 1)) (fun x5_174 => some (.inl (e78a.1, e78a.2, x5_174)))) (fun e78b => some (.inr (.inr e78b)))))
set_option maxRecDepth 100000 in
set_option maxHeartbeats 4000000 in
theorem w_X12_tree_L63 {E : ZEv} {G : ZG} {K : (ZMem × Int32) → Prop} (h : zRu lyR E G (zRm K) cX12_tree RX12 7 (some .int) 3) (x1 : Int32) (x2 : Int32) (x4 : Int32) (s : (ZMem × Int32 × Int32)) (hk : zOk (zloop (f_X12_tree_L63 x1 x2 x4) s) (fun e => zsel e (fun e0 => G e0.1 180 [(0, zrf E 0), (1, .int x1), (2, .int x2), (3, .int e0.2), (4, .int x4)] []) (fun f0 => K f0))) : G s.1 63 [(0, zrf E 0), (1, .int x1), (2, .int x2), (3, .int s.2.1), (4, .int x4), (5, .int s.2.2)] [] := by
  refine zloop_walk (P := fun s => G s.1 63 [(0, zrf E 0), (1, .int x1), (2, .int x2), (3, .int s.2.1), (4, .int x4), (5, .int s.2.2)] []) hk (fun s hk => ?_)
  unfold f_X12_tree_L63 at hk
  refine zr_iload h dX12_tree_63 5 rfl ?_
  refine zr_aload_n h dX12_tree_65 0 rfl rfl ?_
  refine zr_getI h zfo_X12_162 lR_0 rfl dX12_tree_66 ?_
  refine zr_icmp_ge (tgt := 180) h dX12_tree_69 (by decide) (fun c => ?_) (fun c => ?_)
  · have hk := zOk_t c hk
    have hk := zOk_some hk
    exact zr_weak h [0, 1, 2, 3, 4] rfl hk
  · have hk := zOk_f c hk
    refine zr_iload h dX12_tree_72 5 rfl ?_
    refine zr_iconst (v := (zI 1)) h dX12_tree_74 rfl ?_
    refine zr_iadd h dX12_tree_75 ?_
    refine zr_topi (fun x6_76 ex => ?_)
    have hk := zOk_bnd ex hk
    refine zr_istore (L' := [(0, zrf E 0), (1, .int x1), (2, .int x2), (3, .int s.2.1), (4, .int x4), (5, .int s.2.2), (6, .int x6_76)]) h [1, 2, 3, 4, 5, 6, 0] dX12_tree_76 (by decide) rfl ?_
    refine w_X12_tree_L78 h x1 x2 x4 s.2.2 (s.1, s.2.1, x6_76) (zOk_mono (zOk_bind hk) (fun e78 hk => ?_))
    cases e78 with
    | inl e78a =>
      have hk := zOk_selL hk
      obtain ⟨x5_174, ex⟩ : ∃ y : Int32, y = s.2.2 + (zI 1) := ⟨_, rfl⟩
      have hk := zOk_bnd ex hk
      refine zr_iinc (v := x5_174) (L' := [(0, zrf E 0), (1, .int x1), (2, .int x2), (3, .int e78a.2), (4, .int x4), (5, .int x5_174)]) h 5 [1, 2, 3, 4, 5, 0] dX12_tree_174 rfl (by rw [ex]; rfl) (by decide) rfl ?_
      refine zr_goto (tgt := 63) h dX12_tree_177 (by decide) ?_
      have hk := zOk_some hk
      exact zr_weak h [0, 1, 2, 3, 4, 5] rfl hk
    | inr e78b =>
      have hk := zOk_selR hk
      have hk := zOk_some hk
      exact hk
noncomputable def f_X12_tree_L53 (x1 : Int32) (x2 : Int32) (s : (ZMem × Int32 × Int32)) : Option ((ZMem × Int32 × Int32) ⊕ ((ZMem) ⊕ (ZMem × Int32))) := if (zI 25) < s.2.2 then some (.inr (.inl s.1)) else zbind (zloop (f_X12_tree_L63 x1 x2 s.2.2) (s.1, s.2.1, (zI 0))) (fun e63 => zsel e63 (fun e63a => zbnd (s.2.2 + (zI 1)) (fun x4_180 => some (.inl (e63a.1, e63a.2, x4_180)))) (fun e63b => some (.inr (.inr e63b))))
set_option maxRecDepth 100000 in
set_option maxHeartbeats 4000000 in
theorem w_X12_tree_L53 {E : ZEv} {G : ZG} {K : (ZMem × Int32) → Prop} (h : zRu lyR E G (zRm K) cX12_tree RX12 7 (some .int) 3) (x1 : Int32) (x2 : Int32) (s : (ZMem × Int32 × Int32)) (hk : zOk (zloop (f_X12_tree_L53 x1 x2) s) (fun e => zsel e (fun e0 => G e0 186 [] []) (fun f0 => K f0))) : G s.1 53 [(0, zrf E 0), (1, .int x1), (2, .int x2), (3, .int s.2.1), (4, .int s.2.2)] [] := by
  refine zloop_walk (P := fun s => G s.1 53 [(0, zrf E 0), (1, .int x1), (2, .int x2), (3, .int s.2.1), (4, .int s.2.2)] []) hk (fun s hk => ?_)
  unfold f_X12_tree_L53 at hk
  refine zr_iload h dX12_tree_53 4 rfl ?_
  refine zr_bipush (v := (zI 25)) h dX12_tree_55 (by decide) ?_
  refine zr_icmp_gt (tgt := 186) h dX12_tree_57 (by decide) (fun c => ?_) (fun c => ?_)
  · have hk := zOk_t c hk
    have hk := zOk_some hk
    exact zr_weak h [] rfl hk
  · have hk := zOk_f c hk
    refine zr_iconst (v := (zI 0)) h dX12_tree_60 rfl ?_
    refine zr_istore (L' := [(0, zrf E 0), (1, .int x1), (2, .int x2), (3, .int s.2.1), (4, .int s.2.2), (5, .int (zI 0))]) h [1, 2, 3, 4, 5, 0] dX12_tree_61 (by decide) rfl ?_
    refine w_X12_tree_L63 h x1 x2 s.2.2 (s.1, s.2.1, (zI 0)) (zOk_mono (zOk_bind hk) (fun e63 hk => ?_))
    cases e63 with
    | inl e63a =>
      have hk := zOk_selL hk
      obtain ⟨x4_180, ex⟩ : ∃ y : Int32, y = s.2.2 + (zI 1) := ⟨_, rfl⟩
      have hk := zOk_bnd ex hk
      refine zr_iinc (v := x4_180) (L' := [(0, zrf E 0), (1, .int x1), (2, .int x2), (3, .int e63a.2), (4, .int x4_180)]) h 4 [1, 2, 3, 4, 0] dX12_tree_180 rfl (by rw [ex]; rfl) (by decide) rfl ?_
      refine zr_goto (tgt := 53) h dX12_tree_183 (by decide) ?_
      have hk := zOk_some hk
      exact zr_weak h [0, 1, 2, 3, 4] rfl hk
    | inr e63b =>
      have hk := zOk_selR hk
      have hk := zOk_some hk
      exact hk
noncomputable def f_X12_tree (M : ZMem) (x1 : Int32) (x2 : Int32) : Option (ZMem × Int32) := zbind (f_X12_in M x1 (zI 0) ((M.1 0 4) - (zI 2))) (fun r_8 => if r_8 = (zI 0) then some (M, (zI (-1))) else zbind (f_X12_in M x2 (zI 0) (zI 2)) (fun r_17 => if r_17 = (zI 0) then some (M, (zI (-1))) else zbind (zloop (f_X12_tree_L27 x1 x2) (M, (zI 0))) (fun e27 => zbind (zloop (f_X12_tree_L53 x1 x2) (e27, (zI 0), (zI 0))) (fun e53 => zsel e53 (fun e53a => some (e53a, (zI (-1)))) (fun e53b => some e53b)))))
set_option maxRecDepth 100000 in
set_option maxHeartbeats 4000000 in
theorem c_X12_tree (E : ZEv) (M : ZMem) (x1 : Int32) (x2 : Int32) (K : ZMem × Int32 → Prop) (hk : zOk (f_X12_tree M x1 x2) K) : zCon lyR E yX12_tree cX12_tree 7 (some .int) 3 [zrf E 0, .int x1, .int x2] M (zRm K) := by
  refine zcon_of (L0 := [(0, zrf E 0), (1, .int x1), (2, .int x2)]) (by decide) rfl (Nat.le_of_ble_eq_true rfl) (fun G h => ?_)
  have h : zRu lyR E G (zRm K) cX12_tree RX12 7 (some .int) 3 := h
  unfold f_X12_tree at hk
  refine zr_iload_n h dX12_tree_0 1 rfl rfl ?_
  refine zr_iconst (v := (zI 0)) h dX12_tree_1 rfl ?_
  refine zr_aload_n h dX12_tree_2 0 rfl rfl ?_
  refine zr_getI h zfo_X12_162 lR_0 rfl dX12_tree_3 ?_
  refine zr_iconst (v := (zI 2)) h dX12_tree_6 rfl ?_
  refine zr_isub h dX12_tree_7 ?_
  refine zr_callSp h zcw_X12_123 (by decide) (c_X12_in E M x1 (zI 0) ((M.1 0 4) - (zI 2)) _ (zOk_bind hk)) rfl rfl (Nat.le_of_ble_eq_true rfl) dX12_tree_8 (fun r_8 hk => ?_)
  refine zr_if_eq (tgt := 23) h dX12_tree_11 (by decide) (fun c => ?_) (fun c => ?_)
  · have hk := zOk_t c hk
    refine zr_iconst (v := (zI (-1))) h dX12_tree_23 rfl ?_
    have hk := zOk_some hk
    exact zr_iret h dX12_tree_24 ⟨_, rfl, hk⟩
  · have hk := zOk_f c hk
    refine zr_iload_n h dX12_tree_14 2 rfl rfl ?_
    refine zr_iconst (v := (zI 0)) h dX12_tree_15 rfl ?_
    refine zr_iconst (v := (zI 2)) h dX12_tree_16 rfl ?_
    refine zr_callSp h zcw_X12_123 (by decide) (c_X12_in E M x2 (zI 0) (zI 2) _ (zOk_bind hk)) rfl rfl (Nat.le_of_ble_eq_true rfl) dX12_tree_17 (fun r_17 hk => ?_)
    refine zr_if_ne (tgt := 25) h dX12_tree_20 (by decide) (fun c => ?_) (fun c => ?_)
    · have hk := zOk_t c hk
      refine zr_iconst (v := (zI (-1))) h dX12_tree_23 rfl ?_
      have hk := zOk_some hk
      exact zr_iret h dX12_tree_24 ⟨_, rfl, hk⟩
    · have hk := zOk_f c hk
      refine zr_iconst (v := (zI 0)) h dX12_tree_25 rfl ?_
      refine zr_istore_n (L' := [(0, zrf E 0), (1, .int x1), (2, .int x2), (3, .int (zI 0))]) h [1, 2, 3, 0] dX12_tree_26 rfl (by decide) rfl ?_
      refine w_X12_tree_L27 h x1 x2 (M, (zI 0)) (zOk_mono (zOk_bind hk) (fun e27 hk => ?_))
      refine zr_iconst (v := (zI 0)) h dX12_tree_48 rfl ?_
      refine zr_istore_n (L' := [(0, zrf E 0), (1, .int x1), (2, .int x2), (3, .int (zI 0))]) h [1, 2, 3, 0] dX12_tree_49 rfl (by decide) rfl ?_
      refine zr_iconst (v := (zI 0)) h dX12_tree_50 rfl ?_
      refine zr_istore (L' := [(0, zrf E 0), (1, .int x1), (2, .int x2), (3, .int (zI 0)), (4, .int (zI 0))]) h [1, 2, 3, 4, 0] dX12_tree_51 (by decide) rfl ?_
      refine w_X12_tree_L53 h x1 x2 (e27, (zI 0), (zI 0)) (zOk_mono (zOk_bind hk) (fun e53 hk => ?_))
      cases e53 with
      | inl e53a =>
        have hk := zOk_selL hk
        refine zr_iconst (v := (zI (-1))) h dX12_tree_186 rfl ?_
        have hk := zOk_some hk
        exact zr_iret h dX12_tree_187 ⟨_, rfl, hk⟩
      | inr e53b =>
        have hk := zOk_selR hk
        have hk := zOk_some hk
        exact hk
theorem dX12_judged_0 : decode cX12_judged 0 = .ok (.aload_n 0, 1) := by decide +kernel
theorem dX12_judged_1 : decode cX12_judged 1 = .ok (.invokevirtual 235, 3) := by decide +kernel
theorem dX12_judged_4 : decode cX12_judged 4 = .ok (.iload_n 1, 1) := by decide +kernel
theorem dX12_judged_5 : decode cX12_judged 5 = .ok (.tableswitch 64 0 4 #[35, 40, 46, 52, 58], 35) := by decide +kernel
theorem dX12_judged_40 : decode cX12_judged 40 = .ok (.aload_n 0, 1) := by decide +kernel
theorem dX12_judged_41 : decode cX12_judged 41 = .ok (.invokevirtual 280, 3) := by decide +kernel
theorem dX12_judged_44 : decode cX12_judged 44 = .ok (.ireturn, 1) := by decide +kernel
theorem dX12_judged_45 : decode cX12_judged 45 = .ok (.aload_n 0, 1) := by decide +kernel
theorem dX12_judged_46 : decode cX12_judged 46 = .ok (.iconst 0, 1) := by decide +kernel
theorem dX12_judged_47 : decode cX12_judged 47 = .ok (.invokevirtual 274, 3) := by decide +kernel
theorem dX12_judged_50 : decode cX12_judged 50 = .ok (.ireturn, 1) := by decide +kernel
theorem dX12_judged_51 : decode cX12_judged 51 = .ok (.aload_n 0, 1) := by decide +kernel
theorem dX12_judged_52 : decode cX12_judged 52 = .ok (.iconst 1, 1) := by decide +kernel
theorem dX12_judged_53 : decode cX12_judged 53 = .ok (.invokevirtual 274, 3) := by decide +kernel
theorem dX12_judged_56 : decode cX12_judged 56 = .ok (.ireturn, 1) := by decide +kernel
theorem dX12_judged_57 : decode cX12_judged 57 = .ok (.aload_n 0, 1) := by decide +kernel
theorem dX12_judged_58 : decode cX12_judged 58 = .ok (.iconst 0, 1) := by decide +kernel
theorem dX12_judged_59 : decode cX12_judged 59 = .ok (.invokevirtual 277, 3) := by decide +kernel
theorem dX12_judged_62 : decode cX12_judged 62 = .ok (.ireturn, 1) := by decide +kernel
theorem dX12_judged_63 : decode cX12_judged 63 = .ok (.aload_n 0, 1) := by decide +kernel
theorem dX12_judged_64 : decode cX12_judged 64 = .ok (.iconst 1, 1) := by decide +kernel
theorem dX12_judged_65 : decode cX12_judged 65 = .ok (.invokevirtual 277, 3) := by decide +kernel
theorem dX12_judged_68 : decode cX12_judged 68 = .ok (.ireturn, 1) := by decide +kernel
theorem dX12_judged_69 : decode cX12_judged 69 = .ok (.iconst (-1), 1) := by decide +kernel
theorem dX12_judged_70 : decode cX12_judged 70 = .ok (.ireturn, 1) := by decide +kernel
noncomputable def f_X12_judged (M : ZMem) (x1 : Int32) : Option (ZMem × Int32) := zbind (f_X12_lays M) (fun M_1 => if x1 = (zI 0) then zbind (f_X12_judgedWay M_1) (fun r_41 => some (M_1, r_41)) else (if x1 = (zI 1) then zbind (f_X12_ragged M_1 (zI 0)) (fun r_47 => some (M_1, r_47)) else (if x1 = (zI 2) then zbind (f_X12_ragged M_1 (zI 1)) (fun r_53 => some (M_1, r_53)) else (if x1 = (zI 3) then zbind (f_X12_ends M_1 (zI 0)) (fun r_59 => some (M_1, r_59)) else (if x1 = (zI 4) then zbind (f_X12_ends M_1 (zI 1)) (fun r_65 => some (M_1, r_65)) else (some (M_1, (zI (-1)))))))))
set_option maxRecDepth 100000 in
set_option maxHeartbeats 4000000 in
theorem c_X12_judged (E : ZEv) (M : ZMem) (x1 : Int32) (K : ZMem × Int32 → Prop) (hk : zOk (f_X12_judged M x1) K) : zCon lyR E yX12_judged cX12_judged 2 (some .int) 6 [zrf E 0, .int x1] M (zRm K) := by
  refine zcon_of (L0 := [(0, zrf E 0), (1, .int x1)]) (by decide) rfl (Nat.le_of_ble_eq_true rfl) (fun G h => ?_)
  have h : zRu lyR E G (zRm K) cX12_judged RX12 2 (some .int) 6 := h
  unfold f_X12_judged at hk
  refine zr_aload_n h dX12_judged_0 0 rfl rfl ?_
  refine zr_callVv h lR_0 zcw_X12_235 (by decide) (c_X12_lays E M _ (zOk_bind hk)) rfl rfl (Nat.le_of_ble_eq_true rfl) dX12_judged_1 (fun M_1 hk => ?_)
  refine zr_iload_n h dX12_judged_4 1 rfl rfl ?_
  by_cases c0 : x1 = (zI 0)
  · have hk := zOk_t c0 hk
    refine zr_tabIn (tgt := 40) (off := 35) h dX12_judged_5 (by rw [c0]; decide) (by rw [c0]; decide) (by rw [c0]; decide) (by decide) ?_
    refine zr_aload_n h dX12_judged_40 0 rfl rfl ?_
    refine zr_callVp h lR_0 zcw_X12_280 (by decide) (c_X12_judgedWay E M_1 _ (zOk_bind hk)) rfl rfl (Nat.le_of_ble_eq_true rfl) dX12_judged_41 (fun r_41 hk => ?_)
    have hk := zOk_some hk
    exact zr_iret h dX12_judged_44 ⟨_, rfl, hk⟩
  have hk := zOk_f c0 hk
  by_cases c1 : x1 = (zI 1)
  · have hk := zOk_t c1 hk
    refine zr_tabIn (tgt := 45) (off := 40) h dX12_judged_5 (by rw [c1]; decide) (by rw [c1]; decide) (by rw [c1]; decide) (by decide) ?_
    refine zr_aload_n h dX12_judged_45 0 rfl rfl ?_
    refine zr_iconst (v := (zI 0)) h dX12_judged_46 rfl ?_
    refine zr_callVp h lR_0 zcw_X12_274 (by decide) (c_X12_ragged E M_1 (zI 0) _ (zOk_bind hk)) rfl rfl (Nat.le_of_ble_eq_true rfl) dX12_judged_47 (fun r_47 hk => ?_)
    have hk := zOk_some hk
    exact zr_iret h dX12_judged_50 ⟨_, rfl, hk⟩
  have hk := zOk_f c1 hk
  by_cases c2 : x1 = (zI 2)
  · have hk := zOk_t c2 hk
    refine zr_tabIn (tgt := 51) (off := 46) h dX12_judged_5 (by rw [c2]; decide) (by rw [c2]; decide) (by rw [c2]; decide) (by decide) ?_
    refine zr_aload_n h dX12_judged_51 0 rfl rfl ?_
    refine zr_iconst (v := (zI 1)) h dX12_judged_52 rfl ?_
    refine zr_callVp h lR_0 zcw_X12_274 (by decide) (c_X12_ragged E M_1 (zI 1) _ (zOk_bind hk)) rfl rfl (Nat.le_of_ble_eq_true rfl) dX12_judged_53 (fun r_53 hk => ?_)
    have hk := zOk_some hk
    exact zr_iret h dX12_judged_56 ⟨_, rfl, hk⟩
  have hk := zOk_f c2 hk
  by_cases c3 : x1 = (zI 3)
  · have hk := zOk_t c3 hk
    refine zr_tabIn (tgt := 57) (off := 52) h dX12_judged_5 (by rw [c3]; decide) (by rw [c3]; decide) (by rw [c3]; decide) (by decide) ?_
    refine zr_aload_n h dX12_judged_57 0 rfl rfl ?_
    refine zr_iconst (v := (zI 0)) h dX12_judged_58 rfl ?_
    refine zr_callVp h lR_0 zcw_X12_277 (by decide) (c_X12_ends E M_1 (zI 0) _ (zOk_bind hk)) rfl rfl (Nat.le_of_ble_eq_true rfl) dX12_judged_59 (fun r_59 hk => ?_)
    have hk := zOk_some hk
    exact zr_iret h dX12_judged_62 ⟨_, rfl, hk⟩
  have hk := zOk_f c3 hk
  by_cases c4 : x1 = (zI 4)
  · have hk := zOk_t c4 hk
    refine zr_tabIn (tgt := 63) (off := 58) h dX12_judged_5 (by rw [c4]; decide) (by rw [c4]; decide) (by rw [c4]; decide) (by decide) ?_
    refine zr_aload_n h dX12_judged_63 0 rfl rfl ?_
    refine zr_iconst (v := (zI 1)) h dX12_judged_64 rfl ?_
    refine zr_callVp h lR_0 zcw_X12_277 (by decide) (c_X12_ends E M_1 (zI 1) _ (zOk_bind hk)) rfl rfl (Nat.le_of_ble_eq_true rfl) dX12_judged_65 (fun r_65 hk => ?_)
    have hk := zOk_some hk
    exact zr_iret h dX12_judged_68 ⟨_, rfl, hk⟩
  have hk := zOk_f c4 hk
  have hz : (x1).toInt ≠ 0 ∧ (x1).toInt ≠ 1 ∧ (x1).toInt ≠ 2 ∧ (x1).toInt ≠ 3 ∧ (x1).toInt ≠ 4 := ⟨zInt_ne c0, zInt_ne c1, zInt_ne c2, zInt_ne c3, zInt_ne c4⟩
  refine zr_tabOut (tgt := 69) h dX12_judged_5 (by omega) (by decide) ?_
  refine zr_iconst (v := (zI (-1))) h dX12_judged_69 rfl ?_
  have hk := zOk_some hk
  exact zr_iret h dX12_judged_70 ⟨_, rfl, hk⟩
theorem dX12_read_0 : decode cX12_read 0 = .ok (.iload_n 1, 1) := by decide +kernel
theorem dX12_read_1 : decode cX12_read 1 = .ok (.iconst 0, 1) := by decide +kernel
theorem dX12_read_2 : decode cX12_read 2 = .ok (.aload_n 0, 1) := by decide +kernel
theorem dX12_read_3 : decode cX12_read 3 = .ok (.getfield 165, 3) := by decide +kernel
theorem dX12_read_6 : decode cX12_read 6 = .ok (.iconst 1, 1) := by decide +kernel
theorem dX12_read_7 : decode cX12_read 7 = .ok (.isub, 1) := by decide +kernel
theorem dX12_read_8 : decode cX12_read 8 = .ok (.invokestatic 123, 3) := by decide +kernel
theorem dX12_read_11 : decode cX12_read 11 = .ok (.ifCond .eq 19, 3) := by decide +kernel
theorem dX12_read_14 : decode cX12_read 14 = .ok (.iload_n 2, 1) := by decide +kernel
theorem dX12_read_15 : decode cX12_read 15 = .ok (.iconst 0, 1) := by decide +kernel
theorem dX12_read_16 : decode cX12_read 16 = .ok (.aload_n 0, 1) := by decide +kernel
theorem dX12_read_17 : decode cX12_read 17 = .ok (.getfield 20, 3) := by decide +kernel
theorem dX12_read_20 : decode cX12_read 20 = .ok (.iload_n 1, 1) := by decide +kernel
theorem dX12_read_21 : decode cX12_read 21 = .ok (.iaload, 1) := by decide +kernel
theorem dX12_read_22 : decode cX12_read 22 = .ok (.iconst 1, 1) := by decide +kernel
theorem dX12_read_23 : decode cX12_read 23 = .ok (.isub, 1) := by decide +kernel
theorem dX12_read_24 : decode cX12_read 24 = .ok (.invokestatic 123, 3) := by decide +kernel
theorem dX12_read_27 : decode cX12_read 27 = .ok (.ifCond .ne 5, 3) := by decide +kernel
theorem dX12_read_30 : decode cX12_read 30 = .ok (.iconst (-1), 1) := by decide +kernel
theorem dX12_read_31 : decode cX12_read 31 = .ok (.ireturn, 1) := by decide +kernel
theorem dX12_read_32 : decode cX12_read 32 = .ok (.aload_n 0, 1) := by decide +kernel
theorem dX12_read_33 : decode cX12_read 33 = .ok (.invokevirtual 235, 3) := by decide +kernel
theorem dX12_read_36 : decode cX12_read 36 = .ok (.iload_n 2, 1) := by decide +kernel
theorem dX12_read_37 : decode cX12_read 37 = .ok (.istore 4, 2) := by decide +kernel
theorem dX12_read_39 : decode cX12_read 39 = .ok (.iconst 0, 1) := by decide +kernel
theorem dX12_read_40 : decode cX12_read 40 = .ok (.istore 5, 2) := by decide +kernel
theorem dX12_read_42 : decode cX12_read 42 = .ok (.iload 5, 2) := by decide +kernel
theorem dX12_read_44 : decode cX12_read 44 = .ok (.iload_n 1, 1) := by decide +kernel
theorem dX12_read_45 : decode cX12_read 45 = .ok (.if_icmp .ge 21, 3) := by decide +kernel
theorem dX12_read_48 : decode cX12_read 48 = .ok (.iload 4, 2) := by decide +kernel
theorem dX12_read_50 : decode cX12_read 50 = .ok (.aload_n 0, 1) := by decide +kernel
theorem dX12_read_51 : decode cX12_read 51 = .ok (.getfield 20, 3) := by decide +kernel
theorem dX12_read_54 : decode cX12_read 54 = .ok (.iload 5, 2) := by decide +kernel
theorem dX12_read_56 : decode cX12_read 56 = .ok (.iaload, 1) := by decide +kernel
theorem dX12_read_57 : decode cX12_read 57 = .ok (.iadd, 1) := by decide +kernel
theorem dX12_read_58 : decode cX12_read 58 = .ok (.istore 4, 2) := by decide +kernel
theorem dX12_read_60 : decode cX12_read 60 = .ok (.iinc 5 1, 3) := by decide +kernel
theorem dX12_read_63 : decode cX12_read 63 = .ok (.goto (-21), 3) := by decide +kernel
theorem dX12_read_66 : decode cX12_read 66 = .ok (.aload_n 0, 1) := by decide +kernel
theorem dX12_read_67 : decode cX12_read 67 = .ok (.getfield 47, 3) := by decide +kernel
theorem dX12_read_70 : decode cX12_read 70 = .ok (.iload 4, 2) := by decide +kernel
theorem dX12_read_72 : decode cX12_read 72 = .ok (.iconst 1, 1) := by decide +kernel
theorem dX12_read_73 : decode cX12_read 73 = .ok (.iadd, 1) := by decide +kernel
theorem dX12_read_74 : decode cX12_read 74 = .ok (.iaload, 1) := by decide +kernel
theorem dX12_read_75 : decode cX12_read 75 = .ok (.aload_n 0, 1) := by decide +kernel
theorem dX12_read_76 : decode cX12_read 76 = .ok (.getfield 47, 3) := by decide +kernel
theorem dX12_read_79 : decode cX12_read 79 = .ok (.iload 4, 2) := by decide +kernel
theorem dX12_read_81 : decode cX12_read 81 = .ok (.iaload, 1) := by decide +kernel
theorem dX12_read_82 : decode cX12_read 82 = .ok (.isub, 1) := by decide +kernel
theorem dX12_read_83 : decode cX12_read 83 = .ok (.istore 5, 2) := by decide +kernel
theorem dX12_read_85 : decode cX12_read 85 = .ok (.iload_n 3, 1) := by decide +kernel
theorem dX12_read_86 : decode cX12_read 86 = .ok (.iconst (-1), 1) := by decide +kernel
theorem dX12_read_87 : decode cX12_read 87 = .ok (.if_icmp .ne 6, 3) := by decide +kernel
theorem dX12_read_90 : decode cX12_read 90 = .ok (.iload 5, 2) := by decide +kernel
theorem dX12_read_92 : decode cX12_read 92 = .ok (.ireturn, 1) := by decide +kernel
theorem dX12_read_93 : decode cX12_read 93 = .ok (.iload_n 3, 1) := by decide +kernel
theorem dX12_read_94 : decode cX12_read 94 = .ok (.iconst 0, 1) := by decide +kernel
theorem dX12_read_95 : decode cX12_read 95 = .ok (.iload 5, 2) := by decide +kernel
theorem dX12_read_97 : decode cX12_read 97 = .ok (.iconst 1, 1) := by decide +kernel
theorem dX12_read_98 : decode cX12_read 98 = .ok (.isub, 1) := by decide +kernel
theorem dX12_read_99 : decode cX12_read 99 = .ok (.invokestatic 123, 3) := by decide +kernel
theorem dX12_read_102 : decode cX12_read 102 = .ok (.ifCond .eq 20, 3) := by decide +kernel
theorem dX12_read_105 : decode cX12_read 105 = .ok (.aload_n 0, 1) := by decide +kernel
theorem dX12_read_106 : decode cX12_read 106 = .ok (.getfield 50, 3) := by decide +kernel
theorem dX12_read_109 : decode cX12_read 109 = .ok (.aload_n 0, 1) := by decide +kernel
theorem dX12_read_110 : decode cX12_read 110 = .ok (.getfield 47, 3) := by decide +kernel
theorem dX12_read_113 : decode cX12_read 113 = .ok (.iload 4, 2) := by decide +kernel
theorem dX12_read_115 : decode cX12_read 115 = .ok (.iaload, 1) := by decide +kernel
theorem dX12_read_116 : decode cX12_read 116 = .ok (.iload_n 3, 1) := by decide +kernel
theorem dX12_read_117 : decode cX12_read 117 = .ok (.iadd, 1) := by decide +kernel
theorem dX12_read_118 : decode cX12_read 118 = .ok (.iaload, 1) := by decide +kernel
theorem dX12_read_119 : decode cX12_read 119 = .ok (.goto 4, 3) := by decide +kernel
theorem dX12_read_122 : decode cX12_read 122 = .ok (.iconst (-1), 1) := by decide +kernel
theorem dX12_read_123 : decode cX12_read 123 = .ok (.ireturn, 1) := by decide +kernel
noncomputable def f_X12_read_L42 (M : ZMem) (x1 : Int32) (x3 : Int32) (s : (Int32 × Int32)) : Option ((Int32 × Int32) ⊕ (Int32)) := if x1 ≤ s.2 then some (.inr s.1) else zchk (zin s.2 7) (zbnd (s.1 + (M.1 4 (zix s.2))) (fun x4_58 => zbnd (s.2 + (zI 1)) (fun x5_60 => some (.inl (x4_58, x5_60)))))
set_option maxRecDepth 100000 in
set_option maxHeartbeats 4000000 in
theorem w_X12_read_L42 {E : ZEv} {G : ZG} {K : (ZMem × Int32) → Prop} (h : zRu lyR E G (zRm K) cX12_read RX12 6 (some .int) 6) (M : ZMem) (x1 : Int32) (x3 : Int32) (s : (Int32 × Int32)) (hk : zOk (zloop (f_X12_read_L42 M x1 x3) s) (fun e => G M 66 [(0, zrf E 0), (3, .int x3), (4, .int e)] [])) : G M 42 [(0, zrf E 0), (1, .int x1), (3, .int x3), (4, .int s.1), (5, .int s.2)] [] := by
  refine zloop_walk (P := fun s => G M 42 [(0, zrf E 0), (1, .int x1), (3, .int x3), (4, .int s.1), (5, .int s.2)] []) hk (fun s hk => ?_)
  unfold f_X12_read_L42 at hk
  refine zr_iload h dX12_read_42 4 rfl ?_
  refine zr_iload_n h dX12_read_44 1 rfl rfl ?_
  refine zr_icmp_ge (tgt := 66) h dX12_read_45 (by decide) (fun c => ?_) (fun c => ?_)
  · have hk := zOk_t c hk
    have hk := zOk_some hk
    exact zr_weak h [0, 2, 3] rfl hk
  · have hk := zOk_f c hk
    refine zr_iload h dX12_read_48 3 rfl ?_
    refine zr_aload_n h dX12_read_50 0 rfl rfl ?_
    refine zr_getR h zfo_X12_20 lR_0 rfl dX12_read_51 ?_
    refine zr_iload h dX12_read_54 4 rfl ?_
    have hb := zOk_chk hk
    have hk := hb.2
    refine zr_iald h lR_4 hb.1 dX12_read_56 ?_
    refine zr_iadd h dX12_read_57 ?_
    refine zr_topi (fun x4_58 ex => ?_)
    have hk := zOk_bnd ex hk
    refine zr_istore (L' := [(0, zrf E 0), (1, .int x1), (3, .int x3), (4, .int x4_58), (5, .int s.2)]) h [1, 2, 3, 0, 4] dX12_read_58 (by decide) rfl ?_
    obtain ⟨x5_60, ex⟩ : ∃ y : Int32, y = s.2 + (zI 1) := ⟨_, rfl⟩
    have hk := zOk_bnd ex hk
    refine zr_iinc (v := x5_60) (L' := [(0, zrf E 0), (1, .int x1), (3, .int x3), (4, .int x4_58), (5, .int x5_60)]) h 4 [1, 2, 3, 4, 0] dX12_read_60 rfl (by rw [ex]; rfl) (by decide) rfl ?_
    refine zr_goto (tgt := 42) h dX12_read_63 (by decide) ?_
    have hk := zOk_some hk
    exact zr_weak h [0, 1, 2, 3, 4] rfl hk
noncomputable def f_X12_read (M : ZMem) (x1 : Int32) (x2 : Int32) (x3 : Int32) : Option (ZMem × Int32) := zbind (f_X12_in M x1 (zI 0) ((M.1 0 8) - (zI 1))) (fun r_8 => if r_8 = (zI 0) then some (M, (zI (-1))) else zchk (zin x1 7) (zbind (f_X12_in M x2 (zI 0) ((M.1 4 (zix x1)) - (zI 1))) (fun r_24 => if r_24 = (zI 0) then some (M, (zI (-1))) else zbind (f_X12_lays M) (fun M_33 => zbind (zloop (f_X12_read_L42 M_33 x1 x3) (x2, (zI 0))) (fun e42 => zchk (zin (e42 + (zI 1)) 25) (zchk (zin e42 25) (zbnd ((M_33.1 13 (zix (e42 + (zI 1)))) - (M_33.1 13 (zix e42))) (fun x5_83 => if x3 = (zI (-1)) then some (M_33, x5_83) else zbind (f_X12_in M_33 x3 (zI 0) (x5_83 - (zI 1))) (fun r_99 => if r_99 = (zI 0) then some (M_33, (zI (-1))) else zchk (zin e42 25) (zchk (zin ((M_33.1 13 (zix e42)) + x3) 240) (some (M_33, (M_33.1 14 (zix ((M_33.1 13 (zix e42)) + x3)))))))))))))))
set_option maxRecDepth 100000 in
set_option maxHeartbeats 4000000 in
theorem c_X12_read (E : ZEv) (M : ZMem) (x1 : Int32) (x2 : Int32) (x3 : Int32) (K : ZMem × Int32 → Prop) (hk : zOk (f_X12_read M x1 x2 x3) K) : zCon lyR E yX12_read cX12_read 6 (some .int) 6 [zrf E 0, .int x1, .int x2, .int x3] M (zRm K) := by
  refine zcon_of (L0 := [(0, zrf E 0), (1, .int x1), (2, .int x2), (3, .int x3)]) (by decide) rfl (Nat.le_of_ble_eq_true rfl) (fun G h => ?_)
  have h : zRu lyR E G (zRm K) cX12_read RX12 6 (some .int) 6 := h
  unfold f_X12_read at hk
  refine zr_iload_n h dX12_read_0 1 rfl rfl ?_
  refine zr_iconst (v := (zI 0)) h dX12_read_1 rfl ?_
  refine zr_aload_n h dX12_read_2 0 rfl rfl ?_
  refine zr_getI h zfo_X12_165 lR_0 rfl dX12_read_3 ?_
  refine zr_iconst (v := (zI 1)) h dX12_read_6 rfl ?_
  refine zr_isub h dX12_read_7 ?_
  refine zr_callSp h zcw_X12_123 (by decide) (c_X12_in E M x1 (zI 0) ((M.1 0 8) - (zI 1)) _ (zOk_bind hk)) rfl rfl (Nat.le_of_ble_eq_true rfl) dX12_read_8 (fun r_8 hk => ?_)
  refine zr_if_eq (tgt := 30) h dX12_read_11 (by decide) (fun c => ?_) (fun c => ?_)
  · have hk := zOk_t c hk
    refine zr_iconst (v := (zI (-1))) h dX12_read_30 rfl ?_
    have hk := zOk_some hk
    exact zr_iret h dX12_read_31 ⟨_, rfl, hk⟩
  · have hk := zOk_f c hk
    refine zr_iload_n h dX12_read_14 2 rfl rfl ?_
    refine zr_iconst (v := (zI 0)) h dX12_read_15 rfl ?_
    refine zr_aload_n h dX12_read_16 0 rfl rfl ?_
    refine zr_getR h zfo_X12_20 lR_0 rfl dX12_read_17 ?_
    refine zr_iload_n h dX12_read_20 1 rfl rfl ?_
    have hb := zOk_chk hk
    have hk := hb.2
    refine zr_iald h lR_4 hb.1 dX12_read_21 ?_
    refine zr_iconst (v := (zI 1)) h dX12_read_22 rfl ?_
    refine zr_isub h dX12_read_23 ?_
    refine zr_callSp h zcw_X12_123 (by decide) (c_X12_in E M x2 (zI 0) ((M.1 4 (zix x1)) - (zI 1)) _ (zOk_bind hk)) rfl rfl (Nat.le_of_ble_eq_true rfl) dX12_read_24 (fun r_24 hk => ?_)
    refine zr_if_ne (tgt := 32) h dX12_read_27 (by decide) (fun c => ?_) (fun c => ?_)
    · have hk := zOk_t c hk
      refine zr_iconst (v := (zI (-1))) h dX12_read_30 rfl ?_
      have hk := zOk_some hk
      exact zr_iret h dX12_read_31 ⟨_, rfl, hk⟩
    · have hk := zOk_f c hk
      refine zr_aload_n h dX12_read_32 0 rfl rfl ?_
      refine zr_callVv h lR_0 zcw_X12_235 (by decide) (c_X12_lays E M _ (zOk_bind hk)) rfl rfl (Nat.le_of_ble_eq_true rfl) dX12_read_33 (fun M_33 hk => ?_)
      refine zr_iload_n h dX12_read_36 2 rfl rfl ?_
      refine zr_istore (L' := [(0, zrf E 0), (1, .int x1), (3, .int x3), (4, .int x2)]) h [1, 2, 4, 0] dX12_read_37 (by decide) rfl ?_
      refine zr_iconst (v := (zI 0)) h dX12_read_39 rfl ?_
      refine zr_istore (L' := [(0, zrf E 0), (1, .int x1), (3, .int x3), (4, .int x2), (5, .int (zI 0))]) h [1, 2, 3, 4, 0] dX12_read_40 (by decide) rfl ?_
      refine w_X12_read_L42 h M_33 x1 x3 (x2, (zI 0)) (zOk_mono (zOk_bind hk) (fun e42 hk => ?_))
      refine zr_aload_n h dX12_read_66 0 rfl rfl ?_
      refine zr_getR h zfo_X12_47 lR_0 rfl dX12_read_67 ?_
      refine zr_iload h dX12_read_70 2 rfl ?_
      refine zr_iconst (v := (zI 1)) h dX12_read_72 rfl ?_
      refine zr_iadd h dX12_read_73 ?_
      have hb := zOk_chk hk
      have hk := hb.2
      refine zr_iald h lR_13 hb.1 dX12_read_74 ?_
      refine zr_aload_n h dX12_read_75 0 rfl rfl ?_
      refine zr_getR h zfo_X12_47 lR_0 rfl dX12_read_76 ?_
      refine zr_iload h dX12_read_79 2 rfl ?_
      have hb := zOk_chk hk
      have hk := hb.2
      refine zr_iald h lR_13 hb.1 dX12_read_81 ?_
      refine zr_isub h dX12_read_82 ?_
      refine zr_topi (fun x5_83 ex => ?_)
      have hk := zOk_bnd ex hk
      refine zr_istore (L' := [(0, zrf E 0), (3, .int x3), (4, .int e42), (5, .int x5_83)]) h [1, 2, 3, 0] dX12_read_83 (by decide) rfl ?_
      refine zr_iload_n h dX12_read_85 1 rfl rfl ?_
      refine zr_iconst (v := (zI (-1))) h dX12_read_86 rfl ?_
      refine zr_icmp_ne (tgt := 93) h dX12_read_87 (by decide) (fun c => ?_) (fun c => ?_)
      · have hk := zOk_t c hk
        refine zr_iload h dX12_read_90 3 rfl ?_
        have hk := zOk_some hk
        exact zr_iret h dX12_read_92 ⟨_, rfl, hk⟩
      · have hk := zOk_f c hk
        refine zr_iload_n h dX12_read_93 1 rfl rfl ?_
        refine zr_iconst (v := (zI 0)) h dX12_read_94 rfl ?_
        refine zr_iload h dX12_read_95 3 rfl ?_
        refine zr_iconst (v := (zI 1)) h dX12_read_97 rfl ?_
        refine zr_isub h dX12_read_98 ?_
        refine zr_callSp h zcw_X12_123 (by decide) (c_X12_in E M_33 x3 (zI 0) (x5_83 - (zI 1)) _ (zOk_bind hk)) rfl rfl (Nat.le_of_ble_eq_true rfl) dX12_read_99 (fun r_99 hk => ?_)
        refine zr_if_eq (tgt := 122) h dX12_read_102 (by decide) (fun c => ?_) (fun c => ?_)
        · have hk := zOk_t c hk
          refine zr_iconst (v := (zI (-1))) h dX12_read_122 rfl ?_
          have hk := zOk_some hk
          exact zr_iret h dX12_read_123 ⟨_, rfl, hk⟩
        · have hk := zOk_f c hk
          refine zr_aload_n h dX12_read_105 0 rfl rfl ?_
          refine zr_getR h zfo_X12_50 lR_0 rfl dX12_read_106 ?_
          refine zr_aload_n h dX12_read_109 0 rfl rfl ?_
          refine zr_getR h zfo_X12_47 lR_0 rfl dX12_read_110 ?_
          refine zr_iload h dX12_read_113 2 rfl ?_
          have hb := zOk_chk hk
          have hk := hb.2
          refine zr_iald h lR_13 hb.1 dX12_read_115 ?_
          refine zr_iload_n h dX12_read_116 1 rfl rfl ?_
          refine zr_iadd h dX12_read_117 ?_
          have hb := zOk_chk hk
          have hk := hb.2
          refine zr_iald h lR_14 hb.1 dX12_read_118 ?_
          refine zr_goto (tgt := 123) h dX12_read_119 (by decide) ?_
          have hk := zOk_some hk
          exact zr_iret h dX12_read_123 ⟨_, rfl, hk⟩
theorem dX12_comesOf_0 : decode cX12_comesOf 0 = .ok (.iconst 0, 1) := by decide +kernel
theorem dX12_comesOf_1 : decode cX12_comesOf 1 = .ok (.istore_n 2, 1) := by decide +kernel
theorem dX12_comesOf_2 : decode cX12_comesOf 2 = .ok (.iconst 0, 1) := by decide +kernel
theorem dX12_comesOf_3 : decode cX12_comesOf 3 = .ok (.istore_n 3, 1) := by decide +kernel
theorem dX12_comesOf_4 : decode cX12_comesOf 4 = .ok (.iload_n 3, 1) := by decide +kernel
theorem dX12_comesOf_5 : decode cX12_comesOf 5 = .ok (.aload_n 0, 1) := by decide +kernel
theorem dX12_comesOf_6 : decode cX12_comesOf 6 = .ok (.getfield 283, 3) := by decide +kernel
theorem dX12_comesOf_9 : decode cX12_comesOf 9 = .ok (.if_icmp .ge 57, 3) := by decide +kernel
theorem dX12_comesOf_12 : decode cX12_comesOf 12 = .ok (.aload_n 0, 1) := by decide +kernel
theorem dX12_comesOf_13 : decode cX12_comesOf 13 = .ok (.getfield 47, 3) := by decide +kernel
theorem dX12_comesOf_16 : decode cX12_comesOf 16 = .ok (.iload_n 3, 1) := by decide +kernel
theorem dX12_comesOf_17 : decode cX12_comesOf 17 = .ok (.iaload, 1) := by decide +kernel
theorem dX12_comesOf_18 : decode cX12_comesOf 18 = .ok (.istore 4, 2) := by decide +kernel
theorem dX12_comesOf_20 : decode cX12_comesOf 20 = .ok (.iload 4, 2) := by decide +kernel
theorem dX12_comesOf_22 : decode cX12_comesOf 22 = .ok (.aload_n 0, 1) := by decide +kernel
theorem dX12_comesOf_23 : decode cX12_comesOf 23 = .ok (.getfield 47, 3) := by decide +kernel
theorem dX12_comesOf_26 : decode cX12_comesOf 26 = .ok (.iload_n 3, 1) := by decide +kernel
theorem dX12_comesOf_27 : decode cX12_comesOf 27 = .ok (.iconst 1, 1) := by decide +kernel
theorem dX12_comesOf_28 : decode cX12_comesOf 28 = .ok (.iadd, 1) := by decide +kernel
theorem dX12_comesOf_29 : decode cX12_comesOf 29 = .ok (.iaload, 1) := by decide +kernel
theorem dX12_comesOf_30 : decode cX12_comesOf 30 = .ok (.if_icmp .ge 30, 3) := by decide +kernel
theorem dX12_comesOf_33 : decode cX12_comesOf 33 = .ok (.iload_n 2, 1) := by decide +kernel
theorem dX12_comesOf_34 : decode cX12_comesOf 34 = .ok (.aload_n 0, 1) := by decide +kernel
theorem dX12_comesOf_35 : decode cX12_comesOf 35 = .ok (.iload 4, 2) := by decide +kernel
theorem dX12_comesOf_37 : decode cX12_comesOf 37 = .ok (.aload_n 0, 1) := by decide +kernel
theorem dX12_comesOf_38 : decode cX12_comesOf 38 = .ok (.getfield 47, 3) := by decide +kernel
theorem dX12_comesOf_41 : decode cX12_comesOf 41 = .ok (.iload_n 3, 1) := by decide +kernel
theorem dX12_comesOf_42 : decode cX12_comesOf 42 = .ok (.iconst 1, 1) := by decide +kernel
theorem dX12_comesOf_43 : decode cX12_comesOf 43 = .ok (.iadd, 1) := by decide +kernel
theorem dX12_comesOf_44 : decode cX12_comesOf 44 = .ok (.iaload, 1) := by decide +kernel
theorem dX12_comesOf_45 : decode cX12_comesOf 45 = .ok (.iload_n 1, 1) := by decide +kernel
theorem dX12_comesOf_46 : decode cX12_comesOf 46 = .ok (.invokevirtual 290, 3) := by decide +kernel
theorem dX12_comesOf_49 : decode cX12_comesOf 49 = .ok (.invokestatic 177, 3) := by decide +kernel
theorem dX12_comesOf_52 : decode cX12_comesOf 52 = .ok (.iadd, 1) := by decide +kernel
theorem dX12_comesOf_53 : decode cX12_comesOf 53 = .ok (.istore_n 2, 1) := by decide +kernel
theorem dX12_comesOf_54 : decode cX12_comesOf 54 = .ok (.iinc 4 1, 3) := by decide +kernel
theorem dX12_comesOf_57 : decode cX12_comesOf 57 = .ok (.goto (-37), 3) := by decide +kernel
theorem dX12_comesOf_60 : decode cX12_comesOf 60 = .ok (.iinc 3 1, 3) := by decide +kernel
theorem dX12_comesOf_63 : decode cX12_comesOf 63 = .ok (.goto (-59), 3) := by decide +kernel
theorem dX12_comesOf_66 : decode cX12_comesOf 66 = .ok (.iload_n 2, 1) := by decide +kernel
theorem dX12_comesOf_67 : decode cX12_comesOf 67 = .ok (.ireturn, 1) := by decide +kernel
noncomputable def f_X12_comesOf_L20 (M : ZMem) (x1 : Int32) (x3 : Int32) (s : (Int32 × Int32)) : Option ((Int32 × Int32) ⊕ (Int32)) := zchk (zin (x3 + (zI 1)) 25) (if (M.1 13 (zix (x3 + (zI 1)))) ≤ s.2 then some (.inr s.1) else zchk (zin (x3 + (zI 1)) 25) (zbind (f_X12_stands M s.2 (M.1 13 (zix (x3 + (zI 1)))) x1) (fun r_46 => zbind (f_X12_truth M r_46) (fun r_49 => zbnd (s.1 + r_49) (fun x2_53 => zbnd (s.2 + (zI 1)) (fun x4_54 => some (.inl (x2_53, x4_54))))))))
set_option maxRecDepth 100000 in
set_option maxHeartbeats 4000000 in
theorem w_X12_comesOf_L20 {E : ZEv} {G : ZG} {K : Int32 → Prop} (M : ZMem) (h : zRu lyR E G (zRp M K) cX12_comesOf RX12 5 (some .int) 1) (x1 : Int32) (x3 : Int32) (s : (Int32 × Int32)) (hk : zOk (zloop (f_X12_comesOf_L20 M x1 x3) s) (fun e => G M 60 [(0, zrf E 0), (1, .int x1), (2, .int e), (3, .int x3)] [])) : G M 20 [(0, zrf E 0), (1, .int x1), (2, .int s.1), (3, .int x3), (4, .int s.2)] [] := by
  refine zloop_walk (P := fun s => G M 20 [(0, zrf E 0), (1, .int x1), (2, .int s.1), (3, .int x3), (4, .int s.2)] []) hk (fun s hk => ?_)
  unfold f_X12_comesOf_L20 at hk
  refine zr_iload h dX12_comesOf_20 4 rfl ?_
  refine zr_aload_n h dX12_comesOf_22 0 rfl rfl ?_
  refine zr_getR h zfo_X12_47 lR_0 rfl dX12_comesOf_23 ?_
  refine zr_iload_n h dX12_comesOf_26 3 rfl rfl ?_
  refine zr_iconst (v := (zI 1)) h dX12_comesOf_27 rfl ?_
  refine zr_iadd h dX12_comesOf_28 ?_
  have hb := zOk_chk hk
  have hk := hb.2
  refine zr_iald h lR_13 hb.1 dX12_comesOf_29 ?_
  refine zr_icmp_ge (tgt := 60) h dX12_comesOf_30 (by decide) (fun c => ?_) (fun c => ?_)
  · have hk := zOk_t c hk
    have hk := zOk_some hk
    exact zr_weak h [0, 1, 2, 3] rfl hk
  · have hk := zOk_f c hk
    refine zr_iload_n h dX12_comesOf_33 2 rfl rfl ?_
    refine zr_aload_n h dX12_comesOf_34 0 rfl rfl ?_
    refine zr_iload h dX12_comesOf_35 4 rfl ?_
    refine zr_aload_n h dX12_comesOf_37 0 rfl rfl ?_
    refine zr_getR h zfo_X12_47 lR_0 rfl dX12_comesOf_38 ?_
    refine zr_iload_n h dX12_comesOf_41 3 rfl rfl ?_
    refine zr_iconst (v := (zI 1)) h dX12_comesOf_42 rfl ?_
    refine zr_iadd h dX12_comesOf_43 ?_
    have hb := zOk_chk hk
    have hk := hb.2
    refine zr_iald h lR_13 hb.1 dX12_comesOf_44 ?_
    refine zr_iload_n h dX12_comesOf_45 1 rfl rfl ?_
    refine zr_callVp h lR_0 zcw_X12_290 (by decide) (c_X12_stands E M s.2 (M.1 13 (zix (x3 + (zI 1)))) x1 _ (zOk_bind hk)) rfl rfl (Nat.le_of_ble_eq_true rfl) dX12_comesOf_46 (fun r_46 hk => ?_)
    refine zr_callSp h zcw_X12_177 (by decide) (c_X12_truth E M r_46 _ (zOk_bind hk)) rfl rfl (Nat.le_of_ble_eq_true rfl) dX12_comesOf_49 (fun r_49 hk => ?_)
    refine zr_iadd h dX12_comesOf_52 ?_
    refine zr_topi (fun x2_53 ex => ?_)
    have hk := zOk_bnd ex hk
    refine zr_istore_n (L' := [(0, zrf E 0), (1, .int x1), (2, .int x2_53), (3, .int x3), (4, .int s.2)]) h [1, 2, 0, 3, 4] dX12_comesOf_53 rfl (by decide) rfl ?_
    obtain ⟨x4_54, ex⟩ : ∃ y : Int32, y = s.2 + (zI 1) := ⟨_, rfl⟩
    have hk := zOk_bnd ex hk
    refine zr_iinc (v := x4_54) (L' := [(0, zrf E 0), (1, .int x1), (2, .int x2_53), (3, .int x3), (4, .int x4_54)]) h 4 [1, 2, 3, 4, 0] dX12_comesOf_54 rfl (by rw [ex]; rfl) (by decide) rfl ?_
    refine zr_goto (tgt := 20) h dX12_comesOf_57 (by decide) ?_
    have hk := zOk_some hk
    exact zr_weak h [0, 1, 2, 3, 4] rfl hk
noncomputable def f_X12_comesOf_L4 (M : ZMem) (x1 : Int32) (s : (Int32 × Int32)) : Option ((Int32 × Int32) ⊕ (Int32)) := if (M.1 0 23) ≤ s.2 then some (.inr s.1) else zchk (zin s.2 25) (zbnd (M.1 13 (zix s.2)) (fun x4_18 => zbind (zloop (f_X12_comesOf_L20 M x1 s.2) (s.1, x4_18)) (fun e20 => zbnd (s.2 + (zI 1)) (fun x3_60 => some (.inl (e20, x3_60))))))
set_option maxRecDepth 100000 in
set_option maxHeartbeats 4000000 in
theorem w_X12_comesOf_L4 {E : ZEv} {G : ZG} {K : Int32 → Prop} (M : ZMem) (h : zRu lyR E G (zRp M K) cX12_comesOf RX12 5 (some .int) 1) (x1 : Int32) (s : (Int32 × Int32)) (hk : zOk (zloop (f_X12_comesOf_L4 M x1) s) (fun e => G M 66 [(2, .int e)] [])) : G M 4 [(0, zrf E 0), (1, .int x1), (2, .int s.1), (3, .int s.2)] [] := by
  refine zloop_walk (P := fun s => G M 4 [(0, zrf E 0), (1, .int x1), (2, .int s.1), (3, .int s.2)] []) hk (fun s hk => ?_)
  unfold f_X12_comesOf_L4 at hk
  refine zr_iload_n h dX12_comesOf_4 3 rfl rfl ?_
  refine zr_aload_n h dX12_comesOf_5 0 rfl rfl ?_
  refine zr_getI h zfo_X12_283 lR_0 rfl dX12_comesOf_6 ?_
  refine zr_icmp_ge (tgt := 66) h dX12_comesOf_9 (by decide) (fun c => ?_) (fun c => ?_)
  · have hk := zOk_t c hk
    have hk := zOk_some hk
    exact zr_weak h [2] rfl hk
  · have hk := zOk_f c hk
    refine zr_aload_n h dX12_comesOf_12 0 rfl rfl ?_
    refine zr_getR h zfo_X12_47 lR_0 rfl dX12_comesOf_13 ?_
    refine zr_iload_n h dX12_comesOf_16 3 rfl rfl ?_
    have hb := zOk_chk hk
    have hk := hb.2
    refine zr_iald h lR_13 hb.1 dX12_comesOf_17 ?_
    refine zr_topi (fun x4_18 ex => ?_)
    have hk := zOk_bnd ex hk
    refine zr_istore (L' := [(0, zrf E 0), (1, .int x1), (2, .int s.1), (3, .int s.2), (4, .int x4_18)]) h [1, 2, 3, 4, 0] dX12_comesOf_18 (by decide) rfl ?_
    refine w_X12_comesOf_L20 M h x1 s.2 (s.1, x4_18) (zOk_mono (zOk_bind hk) (fun e20 hk => ?_))
    obtain ⟨x3_60, ex⟩ : ∃ y : Int32, y = s.2 + (zI 1) := ⟨_, rfl⟩
    have hk := zOk_bnd ex hk
    refine zr_iinc (v := x3_60) (L' := [(0, zrf E 0), (1, .int x1), (2, .int e20), (3, .int x3_60)]) h 3 [1, 2, 3, 0] dX12_comesOf_60 rfl (by rw [ex]; rfl) (by decide) rfl ?_
    refine zr_goto (tgt := 4) h dX12_comesOf_63 (by decide) ?_
    have hk := zOk_some hk
    exact zr_weak h [0, 1, 2, 3] rfl hk
noncomputable def f_X12_comesOf (M : ZMem) (x1 : Int32) : Option Int32 := zbind (zloop (f_X12_comesOf_L4 M x1) ((zI 0), (zI 0))) (fun e4 => some e4)
set_option maxRecDepth 100000 in
set_option maxHeartbeats 4000000 in
theorem c_X12_comesOf (E : ZEv) (M : ZMem) (x1 : Int32) (K : Int32 → Prop) (hk : zOk (f_X12_comesOf M x1) K) : zCon lyR E yX12_comesOf cX12_comesOf 5 (some .int) 1 [zrf E 0, .int x1] M (zRp M K) := by
  refine zcon_of (L0 := [(0, zrf E 0), (1, .int x1)]) (by decide) rfl (Nat.le_of_ble_eq_true rfl) (fun G h => ?_)
  have h : zRu lyR E G (zRp M K) cX12_comesOf RX12 5 (some .int) 1 := h
  unfold f_X12_comesOf at hk
  refine zr_iconst (v := (zI 0)) h dX12_comesOf_0 rfl ?_
  refine zr_istore_n (L' := [(0, zrf E 0), (1, .int x1), (2, .int (zI 0))]) h [1, 2, 0] dX12_comesOf_1 rfl (by decide) rfl ?_
  refine zr_iconst (v := (zI 0)) h dX12_comesOf_2 rfl ?_
  refine zr_istore_n (L' := [(0, zrf E 0), (1, .int x1), (2, .int (zI 0)), (3, .int (zI 0))]) h [1, 2, 3, 0] dX12_comesOf_3 rfl (by decide) rfl ?_
  refine w_X12_comesOf_L4 M h x1 ((zI 0), (zI 0)) (zOk_mono (zOk_bind hk) (fun e4 hk => ?_))
  refine zr_iload_n h dX12_comesOf_66 0 rfl rfl ?_
  have hk := zOk_some hk
  exact zr_iret h dX12_comesOf_67 ⟨rfl, _, rfl, hk⟩
theorem dX12_pieceTold_0 : decode cX12_pieceTold 0 = .ok (.aload_n 0, 1) := by decide +kernel
theorem dX12_pieceTold_1 : decode cX12_pieceTold 1 = .ok (.invokevirtual 235, 3) := by decide +kernel
theorem dX12_pieceTold_4 : decode cX12_pieceTold 4 = .ok (.aload_n 0, 1) := by decide +kernel
theorem dX12_pieceTold_5 : decode cX12_pieceTold 5 = .ok (.invokevirtual 156, 3) := by decide +kernel
theorem dX12_pieceTold_8 : decode cX12_pieceTold 8 = .ok (.aload_n 0, 1) := by decide +kernel
theorem dX12_pieceTold_9 : decode cX12_pieceTold 9 = .ok (.getfield 105, 3) := by decide +kernel
theorem dX12_pieceTold_12 : decode cX12_pieceTold 12 = .ok (.istore_n 1, 1) := by decide +kernel
theorem dX12_pieceTold_13 : decode cX12_pieceTold 13 = .ok (.iload_n 1, 1) := by decide +kernel
theorem dX12_pieceTold_14 : decode cX12_pieceTold 14 = .ok (.iconst 1, 1) := by decide +kernel
theorem dX12_pieceTold_15 : decode cX12_pieceTold 15 = .ok (.bipush 7, 2) := by decide +kernel
theorem dX12_pieceTold_17 : decode cX12_pieceTold 17 = .ok (.invokestatic 123, 3) := by decide +kernel
theorem dX12_pieceTold_20 : decode cX12_pieceTold 20 = .ok (.istore_n 2, 1) := by decide +kernel
theorem dX12_pieceTold_21 : decode cX12_pieceTold 21 = .ok (.iload_n 2, 1) := by decide +kernel
theorem dX12_pieceTold_22 : decode cX12_pieceTold 22 = .ok (.ifCond .eq 76, 3) := by decide +kernel
theorem dX12_pieceTold_25 : decode cX12_pieceTold 25 = .ok (.aload_n 0, 1) := by decide +kernel
theorem dX12_pieceTold_26 : decode cX12_pieceTold 26 = .ok (.getfield 113, 3) := by decide +kernel
theorem dX12_pieceTold_29 : decode cX12_pieceTold 29 = .ok (.iload_n 1, 1) := by decide +kernel
theorem dX12_pieceTold_30 : decode cX12_pieceTold 30 = .ok (.if_icmp .ge 68, 3) := by decide +kernel
theorem dX12_pieceTold_33 : decode cX12_pieceTold 33 = .ok (.aload_n 0, 1) := by decide +kernel
theorem dX12_pieceTold_34 : decode cX12_pieceTold 34 = .ok (.invokevirtual 168, 3) := by decide +kernel
theorem dX12_pieceTold_37 : decode cX12_pieceTold 37 = .ok (.ifCond .eq 21, 3) := by decide +kernel
theorem dX12_pieceTold_40 : decode cX12_pieceTold 40 = .ok (.aload_n 0, 1) := by decide +kernel
theorem dX12_pieceTold_41 : decode cX12_pieceTold 41 = .ok (.invokevirtual 119, 3) := by decide +kernel
theorem dX12_pieceTold_44 : decode cX12_pieceTold 44 = .ok (.bipush 97, 2) := by decide +kernel
theorem dX12_pieceTold_46 : decode cX12_pieceTold 46 = .ok (.isub, 1) := by decide +kernel
theorem dX12_pieceTold_47 : decode cX12_pieceTold 47 = .ok (.aload_n 0, 1) := by decide +kernel
theorem dX12_pieceTold_48 : decode cX12_pieceTold 48 = .ok (.getfield 162, 3) := by decide +kernel
theorem dX12_pieceTold_51 : decode cX12_pieceTold 51 = .ok (.if_icmp .ge 7, 3) := by decide +kernel
theorem dX12_pieceTold_54 : decode cX12_pieceTold 54 = .ok (.iconst 1, 1) := by decide +kernel
theorem dX12_pieceTold_55 : decode cX12_pieceTold 55 = .ok (.goto 4, 3) := by decide +kernel
theorem dX12_pieceTold_58 : decode cX12_pieceTold 58 = .ok (.iconst 0, 1) := by decide +kernel
theorem dX12_pieceTold_59 : decode cX12_pieceTold 59 = .ok (.istore_n 2, 1) := by decide +kernel
theorem dX12_pieceTold_60 : decode cX12_pieceTold 60 = .ok (.iload_n 2, 1) := by decide +kernel
theorem dX12_pieceTold_61 : decode cX12_pieceTold 61 = .ok (.ifCond .eq 24, 3) := by decide +kernel
theorem dX12_pieceTold_64 : decode cX12_pieceTold 64 = .ok (.aload_n 0, 1) := by decide +kernel
theorem dX12_pieceTold_65 : decode cX12_pieceTold 65 = .ok (.getfield 53, 3) := by decide +kernel
theorem dX12_pieceTold_68 : decode cX12_pieceTold 68 = .ok (.aload_n 0, 1) := by decide +kernel
theorem dX12_pieceTold_69 : decode cX12_pieceTold 69 = .ok (.getfield 113, 3) := by decide +kernel
theorem dX12_pieceTold_72 : decode cX12_pieceTold 72 = .ok (.aload_n 0, 1) := by decide +kernel
theorem dX12_pieceTold_73 : decode cX12_pieceTold 73 = .ok (.getfield 41, 3) := by decide +kernel
theorem dX12_pieceTold_76 : decode cX12_pieceTold 76 = .ok (.aload_n 0, 1) := by decide +kernel
theorem dX12_pieceTold_77 : decode cX12_pieceTold 77 = .ok (.invokevirtual 119, 3) := by decide +kernel
theorem dX12_pieceTold_80 : decode cX12_pieceTold 80 = .ok (.bipush 97, 2) := by decide +kernel
theorem dX12_pieceTold_82 : decode cX12_pieceTold 82 = .ok (.isub, 1) := by decide +kernel
theorem dX12_pieceTold_83 : decode cX12_pieceTold 83 = .ok (.iaload, 1) := by decide +kernel
theorem dX12_pieceTold_84 : decode cX12_pieceTold 84 = .ok (.iastore, 1) := by decide +kernel
theorem dX12_pieceTold_85 : decode cX12_pieceTold 85 = .ok (.aload_n 0, 1) := by decide +kernel
theorem dX12_pieceTold_86 : decode cX12_pieceTold 86 = .ok (.dup, 1) := by decide +kernel
theorem dX12_pieceTold_87 : decode cX12_pieceTold 87 = .ok (.getfield 113, 3) := by decide +kernel
theorem dX12_pieceTold_90 : decode cX12_pieceTold 90 = .ok (.iconst 1, 1) := by decide +kernel
theorem dX12_pieceTold_91 : decode cX12_pieceTold 91 = .ok (.iadd, 1) := by decide +kernel
theorem dX12_pieceTold_92 : decode cX12_pieceTold 92 = .ok (.putfield 113, 3) := by decide +kernel
theorem dX12_pieceTold_95 : decode cX12_pieceTold 95 = .ok (.goto (-74), 3) := by decide +kernel
theorem dX12_pieceTold_98 : decode cX12_pieceTold 98 = .ok (.aload_n 0, 1) := by decide +kernel
theorem dX12_pieceTold_99 : decode cX12_pieceTold 99 = .ok (.iconst 0, 1) := by decide +kernel
theorem dX12_pieceTold_100 : decode cX12_pieceTold 100 = .ok (.putfield 105, 3) := by decide +kernel
theorem dX12_pieceTold_103 : decode cX12_pieceTold 103 = .ok (.iload_n 2, 1) := by decide +kernel
theorem dX12_pieceTold_104 : decode cX12_pieceTold 104 = .ok (.ifCond .eq 7, 3) := by decide +kernel
theorem dX12_pieceTold_107 : decode cX12_pieceTold 107 = .ok (.iload_n 1, 1) := by decide +kernel
theorem dX12_pieceTold_108 : decode cX12_pieceTold 108 = .ok (.goto 4, 3) := by decide +kernel
theorem dX12_pieceTold_111 : decode cX12_pieceTold 111 = .ok (.iconst 0, 1) := by decide +kernel
theorem dX12_pieceTold_112 : decode cX12_pieceTold 112 = .ok (.ireturn, 1) := by decide +kernel
noncomputable def f_X12_pieceTold_85_L21 (M : ZMem) (x1 : Int32) (x2 : Int32) : Option ((ZMem × Int32) ⊕ (ZMem × Int32)) := zbnd (zstI M 0 2 ((M.1 0 2) + (zI 1))) (fun M_92 => some (.inl (M_92, x2)))
set_option maxRecDepth 100000 in
set_option maxHeartbeats 4000000 in
theorem w_X12_pieceTold_85_L21 {E : ZEv} {G : ZG} {K : (ZMem × Int32) → Prop} (h : zRu lyR E G (zRm K) cX12_pieceTold RX12 3 (some .int) 6) (M : ZMem) (x1 : Int32) (x2 : Int32) (hk : zOk (f_X12_pieceTold_85_L21 M x1 x2) (zlp (fun s => G s.1 21 [(0, zrf E 0), (1, .int x1), (2, .int s.2)] []) (fun e => G e.1 98 [(0, zrf E 0), (1, .int x1), (2, .int e.2)] []))) : G M 85 [(0, zrf E 0), (1, .int x1), (2, .int x2)] [] := by
  unfold f_X12_pieceTold_85_L21 at hk
  refine zr_aload_n h dX12_pieceTold_85 0 rfl rfl ?_
  refine zr_dup h dX12_pieceTold_86 rfl ?_
  refine zr_getI h zfo_X12_113 lR_0 rfl dX12_pieceTold_87 ?_
  refine zr_iconst (v := (zI 1)) h dX12_pieceTold_90 rfl ?_
  refine zr_iadd h dX12_pieceTold_91 ?_
  refine zr_putI h zfp_X12_113 lR_0 rfl dX12_pieceTold_92 ?_
  refine zr_mem (fun M_92 eM => ?_)
  have hk := zOk_bnd eM hk
  refine zr_goto (tgt := 21) h dX12_pieceTold_95 (by decide) ?_
  have hk := zOk_some hk
  exact zr_weak h [0, 1, 2] rfl hk
noncomputable def f_X12_pieceTold_59_L21 (M : ZMem) (x1 : Int32) (v0 : Int32) : Option ((ZMem × Int32) ⊕ (ZMem × Int32)) := if v0 = (zI 0) then f_X12_pieceTold_85_L21 M x1 v0 else zbind (f_X12_sign M) (fun r_77 => zchk (zin (r_77 - (zI 97)) 20) (zchk (zin (M.1 0 2) 7) (zbnd (zstI M 15 (zix (M.1 0 2)) (M.1 11 (zix (r_77 - (zI 97))))) (fun M_84 => f_X12_pieceTold_85_L21 M_84 x1 v0))))
set_option maxRecDepth 100000 in
set_option maxHeartbeats 4000000 in
theorem w_X12_pieceTold_59_L21 {E : ZEv} {G : ZG} {K : (ZMem × Int32) → Prop} (h : zRu lyR E G (zRm K) cX12_pieceTold RX12 3 (some .int) 6) (M : ZMem) (x1 : Int32) (v0 : Int32) (hk : zOk (f_X12_pieceTold_59_L21 M x1 v0) (zlp (fun s => G s.1 21 [(0, zrf E 0), (1, .int x1), (2, .int s.2)] []) (fun e => G e.1 98 [(0, zrf E 0), (1, .int x1), (2, .int e.2)] []))) : G M 59 [(0, zrf E 0), (1, .int x1)] [.int v0] := by
  unfold f_X12_pieceTold_59_L21 at hk
  refine zr_istore_n (L' := [(0, zrf E 0), (1, .int x1), (2, .int v0)]) h [1, 2, 0] dX12_pieceTold_59 rfl (by decide) rfl ?_
  refine zr_iload_n h dX12_pieceTold_60 2 rfl rfl ?_
  refine zr_if_eq (tgt := 85) h dX12_pieceTold_61 (by decide) (fun c => ?_) (fun c => ?_)
  · have hk := zOk_t c hk
    exact w_X12_pieceTold_85_L21 h M x1 v0 hk
  · have hk := zOk_f c hk
    refine zr_aload_n h dX12_pieceTold_64 0 rfl rfl ?_
    refine zr_getR h zfo_X12_53 lR_0 rfl dX12_pieceTold_65 ?_
    refine zr_aload_n h dX12_pieceTold_68 0 rfl rfl ?_
    refine zr_getI h zfo_X12_113 lR_0 rfl dX12_pieceTold_69 ?_
    refine zr_aload_n h dX12_pieceTold_72 0 rfl rfl ?_
    refine zr_getR h zfo_X12_41 lR_0 rfl dX12_pieceTold_73 ?_
    refine zr_aload_n h dX12_pieceTold_76 0 rfl rfl ?_
    refine zr_callVp h lR_0 zcw_X12_119 (by decide) (c_X12_sign E M _ (zOk_bind hk)) rfl rfl (Nat.le_of_ble_eq_true rfl) dX12_pieceTold_77 (fun r_77 hk => ?_)
    refine zr_bipush (v := (zI 97)) h dX12_pieceTold_80 (by decide) ?_
    refine zr_isub h dX12_pieceTold_82 ?_
    have hb := zOk_chk hk
    have hk := hb.2
    refine zr_iald h lR_11 hb.1 dX12_pieceTold_83 ?_
    have hb := zOk_chk hk
    have hk := hb.2
    refine zr_iast h lR_15 hb.1 dX12_pieceTold_84 ?_
    refine zr_mem (fun M_84 eM => ?_)
    have hk := zOk_bnd eM hk
    exact w_X12_pieceTold_85_L21 h M_84 x1 v0 hk
noncomputable def f_X12_pieceTold_58_L21 (M : ZMem) (x1 : Int32) : Option ((ZMem × Int32) ⊕ (ZMem × Int32)) := f_X12_pieceTold_59_L21 M x1 (zI 0)
set_option maxRecDepth 100000 in
set_option maxHeartbeats 4000000 in
theorem w_X12_pieceTold_58_L21 {E : ZEv} {G : ZG} {K : (ZMem × Int32) → Prop} (h : zRu lyR E G (zRm K) cX12_pieceTold RX12 3 (some .int) 6) (M : ZMem) (x1 : Int32) (hk : zOk (f_X12_pieceTold_58_L21 M x1) (zlp (fun s => G s.1 21 [(0, zrf E 0), (1, .int x1), (2, .int s.2)] []) (fun e => G e.1 98 [(0, zrf E 0), (1, .int x1), (2, .int e.2)] []))) : G M 58 [(0, zrf E 0), (1, .int x1)] [] := by
  unfold f_X12_pieceTold_58_L21 at hk
  refine zr_iconst (v := (zI 0)) h dX12_pieceTold_58 rfl ?_
  exact w_X12_pieceTold_59_L21 h M x1 (zI 0) hk
noncomputable def f_X12_pieceTold_L21 (x1 : Int32) (s : (ZMem × Int32)) : Option ((ZMem × Int32) ⊕ (ZMem × Int32)) := if s.2 = (zI 0) then some (.inr (s.1, s.2)) else if x1 ≤ (s.1.1 0 2) then some (.inr (s.1, s.2)) else zbind (f_X12_isLetter s.1) (fun r_34 => if r_34 = (zI 0) then f_X12_pieceTold_58_L21 s.1 x1 else zbind (f_X12_sign s.1) (fun r_41 => if (s.1.1 0 4) ≤ (r_41 - (zI 97)) then f_X12_pieceTold_58_L21 s.1 x1 else f_X12_pieceTold_59_L21 s.1 x1 (zI 1)))
set_option maxRecDepth 100000 in
set_option maxHeartbeats 4000000 in
theorem w_X12_pieceTold_L21 {E : ZEv} {G : ZG} {K : (ZMem × Int32) → Prop} (h : zRu lyR E G (zRm K) cX12_pieceTold RX12 3 (some .int) 6) (x1 : Int32) (s : (ZMem × Int32)) (hk : zOk (zloop (f_X12_pieceTold_L21 x1) s) (fun e => G e.1 98 [(0, zrf E 0), (1, .int x1), (2, .int e.2)] [])) : G s.1 21 [(0, zrf E 0), (1, .int x1), (2, .int s.2)] [] := by
  refine zloop_walk (P := fun s => G s.1 21 [(0, zrf E 0), (1, .int x1), (2, .int s.2)] []) hk (fun s hk => ?_)
  unfold f_X12_pieceTold_L21 at hk
  refine zr_iload_n h dX12_pieceTold_21 2 rfl rfl ?_
  refine zr_if_eq (tgt := 98) h dX12_pieceTold_22 (by decide) (fun c => ?_) (fun c => ?_)
  · have hk := zOk_t c hk
    have hk := zOk_some hk
    exact zr_weak h [0, 1, 2] rfl hk
  · have hk := zOk_f c hk
    refine zr_aload_n h dX12_pieceTold_25 0 rfl rfl ?_
    refine zr_getI h zfo_X12_113 lR_0 rfl dX12_pieceTold_26 ?_
    refine zr_iload_n h dX12_pieceTold_29 1 rfl rfl ?_
    refine zr_icmp_ge (tgt := 98) h dX12_pieceTold_30 (by decide) (fun c => ?_) (fun c => ?_)
    · have hk := zOk_t c hk
      have hk := zOk_some hk
      exact zr_weak h [0, 1, 2] rfl hk
    · have hk := zOk_f c hk
      refine zr_aload_n h dX12_pieceTold_33 0 rfl rfl ?_
      refine zr_callVp h lR_0 zcw_X12_168 (by decide) (c_X12_isLetter E s.1 _ (zOk_bind hk)) rfl rfl (Nat.le_of_ble_eq_true rfl) dX12_pieceTold_34 (fun r_34 hk => ?_)
      refine zr_if_eq (tgt := 58) h dX12_pieceTold_37 (by decide) (fun c => ?_) (fun c => ?_)
      · have hk := zOk_t c hk
        exact zr_weak h [0, 1] rfl (w_X12_pieceTold_58_L21 h s.1 x1 hk)
      · have hk := zOk_f c hk
        refine zr_aload_n h dX12_pieceTold_40 0 rfl rfl ?_
        refine zr_callVp h lR_0 zcw_X12_119 (by decide) (c_X12_sign E s.1 _ (zOk_bind hk)) rfl rfl (Nat.le_of_ble_eq_true rfl) dX12_pieceTold_41 (fun r_41 hk => ?_)
        refine zr_bipush (v := (zI 97)) h dX12_pieceTold_44 (by decide) ?_
        refine zr_isub h dX12_pieceTold_46 ?_
        refine zr_aload_n h dX12_pieceTold_47 0 rfl rfl ?_
        refine zr_getI h zfo_X12_162 lR_0 rfl dX12_pieceTold_48 ?_
        refine zr_icmp_ge (tgt := 58) h dX12_pieceTold_51 (by decide) (fun c => ?_) (fun c => ?_)
        · have hk := zOk_t c hk
          exact zr_weak h [0, 1] rfl (w_X12_pieceTold_58_L21 h s.1 x1 hk)
        · have hk := zOk_f c hk
          refine zr_iconst (v := (zI 1)) h dX12_pieceTold_54 rfl ?_
          refine zr_goto (tgt := 59) h dX12_pieceTold_55 (by decide) ?_
          exact zr_weak h [0, 1] rfl (w_X12_pieceTold_59_L21 h s.1 x1 (zI 1) hk)
noncomputable def f_X12_pieceTold (M : ZMem) : Option (ZMem × Int32) := zbind (f_X12_lays M) (fun M_1 => zbind (f_X12_starts M_1) (fun M_5 => zbnd (M_5.1 0 1) (fun x1_12 => zbind (f_X12_in M_5 x1_12 (zI 1) (zI 7)) (fun r_17 => zbind (zloop (f_X12_pieceTold_L21 x1_12) (M_5, r_17)) (fun e21 => zbnd (zstI e21.1 0 1 (zI 0)) (fun M_100 => if e21.2 = (zI 0) then some (M_100, (zI 0)) else some (M_100, x1_12)))))))
set_option maxRecDepth 100000 in
set_option maxHeartbeats 4000000 in
theorem c_X12_pieceTold (E : ZEv) (M : ZMem) (K : ZMem × Int32 → Prop) (hk : zOk (f_X12_pieceTold M) K) : zCon lyR E yX12_pieceTold cX12_pieceTold 3 (some .int) 6 [zrf E 0] M (zRm K) := by
  refine zcon_of (L0 := [(0, zrf E 0)]) (by decide) rfl (Nat.le_of_ble_eq_true rfl) (fun G h => ?_)
  have h : zRu lyR E G (zRm K) cX12_pieceTold RX12 3 (some .int) 6 := h
  unfold f_X12_pieceTold at hk
  refine zr_aload_n h dX12_pieceTold_0 0 rfl rfl ?_
  refine zr_callVv h lR_0 zcw_X12_235 (by decide) (c_X12_lays E M _ (zOk_bind hk)) rfl rfl (Nat.le_of_ble_eq_true rfl) dX12_pieceTold_1 (fun M_1 hk => ?_)
  refine zr_aload_n h dX12_pieceTold_4 0 rfl rfl ?_
  refine zr_callVv h lR_0 zcw_X12_156 (by decide) (c_X12_starts E M_1 _ (zOk_bind hk)) rfl rfl (Nat.le_of_ble_eq_true rfl) dX12_pieceTold_5 (fun M_5 hk => ?_)
  refine zr_aload_n h dX12_pieceTold_8 0 rfl rfl ?_
  refine zr_getI h zfo_X12_105 lR_0 rfl dX12_pieceTold_9 ?_
  refine zr_topi (fun x1_12 ex => ?_)
  have hk := zOk_bnd ex hk
  refine zr_istore_n (L' := [(0, zrf E 0), (1, .int x1_12)]) h [1, 0] dX12_pieceTold_12 rfl (by decide) rfl ?_
  refine zr_iload_n h dX12_pieceTold_13 1 rfl rfl ?_
  refine zr_iconst (v := (zI 1)) h dX12_pieceTold_14 rfl ?_
  refine zr_bipush (v := (zI 7)) h dX12_pieceTold_15 (by decide) ?_
  refine zr_callSp h zcw_X12_123 (by decide) (c_X12_in E M_5 x1_12 (zI 1) (zI 7) _ (zOk_bind hk)) rfl rfl (Nat.le_of_ble_eq_true rfl) dX12_pieceTold_17 (fun r_17 hk => ?_)
  refine zr_istore_n (L' := [(0, zrf E 0), (1, .int x1_12), (2, .int r_17)]) h [1, 2, 0] dX12_pieceTold_20 rfl (by decide) rfl ?_
  refine w_X12_pieceTold_L21 h x1_12 (M_5, r_17) (zOk_mono (zOk_bind hk) (fun e21 hk => ?_))
  refine zr_aload_n h dX12_pieceTold_98 0 rfl rfl ?_
  refine zr_iconst (v := (zI 0)) h dX12_pieceTold_99 rfl ?_
  refine zr_putI h zfp_X12_105 lR_0 rfl dX12_pieceTold_100 ?_
  refine zr_mem (fun M_100 eM => ?_)
  have hk := zOk_bnd eM hk
  refine zr_iload_n h dX12_pieceTold_103 2 rfl rfl ?_
  refine zr_if_eq (tgt := 111) h dX12_pieceTold_104 (by decide) (fun c => ?_) (fun c => ?_)
  · have hk := zOk_t c hk
    refine zr_iconst (v := (zI 0)) h dX12_pieceTold_111 rfl ?_
    have hk := zOk_some hk
    exact zr_iret h dX12_pieceTold_112 ⟨_, rfl, hk⟩
  · have hk := zOk_f c hk
    refine zr_iload_n h dX12_pieceTold_107 1 rfl rfl ?_
    refine zr_goto (tgt := 112) h dX12_pieceTold_108 (by decide) ?_
    have hk := zOk_some hk
    exact zr_iret h dX12_pieceTold_112 ⟨_, rfl, hk⟩
theorem dX12_comes_0 : decode cX12_comes 0 = .ok (.aload_n 0, 1) := by decide +kernel
theorem dX12_comes_1 : decode cX12_comes 1 = .ok (.invokevirtual 293, 3) := by decide +kernel
theorem dX12_comes_4 : decode cX12_comes 4 = .ok (.istore_n 1, 1) := by decide +kernel
theorem dX12_comes_5 : decode cX12_comes 5 = .ok (.iload_n 1, 1) := by decide +kernel
theorem dX12_comes_6 : decode cX12_comes 6 = .ok (.ifCond .ne 7, 3) := by decide +kernel
theorem dX12_comes_9 : decode cX12_comes 9 = .ok (.iconst (-1), 1) := by decide +kernel
theorem dX12_comes_10 : decode cX12_comes 10 = .ok (.goto 8, 3) := by decide +kernel
theorem dX12_comes_13 : decode cX12_comes 13 = .ok (.aload_n 0, 1) := by decide +kernel
theorem dX12_comes_14 : decode cX12_comes 14 = .ok (.iload_n 1, 1) := by decide +kernel
theorem dX12_comes_15 : decode cX12_comes 15 = .ok (.invokevirtual 296, 3) := by decide +kernel
theorem dX12_comes_18 : decode cX12_comes 18 = .ok (.ireturn, 1) := by decide +kernel
noncomputable def f_X12_comes (M : ZMem) : Option (ZMem × Int32) := zbind (f_X12_pieceTold M) (fun r_1 => if r_1.2 = (zI 0) then some (r_1.1, (zI (-1))) else zbind (f_X12_comesOf r_1.1 r_1.2) (fun r_15 => some (r_1.1, r_15)))
set_option maxRecDepth 100000 in
set_option maxHeartbeats 4000000 in
theorem c_X12_comes (E : ZEv) (M : ZMem) (K : ZMem × Int32 → Prop) (hk : zOk (f_X12_comes M) K) : zCon lyR E yX12_comes cX12_comes 2 (some .int) 7 [zrf E 0] M (zRm K) := by
  refine zcon_of (L0 := [(0, zrf E 0)]) (by decide) rfl (Nat.le_of_ble_eq_true rfl) (fun G h => ?_)
  have h : zRu lyR E G (zRm K) cX12_comes RX12 2 (some .int) 7 := h
  unfold f_X12_comes at hk
  refine zr_aload_n h dX12_comes_0 0 rfl rfl ?_
  refine zr_callVm h lR_0 zcw_X12_293 (by decide) (c_X12_pieceTold E M _ (zOk_bind hk)) rfl rfl (Nat.le_of_ble_eq_true rfl) dX12_comes_1 (fun r_1 hk => ?_)
  refine zr_istore_n (L' := [(0, zrf E 0), (1, .int r_1.2)]) h [1, 0] dX12_comes_4 rfl (by decide) rfl ?_
  refine zr_iload_n h dX12_comes_5 1 rfl rfl ?_
  refine zr_if_ne (tgt := 13) h dX12_comes_6 (by decide) (fun c => ?_) (fun c => ?_)
  · have hk := zOk_t c hk
    refine zr_iconst (v := (zI (-1))) h dX12_comes_9 rfl ?_
    refine zr_goto (tgt := 18) h dX12_comes_10 (by decide) ?_
    have hk := zOk_some hk
    exact zr_iret h dX12_comes_18 ⟨_, rfl, hk⟩
  · have hk := zOk_f c hk
    refine zr_aload_n h dX12_comes_13 0 rfl rfl ?_
    refine zr_iload_n h dX12_comes_14 1 rfl rfl ?_
    refine zr_callVp h lR_0 zcw_X12_296 (by decide) (c_X12_comesOf E r_1.1 r_1.2 _ (zOk_bind hk)) rfl rfl (Nat.le_of_ble_eq_true rfl) dX12_comes_15 (fun r_15 hk => ?_)
    have hk := zOk_some hk
    exact zr_iret h dX12_comes_18 ⟨_, rfl, hk⟩
theorem dX12_next_0 : decode cX12_next 0 = .ok (.aload_n 0, 1) := by decide +kernel
theorem dX12_next_1 : decode cX12_next 1 = .ok (.invokevirtual 293, 3) := by decide +kernel
theorem dX12_next_4 : decode cX12_next 4 = .ok (.istore_n 1, 1) := by decide +kernel
theorem dX12_next_5 : decode cX12_next 5 = .ok (.iload_n 1, 1) := by decide +kernel
theorem dX12_next_6 : decode cX12_next 6 = .ok (.ifCond .ne 7, 3) := by decide +kernel
theorem dX12_next_9 : decode cX12_next 9 = .ok (.iconst (-1), 1) := by decide +kernel
theorem dX12_next_10 : decode cX12_next 10 = .ok (.goto 8, 3) := by decide +kernel
theorem dX12_next_13 : decode cX12_next 13 = .ok (.aload_n 0, 1) := by decide +kernel
theorem dX12_next_14 : decode cX12_next 14 = .ok (.iload_n 1, 1) := by decide +kernel
theorem dX12_next_15 : decode cX12_next 15 = .ok (.invokevirtual 299, 3) := by decide +kernel
theorem dX12_next_18 : decode cX12_next 18 = .ok (.ireturn, 1) := by decide +kernel
noncomputable def f_X12_next (M : ZMem) : Option (ZMem × Int32) := zbind (f_X12_pieceTold M) (fun r_1 => if r_1.2 = (zI 0) then some (r_1.1, (zI (-1))) else zbind (f_X12_nextOf r_1.1 r_1.2) (fun r_15 => some (r_1.1, r_15)))
set_option maxRecDepth 100000 in
set_option maxHeartbeats 4000000 in
theorem c_X12_next (E : ZEv) (M : ZMem) (K : ZMem × Int32 → Prop) (hk : zOk (f_X12_next M) K) : zCon lyR E yX12_next cX12_next 2 (some .int) 7 [zrf E 0] M (zRm K) := by
  refine zcon_of (L0 := [(0, zrf E 0)]) (by decide) rfl (Nat.le_of_ble_eq_true rfl) (fun G h => ?_)
  have h : zRu lyR E G (zRm K) cX12_next RX12 2 (some .int) 7 := h
  unfold f_X12_next at hk
  refine zr_aload_n h dX12_next_0 0 rfl rfl ?_
  refine zr_callVm h lR_0 zcw_X12_293 (by decide) (c_X12_pieceTold E M _ (zOk_bind hk)) rfl rfl (Nat.le_of_ble_eq_true rfl) dX12_next_1 (fun r_1 hk => ?_)
  refine zr_istore_n (L' := [(0, zrf E 0), (1, .int r_1.2)]) h [1, 0] dX12_next_4 rfl (by decide) rfl ?_
  refine zr_iload_n h dX12_next_5 1 rfl rfl ?_
  refine zr_if_ne (tgt := 13) h dX12_next_6 (by decide) (fun c => ?_) (fun c => ?_)
  · have hk := zOk_t c hk
    refine zr_iconst (v := (zI (-1))) h dX12_next_9 rfl ?_
    refine zr_goto (tgt := 18) h dX12_next_10 (by decide) ?_
    have hk := zOk_some hk
    exact zr_iret h dX12_next_18 ⟨_, rfl, hk⟩
  · have hk := zOk_f c hk
    refine zr_aload_n h dX12_next_13 0 rfl rfl ?_
    refine zr_iload_n h dX12_next_14 1 rfl rfl ?_
    refine zr_callVp h lR_0 zcw_X12_299 (by decide) (c_X12_nextOf E r_1.1 r_1.2 _ (zOk_bind hk)) rfl rfl (Nat.le_of_ble_eq_true rfl) dX12_next_15 (fun r_15 hk => ?_)
    have hk := zOk_some hk
    exact zr_iret h dX12_next_18 ⟨_, rfl, hk⟩
theorem dX12_words_0 : decode cX12_words 0 = .ok (.aload_n 0, 1) := by decide +kernel
theorem dX12_words_1 : decode cX12_words 1 = .ok (.invokevirtual 235, 3) := by decide +kernel
theorem dX12_words_4 : decode cX12_words 4 = .ok (.aload_n 0, 1) := by decide +kernel
theorem dX12_words_5 : decode cX12_words 5 = .ok (.getfield 302, 3) := by decide +kernel
theorem dX12_words_8 : decode cX12_words 8 = .ok (.ireturn, 1) := by decide +kernel
noncomputable def f_X12_words (M : ZMem) : Option (ZMem × Int32) := zbind (f_X12_lays M) (fun M_1 => some (M_1, (M_1.1 0 25)))
set_option maxRecDepth 100000 in
set_option maxHeartbeats 4000000 in
theorem c_X12_words (E : ZEv) (M : ZMem) (K : ZMem × Int32 → Prop) (hk : zOk (f_X12_words M) K) : zCon lyR E yX12_words cX12_words 1 (some .int) 6 [zrf E 0] M (zRm K) := by
  refine zcon_of (L0 := [(0, zrf E 0)]) (by decide) rfl (Nat.le_of_ble_eq_true rfl) (fun G h => ?_)
  have h : zRu lyR E G (zRm K) cX12_words RX12 1 (some .int) 6 := h
  unfold f_X12_words at hk
  refine zr_aload_n h dX12_words_0 0 rfl rfl ?_
  refine zr_callVv h lR_0 zcw_X12_235 (by decide) (c_X12_lays E M _ (zOk_bind hk)) rfl rfl (Nat.le_of_ble_eq_true rfl) dX12_words_1 (fun M_1 hk => ?_)
  refine zr_aload_n h dX12_words_4 0 rfl rfl ?_
  refine zr_getI h zfo_X12_302 lR_0 rfl dX12_words_5 ?_
  have hk := zOk_some hk
  exact zr_iret h dX12_words_8 ⟨_, rfl, hk⟩
theorem dX12_word_0 : decode cX12_word 0 = .ok (.aload_n 0, 1) := by decide +kernel
theorem dX12_word_1 : decode cX12_word 1 = .ok (.invokevirtual 235, 3) := by decide +kernel
theorem dX12_word_4 : decode cX12_word 4 = .ok (.iload_n 1, 1) := by decide +kernel
theorem dX12_word_5 : decode cX12_word 5 = .ok (.iconst 0, 1) := by decide +kernel
theorem dX12_word_6 : decode cX12_word 6 = .ok (.aload_n 0, 1) := by decide +kernel
theorem dX12_word_7 : decode cX12_word 7 = .ok (.getfield 302, 3) := by decide +kernel
theorem dX12_word_10 : decode cX12_word 10 = .ok (.iconst 1, 1) := by decide +kernel
theorem dX12_word_11 : decode cX12_word 11 = .ok (.isub, 1) := by decide +kernel
theorem dX12_word_12 : decode cX12_word 12 = .ok (.invokestatic 123, 3) := by decide +kernel
theorem dX12_word_15 : decode cX12_word 15 = .ok (.ifCond .eq 13, 3) := by decide +kernel
theorem dX12_word_18 : decode cX12_word 18 = .ok (.iload_n 2, 1) := by decide +kernel
theorem dX12_word_19 : decode cX12_word 19 = .ok (.iconst 0, 1) := by decide +kernel
theorem dX12_word_20 : decode cX12_word 20 = .ok (.bipush 8, 2) := by decide +kernel
theorem dX12_word_22 : decode cX12_word 22 = .ok (.invokestatic 123, 3) := by decide +kernel
theorem dX12_word_25 : decode cX12_word 25 = .ok (.ifCond .ne 5, 3) := by decide +kernel
theorem dX12_word_28 : decode cX12_word 28 = .ok (.iconst (-1), 1) := by decide +kernel
theorem dX12_word_29 : decode cX12_word 29 = .ok (.ireturn, 1) := by decide +kernel
theorem dX12_word_30 : decode cX12_word 30 = .ok (.iload_n 2, 1) := by decide +kernel
theorem dX12_word_31 : decode cX12_word 31 = .ok (.ifCond .ne 12, 3) := by decide +kernel
theorem dX12_word_34 : decode cX12_word 34 = .ok (.aload_n 0, 1) := by decide +kernel
theorem dX12_word_35 : decode cX12_word 35 = .ok (.getfield 62, 3) := by decide +kernel
theorem dX12_word_38 : decode cX12_word 38 = .ok (.iload_n 1, 1) := by decide +kernel
theorem dX12_word_39 : decode cX12_word 39 = .ok (.iaload, 1) := by decide +kernel
theorem dX12_word_40 : decode cX12_word 40 = .ok (.goto 30, 3) := by decide +kernel
theorem dX12_word_43 : decode cX12_word 43 = .ok (.iload_n 2, 1) := by decide +kernel
theorem dX12_word_44 : decode cX12_word 44 = .ok (.iconst 1, 1) := by decide +kernel
theorem dX12_word_45 : decode cX12_word 45 = .ok (.if_icmp .ne 12, 3) := by decide +kernel
theorem dX12_word_48 : decode cX12_word 48 = .ok (.aload_n 0, 1) := by decide +kernel
theorem dX12_word_49 : decode cX12_word 49 = .ok (.getfield 56, 3) := by decide +kernel
theorem dX12_word_52 : decode cX12_word 52 = .ok (.iload_n 1, 1) := by decide +kernel
theorem dX12_word_53 : decode cX12_word 53 = .ok (.iaload, 1) := by decide +kernel
theorem dX12_word_54 : decode cX12_word 54 = .ok (.goto 16, 3) := by decide +kernel
theorem dX12_word_57 : decode cX12_word 57 = .ok (.aload_n 0, 1) := by decide +kernel
theorem dX12_word_58 : decode cX12_word 58 = .ok (.getfield 59, 3) := by decide +kernel
theorem dX12_word_61 : decode cX12_word 61 = .ok (.bipush 7, 2) := by decide +kernel
theorem dX12_word_63 : decode cX12_word 63 = .ok (.iload_n 1, 1) := by decide +kernel
theorem dX12_word_64 : decode cX12_word 64 = .ok (.imul, 1) := by decide +kernel
theorem dX12_word_65 : decode cX12_word 65 = .ok (.iload_n 2, 1) := by decide +kernel
theorem dX12_word_66 : decode cX12_word 66 = .ok (.iadd, 1) := by decide +kernel
theorem dX12_word_67 : decode cX12_word 67 = .ok (.iconst 2, 1) := by decide +kernel
theorem dX12_word_68 : decode cX12_word 68 = .ok (.isub, 1) := by decide +kernel
theorem dX12_word_69 : decode cX12_word 69 = .ok (.iaload, 1) := by decide +kernel
theorem dX12_word_70 : decode cX12_word 70 = .ok (.ireturn, 1) := by decide +kernel
noncomputable def f_X12_word (M : ZMem) (x1 : Int32) (x2 : Int32) : Option (ZMem × Int32) := zbind (f_X12_lays M) (fun M_1 => zbind (f_X12_in M_1 x1 (zI 0) ((M_1.1 0 25) - (zI 1))) (fun r_12 => if r_12 = (zI 0) then some (M_1, (zI (-1))) else zbind (f_X12_in M_1 x2 (zI 0) (zI 8)) (fun r_22 => if r_22 = (zI 0) then some (M_1, (zI (-1))) else if x2 = (zI 0) then zchk (zin x1 241) (some (M_1, (M_1.1 18 (zix x1)))) else if x2 = (zI 1) then zchk (zin x1 241) (some (M_1, (M_1.1 16 (zix x1)))) else zchk (zin ((((zI 7) * x1) + x2) - (zI 2)) 1687) (some (M_1, (M_1.1 17 (zix ((((zI 7) * x1) + x2) - (zI 2)))))))))
set_option maxRecDepth 100000 in
set_option maxHeartbeats 4000000 in
theorem c_X12_word (E : ZEv) (M : ZMem) (x1 : Int32) (x2 : Int32) (K : ZMem × Int32 → Prop) (hk : zOk (f_X12_word M x1 x2) K) : zCon lyR E yX12_word cX12_word 3 (some .int) 6 [zrf E 0, .int x1, .int x2] M (zRm K) := by
  refine zcon_of (L0 := [(0, zrf E 0), (1, .int x1), (2, .int x2)]) (by decide) rfl (Nat.le_of_ble_eq_true rfl) (fun G h => ?_)
  have h : zRu lyR E G (zRm K) cX12_word RX12 3 (some .int) 6 := h
  unfold f_X12_word at hk
  refine zr_aload_n h dX12_word_0 0 rfl rfl ?_
  refine zr_callVv h lR_0 zcw_X12_235 (by decide) (c_X12_lays E M _ (zOk_bind hk)) rfl rfl (Nat.le_of_ble_eq_true rfl) dX12_word_1 (fun M_1 hk => ?_)
  refine zr_iload_n h dX12_word_4 1 rfl rfl ?_
  refine zr_iconst (v := (zI 0)) h dX12_word_5 rfl ?_
  refine zr_aload_n h dX12_word_6 0 rfl rfl ?_
  refine zr_getI h zfo_X12_302 lR_0 rfl dX12_word_7 ?_
  refine zr_iconst (v := (zI 1)) h dX12_word_10 rfl ?_
  refine zr_isub h dX12_word_11 ?_
  refine zr_callSp h zcw_X12_123 (by decide) (c_X12_in E M_1 x1 (zI 0) ((M_1.1 0 25) - (zI 1)) _ (zOk_bind hk)) rfl rfl (Nat.le_of_ble_eq_true rfl) dX12_word_12 (fun r_12 hk => ?_)
  refine zr_if_eq (tgt := 28) h dX12_word_15 (by decide) (fun c => ?_) (fun c => ?_)
  · have hk := zOk_t c hk
    refine zr_iconst (v := (zI (-1))) h dX12_word_28 rfl ?_
    have hk := zOk_some hk
    exact zr_iret h dX12_word_29 ⟨_, rfl, hk⟩
  · have hk := zOk_f c hk
    refine zr_iload_n h dX12_word_18 2 rfl rfl ?_
    refine zr_iconst (v := (zI 0)) h dX12_word_19 rfl ?_
    refine zr_bipush (v := (zI 8)) h dX12_word_20 (by decide) ?_
    refine zr_callSp h zcw_X12_123 (by decide) (c_X12_in E M_1 x2 (zI 0) (zI 8) _ (zOk_bind hk)) rfl rfl (Nat.le_of_ble_eq_true rfl) dX12_word_22 (fun r_22 hk => ?_)
    refine zr_if_ne (tgt := 30) h dX12_word_25 (by decide) (fun c => ?_) (fun c => ?_)
    · have hk := zOk_t c hk
      refine zr_iconst (v := (zI (-1))) h dX12_word_28 rfl ?_
      have hk := zOk_some hk
      exact zr_iret h dX12_word_29 ⟨_, rfl, hk⟩
    · have hk := zOk_f c hk
      refine zr_iload_n h dX12_word_30 2 rfl rfl ?_
      refine zr_if_ne (tgt := 43) h dX12_word_31 (by decide) (fun c => ?_) (fun c => ?_)
      · have hk := zOk_t c hk
        refine zr_aload_n h dX12_word_34 0 rfl rfl ?_
        refine zr_getR h zfo_X12_62 lR_0 rfl dX12_word_35 ?_
        refine zr_iload_n h dX12_word_38 1 rfl rfl ?_
        have hb := zOk_chk hk
        have hk := hb.2
        refine zr_iald h lR_18 hb.1 dX12_word_39 ?_
        refine zr_goto (tgt := 70) h dX12_word_40 (by decide) ?_
        have hk := zOk_some hk
        exact zr_iret h dX12_word_70 ⟨_, rfl, hk⟩
      · have hk := zOk_f c hk
        refine zr_iload_n h dX12_word_43 2 rfl rfl ?_
        refine zr_iconst (v := (zI 1)) h dX12_word_44 rfl ?_
        refine zr_icmp_ne (tgt := 57) h dX12_word_45 (by decide) (fun c => ?_) (fun c => ?_)
        · have hk := zOk_t c hk
          refine zr_aload_n h dX12_word_48 0 rfl rfl ?_
          refine zr_getR h zfo_X12_56 lR_0 rfl dX12_word_49 ?_
          refine zr_iload_n h dX12_word_52 1 rfl rfl ?_
          have hb := zOk_chk hk
          have hk := hb.2
          refine zr_iald h lR_16 hb.1 dX12_word_53 ?_
          refine zr_goto (tgt := 70) h dX12_word_54 (by decide) ?_
          have hk := zOk_some hk
          exact zr_iret h dX12_word_70 ⟨_, rfl, hk⟩
        · have hk := zOk_f c hk
          refine zr_aload_n h dX12_word_57 0 rfl rfl ?_
          refine zr_getR h zfo_X12_59 lR_0 rfl dX12_word_58 ?_
          refine zr_bipush (v := (zI 7)) h dX12_word_61 (by decide) ?_
          refine zr_iload_n h dX12_word_63 1 rfl rfl ?_
          refine zr_imul h dX12_word_64 ?_
          refine zr_iload_n h dX12_word_65 2 rfl rfl ?_
          refine zr_iadd h dX12_word_66 ?_
          refine zr_iconst (v := (zI 2)) h dX12_word_67 rfl ?_
          refine zr_isub h dX12_word_68 ?_
          have hb := zOk_chk hk
          have hk := hb.2
          refine zr_iald h lR_17 hb.1 dX12_word_69 ?_
          have hk := zOk_some hk
          exact zr_iret h dX12_word_70 ⟨_, rfl, hk⟩
theorem dX12_rank_0 : decode cX12_rank 0 = .ok (.aload_n 0, 1) := by decide +kernel
theorem dX12_rank_1 : decode cX12_rank 1 = .ok (.invokevirtual 235, 3) := by decide +kernel
theorem dX12_rank_4 : decode cX12_rank 4 = .ok (.iconst 0, 1) := by decide +kernel
theorem dX12_rank_5 : decode cX12_rank 5 = .ok (.istore_n 2, 1) := by decide +kernel
theorem dX12_rank_6 : decode cX12_rank 6 = .ok (.iload_n 2, 1) := by decide +kernel
theorem dX12_rank_7 : decode cX12_rank 7 = .ok (.aload_n 0, 1) := by decide +kernel
theorem dX12_rank_8 : decode cX12_rank 8 = .ok (.getfield 302, 3) := by decide +kernel
theorem dX12_rank_11 : decode cX12_rank 11 = .ok (.if_icmp .ge 85, 3) := by decide +kernel
theorem dX12_rank_14 : decode cX12_rank 14 = .ok (.iconst 0, 1) := by decide +kernel
theorem dX12_rank_15 : decode cX12_rank 15 = .ok (.istore_n 3, 1) := by decide +kernel
theorem dX12_rank_16 : decode cX12_rank 16 = .ok (.iconst 0, 1) := by decide +kernel
theorem dX12_rank_17 : decode cX12_rank 17 = .ok (.istore 4, 2) := by decide +kernel
theorem dX12_rank_19 : decode cX12_rank 19 = .ok (.iload 4, 2) := by decide +kernel
theorem dX12_rank_21 : decode cX12_rank 21 = .ok (.aload_n 0, 1) := by decide +kernel
theorem dX12_rank_22 : decode cX12_rank 22 = .ok (.getfield 302, 3) := by decide +kernel
theorem dX12_rank_25 : decode cX12_rank 25 = .ok (.if_icmp .ge 58, 3) := by decide +kernel
theorem dX12_rank_28 : decode cX12_rank 28 = .ok (.iload_n 3, 1) := by decide +kernel
theorem dX12_rank_29 : decode cX12_rank 29 = .ok (.aload_n 0, 1) := by decide +kernel
theorem dX12_rank_30 : decode cX12_rank 30 = .ok (.getfield 62, 3) := by decide +kernel
theorem dX12_rank_33 : decode cX12_rank 33 = .ok (.iload 4, 2) := by decide +kernel
theorem dX12_rank_35 : decode cX12_rank 35 = .ok (.iaload, 1) := by decide +kernel
theorem dX12_rank_36 : decode cX12_rank 36 = .ok (.aload_n 0, 1) := by decide +kernel
theorem dX12_rank_37 : decode cX12_rank 37 = .ok (.getfield 62, 3) := by decide +kernel
theorem dX12_rank_40 : decode cX12_rank 40 = .ok (.iload_n 2, 1) := by decide +kernel
theorem dX12_rank_41 : decode cX12_rank 41 = .ok (.iaload, 1) := by decide +kernel
theorem dX12_rank_42 : decode cX12_rank 42 = .ok (.if_icmp .gt 25, 3) := by decide +kernel
theorem dX12_rank_45 : decode cX12_rank 45 = .ok (.aload_n 0, 1) := by decide +kernel
theorem dX12_rank_46 : decode cX12_rank 46 = .ok (.getfield 62, 3) := by decide +kernel
theorem dX12_rank_49 : decode cX12_rank 49 = .ok (.iload 4, 2) := by decide +kernel
theorem dX12_rank_51 : decode cX12_rank 51 = .ok (.iaload, 1) := by decide +kernel
theorem dX12_rank_52 : decode cX12_rank 52 = .ok (.aload_n 0, 1) := by decide +kernel
theorem dX12_rank_53 : decode cX12_rank 53 = .ok (.getfield 62, 3) := by decide +kernel
theorem dX12_rank_56 : decode cX12_rank 56 = .ok (.iload_n 2, 1) := by decide +kernel
theorem dX12_rank_57 : decode cX12_rank 57 = .ok (.iaload, 1) := by decide +kernel
theorem dX12_rank_58 : decode cX12_rank 58 = .ok (.if_icmp .ne 13, 3) := by decide +kernel
theorem dX12_rank_61 : decode cX12_rank 61 = .ok (.iload 4, 2) := by decide +kernel
theorem dX12_rank_63 : decode cX12_rank 63 = .ok (.iload_n 2, 1) := by decide +kernel
theorem dX12_rank_64 : decode cX12_rank 64 = .ok (.if_icmp .ge 7, 3) := by decide +kernel
theorem dX12_rank_67 : decode cX12_rank 67 = .ok (.iconst 1, 1) := by decide +kernel
theorem dX12_rank_68 : decode cX12_rank 68 = .ok (.goto 4, 3) := by decide +kernel
theorem dX12_rank_71 : decode cX12_rank 71 = .ok (.iconst 0, 1) := by decide +kernel
theorem dX12_rank_72 : decode cX12_rank 72 = .ok (.invokestatic 177, 3) := by decide +kernel
theorem dX12_rank_75 : decode cX12_rank 75 = .ok (.iadd, 1) := by decide +kernel
theorem dX12_rank_76 : decode cX12_rank 76 = .ok (.istore_n 3, 1) := by decide +kernel
theorem dX12_rank_77 : decode cX12_rank 77 = .ok (.iinc 4 1, 3) := by decide +kernel
theorem dX12_rank_80 : decode cX12_rank 80 = .ok (.goto (-61), 3) := by decide +kernel
theorem dX12_rank_83 : decode cX12_rank 83 = .ok (.iload_n 3, 1) := by decide +kernel
theorem dX12_rank_84 : decode cX12_rank 84 = .ok (.iload_n 1, 1) := by decide +kernel
theorem dX12_rank_85 : decode cX12_rank 85 = .ok (.if_icmp .ne 5, 3) := by decide +kernel
theorem dX12_rank_88 : decode cX12_rank 88 = .ok (.iload_n 2, 1) := by decide +kernel
theorem dX12_rank_89 : decode cX12_rank 89 = .ok (.ireturn, 1) := by decide +kernel
theorem dX12_rank_90 : decode cX12_rank 90 = .ok (.iinc 2 1, 3) := by decide +kernel
theorem dX12_rank_93 : decode cX12_rank 93 = .ok (.goto (-87), 3) := by decide +kernel
theorem dX12_rank_96 : decode cX12_rank 96 = .ok (.iconst (-1), 1) := by decide +kernel
theorem dX12_rank_97 : decode cX12_rank 97 = .ok (.ireturn, 1) := by decide +kernel
noncomputable def f_X12_rank_72_L19 (M : ZMem) (x1 : Int32) (x2 : Int32) (x4 : Int32) (v0 : Int32) (v1 : Int32) : Option ((Int32 × Int32) ⊕ (Int32)) := zbind (f_X12_truth M v1) (fun r_72 => zbnd (v0 + r_72) (fun x3_76 => zbnd (x4 + (zI 1)) (fun x4_77 => some (.inl (x3_76, x4_77)))))
set_option maxRecDepth 100000 in
set_option maxHeartbeats 4000000 in
theorem w_X12_rank_72_L19 {E : ZEv} {G : ZG} {K : (ZMem × Int32) → Prop} (h : zRu lyR E G (zRm K) cX12_rank RX12 5 (some .int) 6) (M : ZMem) (x1 : Int32) (x2 : Int32) (x4 : Int32) (v0 : Int32) (v1 : Int32) (hk : zOk (f_X12_rank_72_L19 M x1 x2 x4 v0 v1) (zlp (fun s => G M 19 [(0, zrf E 0), (1, .int x1), (2, .int x2), (3, .int s.1), (4, .int s.2)] []) (fun e => G M 83 [(0, zrf E 0), (1, .int x1), (2, .int x2), (3, .int e)] []))) : G M 72 [(0, zrf E 0), (1, .int x1), (2, .int x2), (4, .int x4)] [.int v1, .int v0] := by
  unfold f_X12_rank_72_L19 at hk
  refine zr_callSp h zcw_X12_177 (by decide) (c_X12_truth E M v1 _ (zOk_bind hk)) rfl rfl (Nat.le_of_ble_eq_true rfl) dX12_rank_72 (fun r_72 hk => ?_)
  refine zr_iadd h dX12_rank_75 ?_
  refine zr_topi (fun x3_76 ex => ?_)
  have hk := zOk_bnd ex hk
  refine zr_istore_n (L' := [(0, zrf E 0), (1, .int x1), (2, .int x2), (3, .int x3_76), (4, .int x4)]) h [1, 2, 3, 0, 4] dX12_rank_76 rfl (by decide) rfl ?_
  obtain ⟨x4_77, ex⟩ : ∃ y : Int32, y = x4 + (zI 1) := ⟨_, rfl⟩
  have hk := zOk_bnd ex hk
  refine zr_iinc (v := x4_77) (L' := [(0, zrf E 0), (1, .int x1), (2, .int x2), (3, .int x3_76), (4, .int x4_77)]) h 4 [1, 2, 3, 4, 0] dX12_rank_77 rfl (by rw [ex]; rfl) (by decide) rfl ?_
  refine zr_goto (tgt := 19) h dX12_rank_80 (by decide) ?_
  have hk := zOk_some hk
  exact zr_weak h [0, 1, 2, 3, 4] rfl hk
noncomputable def f_X12_rank_67_L19 (M : ZMem) (x1 : Int32) (x2 : Int32) (x4 : Int32) (v0 : Int32) : Option ((Int32 × Int32) ⊕ (Int32)) := f_X12_rank_72_L19 M x1 x2 x4 v0 (zI 1)
set_option maxRecDepth 100000 in
set_option maxHeartbeats 4000000 in
theorem w_X12_rank_67_L19 {E : ZEv} {G : ZG} {K : (ZMem × Int32) → Prop} (h : zRu lyR E G (zRm K) cX12_rank RX12 5 (some .int) 6) (M : ZMem) (x1 : Int32) (x2 : Int32) (x4 : Int32) (v0 : Int32) (hk : zOk (f_X12_rank_67_L19 M x1 x2 x4 v0) (zlp (fun s => G M 19 [(0, zrf E 0), (1, .int x1), (2, .int x2), (3, .int s.1), (4, .int s.2)] []) (fun e => G M 83 [(0, zrf E 0), (1, .int x1), (2, .int x2), (3, .int e)] []))) : G M 67 [(0, zrf E 0), (1, .int x1), (2, .int x2), (4, .int x4)] [.int v0] := by
  unfold f_X12_rank_67_L19 at hk
  refine zr_iconst (v := (zI 1)) h dX12_rank_67 rfl ?_
  refine zr_goto (tgt := 72) h dX12_rank_68 (by decide) ?_
  exact w_X12_rank_72_L19 h M x1 x2 x4 v0 (zI 1) hk
noncomputable def f_X12_rank_71_L19 (M : ZMem) (x1 : Int32) (x2 : Int32) (x4 : Int32) (v0 : Int32) : Option ((Int32 × Int32) ⊕ (Int32)) := f_X12_rank_72_L19 M x1 x2 x4 v0 (zI 0)
set_option maxRecDepth 100000 in
set_option maxHeartbeats 4000000 in
theorem w_X12_rank_71_L19 {E : ZEv} {G : ZG} {K : (ZMem × Int32) → Prop} (h : zRu lyR E G (zRm K) cX12_rank RX12 5 (some .int) 6) (M : ZMem) (x1 : Int32) (x2 : Int32) (x4 : Int32) (v0 : Int32) (hk : zOk (f_X12_rank_71_L19 M x1 x2 x4 v0) (zlp (fun s => G M 19 [(0, zrf E 0), (1, .int x1), (2, .int x2), (3, .int s.1), (4, .int s.2)] []) (fun e => G M 83 [(0, zrf E 0), (1, .int x1), (2, .int x2), (3, .int e)] []))) : G M 71 [(0, zrf E 0), (1, .int x1), (2, .int x2), (4, .int x4)] [.int v0] := by
  unfold f_X12_rank_71_L19 at hk
  refine zr_iconst (v := (zI 0)) h dX12_rank_71 rfl ?_
  exact w_X12_rank_72_L19 h M x1 x2 x4 v0 (zI 0) hk
noncomputable def f_X12_rank_L19 (M : ZMem) (x1 : Int32) (x2 : Int32) (s : (Int32 × Int32)) : Option ((Int32 × Int32) ⊕ (Int32)) := if (M.1 0 25) ≤ s.2 then some (.inr s.1) else zchk (zin s.2 241) (zchk (zin x2 241) (if (M.1 18 (zix x2)) < (M.1 18 (zix s.2)) then f_X12_rank_67_L19 M x1 x2 s.2 s.1 else zchk (zin s.2 241) (zchk (zin x2 241) (if (M.1 18 (zix s.2)) = (M.1 18 (zix x2)) then if x2 ≤ s.2 then f_X12_rank_71_L19 M x1 x2 s.2 s.1 else f_X12_rank_67_L19 M x1 x2 s.2 s.1 else f_X12_rank_71_L19 M x1 x2 s.2 s.1))))
set_option maxRecDepth 100000 in
set_option maxHeartbeats 4000000 in
theorem w_X12_rank_L19 {E : ZEv} {G : ZG} {K : (ZMem × Int32) → Prop} (h : zRu lyR E G (zRm K) cX12_rank RX12 5 (some .int) 6) (M : ZMem) (x1 : Int32) (x2 : Int32) (s : (Int32 × Int32)) (hk : zOk (zloop (f_X12_rank_L19 M x1 x2) s) (fun e => G M 83 [(0, zrf E 0), (1, .int x1), (2, .int x2), (3, .int e)] [])) : G M 19 [(0, zrf E 0), (1, .int x1), (2, .int x2), (3, .int s.1), (4, .int s.2)] [] := by
  refine zloop_walk (P := fun s => G M 19 [(0, zrf E 0), (1, .int x1), (2, .int x2), (3, .int s.1), (4, .int s.2)] []) hk (fun s hk => ?_)
  unfold f_X12_rank_L19 at hk
  refine zr_iload h dX12_rank_19 4 rfl ?_
  refine zr_aload_n h dX12_rank_21 0 rfl rfl ?_
  refine zr_getI h zfo_X12_302 lR_0 rfl dX12_rank_22 ?_
  refine zr_icmp_ge (tgt := 83) h dX12_rank_25 (by decide) (fun c => ?_) (fun c => ?_)
  · have hk := zOk_t c hk
    have hk := zOk_some hk
    exact zr_weak h [0, 1, 2, 3] rfl hk
  · have hk := zOk_f c hk
    refine zr_iload_n h dX12_rank_28 3 rfl rfl ?_
    refine zr_aload_n h dX12_rank_29 0 rfl rfl ?_
    refine zr_getR h zfo_X12_62 lR_0 rfl dX12_rank_30 ?_
    refine zr_iload h dX12_rank_33 4 rfl ?_
    have hb := zOk_chk hk
    have hk := hb.2
    refine zr_iald h lR_18 hb.1 dX12_rank_35 ?_
    refine zr_aload_n h dX12_rank_36 0 rfl rfl ?_
    refine zr_getR h zfo_X12_62 lR_0 rfl dX12_rank_37 ?_
    refine zr_iload_n h dX12_rank_40 2 rfl rfl ?_
    have hb := zOk_chk hk
    have hk := hb.2
    refine zr_iald h lR_18 hb.1 dX12_rank_41 ?_
    refine zr_icmp_gt (tgt := 67) h dX12_rank_42 (by decide) (fun c => ?_) (fun c => ?_)
    · have hk := zOk_t c hk
      exact zr_weak h [0, 1, 2, 4] rfl (w_X12_rank_67_L19 h M x1 x2 s.2 s.1 hk)
    · have hk := zOk_f c hk
      refine zr_aload_n h dX12_rank_45 0 rfl rfl ?_
      refine zr_getR h zfo_X12_62 lR_0 rfl dX12_rank_46 ?_
      refine zr_iload h dX12_rank_49 4 rfl ?_
      have hb := zOk_chk hk
      have hk := hb.2
      refine zr_iald h lR_18 hb.1 dX12_rank_51 ?_
      refine zr_aload_n h dX12_rank_52 0 rfl rfl ?_
      refine zr_getR h zfo_X12_62 lR_0 rfl dX12_rank_53 ?_
      refine zr_iload_n h dX12_rank_56 2 rfl rfl ?_
      have hb := zOk_chk hk
      have hk := hb.2
      refine zr_iald h lR_18 hb.1 dX12_rank_57 ?_
      refine zr_icmp_ne (tgt := 71) h dX12_rank_58 (by decide) (fun c => ?_) (fun c => ?_)
      · have hk := zOk_t c hk
        refine zr_iload h dX12_rank_61 4 rfl ?_
        refine zr_iload_n h dX12_rank_63 2 rfl rfl ?_
        refine zr_icmp_ge (tgt := 71) h dX12_rank_64 (by decide) (fun c => ?_) (fun c => ?_)
        · have hk := zOk_t c hk
          exact zr_weak h [0, 1, 2, 4] rfl (w_X12_rank_71_L19 h M x1 x2 s.2 s.1 hk)
        · have hk := zOk_f c hk
          exact zr_weak h [0, 1, 2, 4] rfl (w_X12_rank_67_L19 h M x1 x2 s.2 s.1 hk)
      · have hk := zOk_f c hk
        exact zr_weak h [0, 1, 2, 4] rfl (w_X12_rank_71_L19 h M x1 x2 s.2 s.1 hk)
noncomputable def f_X12_rank_L6 (M : ZMem) (x1 : Int32) (s : (Int32)) : Option ((Int32) ⊕ ((Unit) ⊕ (ZMem × Int32))) := if (M.1 0 25) ≤ s then some (.inr (.inl ())) else zbind (zloop (f_X12_rank_L19 M x1 s) ((zI 0), (zI 0))) (fun e19 => if e19 = x1 then some (.inr (.inr (M, s))) else zbnd (s + (zI 1)) (fun x2_90 => some (.inl x2_90)))
set_option maxRecDepth 100000 in
set_option maxHeartbeats 4000000 in
theorem w_X12_rank_L6 {E : ZEv} {G : ZG} {K : (ZMem × Int32) → Prop} (h : zRu lyR E G (zRm K) cX12_rank RX12 5 (some .int) 6) (M : ZMem) (x1 : Int32) (s : (Int32)) (hk : zOk (zloop (f_X12_rank_L6 M x1) s) (fun e => zsel e (fun e0 => G M 96 [] []) (fun f0 => K f0))) : G M 6 [(0, zrf E 0), (1, .int x1), (2, .int s)] [] := by
  refine zloop_walk (P := fun s => G M 6 [(0, zrf E 0), (1, .int x1), (2, .int s)] []) hk (fun s hk => ?_)
  unfold f_X12_rank_L6 at hk
  refine zr_iload_n h dX12_rank_6 2 rfl rfl ?_
  refine zr_aload_n h dX12_rank_7 0 rfl rfl ?_
  refine zr_getI h zfo_X12_302 lR_0 rfl dX12_rank_8 ?_
  refine zr_icmp_ge (tgt := 96) h dX12_rank_11 (by decide) (fun c => ?_) (fun c => ?_)
  · have hk := zOk_t c hk
    have hk := zOk_some hk
    exact zr_weak h [] rfl hk
  · have hk := zOk_f c hk
    refine zr_iconst (v := (zI 0)) h dX12_rank_14 rfl ?_
    refine zr_istore_n (L' := [(0, zrf E 0), (1, .int x1), (2, .int s), (3, .int (zI 0))]) h [1, 2, 3, 0] dX12_rank_15 rfl (by decide) rfl ?_
    refine zr_iconst (v := (zI 0)) h dX12_rank_16 rfl ?_
    refine zr_istore (L' := [(0, zrf E 0), (1, .int x1), (2, .int s), (3, .int (zI 0)), (4, .int (zI 0))]) h [1, 2, 3, 4, 0] dX12_rank_17 (by decide) rfl ?_
    refine w_X12_rank_L19 h M x1 s ((zI 0), (zI 0)) (zOk_mono (zOk_bind hk) (fun e19 hk => ?_))
    refine zr_iload_n h dX12_rank_83 3 rfl rfl ?_
    refine zr_iload_n h dX12_rank_84 1 rfl rfl ?_
    refine zr_icmp_ne (tgt := 90) h dX12_rank_85 (by decide) (fun c => ?_) (fun c => ?_)
    · have hk := zOk_t c hk
      refine zr_iload_n h dX12_rank_88 2 rfl rfl ?_
      have hk := zOk_some hk
      exact zr_iret h dX12_rank_89 ⟨_, rfl, hk⟩
    · have hk := zOk_f c hk
      obtain ⟨x2_90, ex⟩ : ∃ y : Int32, y = s + (zI 1) := ⟨_, rfl⟩
      have hk := zOk_bnd ex hk
      refine zr_iinc (v := x2_90) (L' := [(0, zrf E 0), (1, .int x1), (2, .int x2_90)]) h 2 [1, 2, 0] dX12_rank_90 rfl (by rw [ex]; rfl) (by decide) rfl ?_
      refine zr_goto (tgt := 6) h dX12_rank_93 (by decide) ?_
      have hk := zOk_some hk
      exact zr_weak h [0, 1, 2] rfl hk
noncomputable def f_X12_rank (M : ZMem) (x1 : Int32) : Option (ZMem × Int32) := zbind (f_X12_lays M) (fun M_1 => zbind (zloop (f_X12_rank_L6 M_1 x1) (zI 0)) (fun e6 => zsel e6 (fun e6a => some (M_1, (zI (-1)))) (fun e6b => some e6b)))
set_option maxRecDepth 100000 in
set_option maxHeartbeats 4000000 in
theorem c_X12_rank (E : ZEv) (M : ZMem) (x1 : Int32) (K : ZMem × Int32 → Prop) (hk : zOk (f_X12_rank M x1) K) : zCon lyR E yX12_rank cX12_rank 5 (some .int) 6 [zrf E 0, .int x1] M (zRm K) := by
  refine zcon_of (L0 := [(0, zrf E 0), (1, .int x1)]) (by decide) rfl (Nat.le_of_ble_eq_true rfl) (fun G h => ?_)
  have h : zRu lyR E G (zRm K) cX12_rank RX12 5 (some .int) 6 := h
  unfold f_X12_rank at hk
  refine zr_aload_n h dX12_rank_0 0 rfl rfl ?_
  refine zr_callVv h lR_0 zcw_X12_235 (by decide) (c_X12_lays E M _ (zOk_bind hk)) rfl rfl (Nat.le_of_ble_eq_true rfl) dX12_rank_1 (fun M_1 hk => ?_)
  refine zr_iconst (v := (zI 0)) h dX12_rank_4 rfl ?_
  refine zr_istore_n (L' := [(0, zrf E 0), (1, .int x1), (2, .int (zI 0))]) h [1, 2, 0] dX12_rank_5 rfl (by decide) rfl ?_
  refine w_X12_rank_L6 h M_1 x1 (zI 0) (zOk_mono (zOk_bind hk) (fun e6 hk => ?_))
  cases e6 with
  | inl e6a =>
    have hk := zOk_selL hk
    refine zr_iconst (v := (zI (-1))) h dX12_rank_96 rfl ?_
    have hk := zOk_some hk
    exact zr_iret h dX12_rank_97 ⟨_, rfl, hk⟩
  | inr e6b =>
    have hk := zOk_selR hk
    have hk := zOk_some hk
    exact hk
theorem dX12_standsIn_0 : decode cX12_standsIn 0 = .ok (.iconst 0, 1) := by decide +kernel
theorem dX12_standsIn_1 : decode cX12_standsIn 1 = .ok (.istore_n 2, 1) := by decide +kernel
theorem dX12_standsIn_2 : decode cX12_standsIn 2 = .ok (.iconst 0, 1) := by decide +kernel
theorem dX12_standsIn_3 : decode cX12_standsIn 3 = .ok (.istore_n 3, 1) := by decide +kernel
theorem dX12_standsIn_4 : decode cX12_standsIn 4 = .ok (.iload_n 3, 1) := by decide +kernel
theorem dX12_standsIn_5 : decode cX12_standsIn 5 = .ok (.aload_n 0, 1) := by decide +kernel
theorem dX12_standsIn_6 : decode cX12_standsIn 6 = .ok (.getfield 302, 3) := by decide +kernel
theorem dX12_standsIn_9 : decode cX12_standsIn 9 = .ok (.if_icmp .ge 68, 3) := by decide +kernel
theorem dX12_standsIn_12 : decode cX12_standsIn 12 = .ok (.iconst 0, 1) := by decide +kernel
theorem dX12_standsIn_13 : decode cX12_standsIn 13 = .ok (.istore 4, 2) := by decide +kernel
theorem dX12_standsIn_15 : decode cX12_standsIn 15 = .ok (.iconst 0, 1) := by decide +kernel
theorem dX12_standsIn_16 : decode cX12_standsIn 16 = .ok (.istore 5, 2) := by decide +kernel
theorem dX12_standsIn_18 : decode cX12_standsIn 18 = .ok (.iload 5, 2) := by decide +kernel
theorem dX12_standsIn_20 : decode cX12_standsIn 20 = .ok (.aload_n 0, 1) := by decide +kernel
theorem dX12_standsIn_21 : decode cX12_standsIn 21 = .ok (.getfield 56, 3) := by decide +kernel
theorem dX12_standsIn_24 : decode cX12_standsIn 24 = .ok (.iload_n 3, 1) := by decide +kernel
theorem dX12_standsIn_25 : decode cX12_standsIn 25 = .ok (.iaload, 1) := by decide +kernel
theorem dX12_standsIn_26 : decode cX12_standsIn 26 = .ok (.if_icmp .ge 37, 3) := by decide +kernel
theorem dX12_standsIn_29 : decode cX12_standsIn 29 = .ok (.iload 4, 2) := by decide +kernel
theorem dX12_standsIn_31 : decode cX12_standsIn 31 = .ok (.ifCond .ne 19, 3) := by decide +kernel
theorem dX12_standsIn_34 : decode cX12_standsIn 34 = .ok (.aload_n 0, 1) := by decide +kernel
theorem dX12_standsIn_35 : decode cX12_standsIn 35 = .ok (.getfield 59, 3) := by decide +kernel
theorem dX12_standsIn_38 : decode cX12_standsIn 38 = .ok (.bipush 7, 2) := by decide +kernel
theorem dX12_standsIn_40 : decode cX12_standsIn 40 = .ok (.iload_n 3, 1) := by decide +kernel
theorem dX12_standsIn_41 : decode cX12_standsIn 41 = .ok (.imul, 1) := by decide +kernel
theorem dX12_standsIn_42 : decode cX12_standsIn 42 = .ok (.iload 5, 2) := by decide +kernel
theorem dX12_standsIn_44 : decode cX12_standsIn 44 = .ok (.iadd, 1) := by decide +kernel
theorem dX12_standsIn_45 : decode cX12_standsIn 45 = .ok (.iaload, 1) := by decide +kernel
theorem dX12_standsIn_46 : decode cX12_standsIn 46 = .ok (.iload_n 1, 1) := by decide +kernel
theorem dX12_standsIn_47 : decode cX12_standsIn 47 = .ok (.if_icmp .ne 7, 3) := by decide +kernel
theorem dX12_standsIn_50 : decode cX12_standsIn 50 = .ok (.iconst 1, 1) := by decide +kernel
theorem dX12_standsIn_51 : decode cX12_standsIn 51 = .ok (.goto 4, 3) := by decide +kernel
theorem dX12_standsIn_54 : decode cX12_standsIn 54 = .ok (.iconst 0, 1) := by decide +kernel
theorem dX12_standsIn_55 : decode cX12_standsIn 55 = .ok (.istore 4, 2) := by decide +kernel
theorem dX12_standsIn_57 : decode cX12_standsIn 57 = .ok (.iinc 5 1, 3) := by decide +kernel
theorem dX12_standsIn_60 : decode cX12_standsIn 60 = .ok (.goto (-42), 3) := by decide +kernel
theorem dX12_standsIn_63 : decode cX12_standsIn 63 = .ok (.iload_n 2, 1) := by decide +kernel
theorem dX12_standsIn_64 : decode cX12_standsIn 64 = .ok (.iload 4, 2) := by decide +kernel
theorem dX12_standsIn_66 : decode cX12_standsIn 66 = .ok (.invokestatic 177, 3) := by decide +kernel
theorem dX12_standsIn_69 : decode cX12_standsIn 69 = .ok (.iadd, 1) := by decide +kernel
theorem dX12_standsIn_70 : decode cX12_standsIn 70 = .ok (.istore_n 2, 1) := by decide +kernel
theorem dX12_standsIn_71 : decode cX12_standsIn 71 = .ok (.iinc 3 1, 3) := by decide +kernel
theorem dX12_standsIn_74 : decode cX12_standsIn 74 = .ok (.goto (-70), 3) := by decide +kernel
theorem dX12_standsIn_77 : decode cX12_standsIn 77 = .ok (.iload_n 2, 1) := by decide +kernel
theorem dX12_standsIn_78 : decode cX12_standsIn 78 = .ok (.ireturn, 1) := by decide +kernel
noncomputable def f_X12_standsIn_L18 (M : ZMem) (x1 : Int32) (x2 : Int32) (x3 : Int32) (s : (Int32 × Int32)) : Option ((Int32 × Int32) ⊕ (Int32)) := zchk (zin x3 241) (if (M.1 16 (zix x3)) ≤ s.2 then some (.inr s.1) else if s.1 = (zI 0) then zchk (zin (((zI 7) * x3) + s.2) 1687) (if (M.1 17 (zix (((zI 7) * x3) + s.2))) = x1 then zbnd (s.2 + (zI 1)) (fun x5_57 => some (.inl ((zI 1), x5_57))) else zbnd (s.2 + (zI 1)) (fun x5_57 => some (.inl ((zI 0), x5_57)))) else zbnd (s.2 + (zI 1)) (fun x5_57 => some (.inl ((zI 1), x5_57))))
set_option maxRecDepth 100000 in
set_option maxHeartbeats 4000000 in
theorem w_X12_standsIn_L18 {E : ZEv} {G : ZG} {K : Int32 → Prop} (M : ZMem) (h : zRu lyR E G (zRp M K) cX12_standsIn RX12 6 (some .int) 1) (x1 : Int32) (x2 : Int32) (x3 : Int32) (s : (Int32 × Int32)) (hk : zOk (zloop (f_X12_standsIn_L18 M x1 x2 x3) s) (fun e => G M 63 [(0, zrf E 0), (1, .int x1), (2, .int x2), (3, .int x3), (4, .int e)] [])) : G M 18 [(0, zrf E 0), (1, .int x1), (2, .int x2), (3, .int x3), (4, .int s.1), (5, .int s.2)] [] := by
  refine zloop_walk (P := fun s => G M 18 [(0, zrf E 0), (1, .int x1), (2, .int x2), (3, .int x3), (4, .int s.1), (5, .int s.2)] []) hk (fun s hk => ?_)
  unfold f_X12_standsIn_L18 at hk
  refine zr_iload h dX12_standsIn_18 5 rfl ?_
  refine zr_aload_n h dX12_standsIn_20 0 rfl rfl ?_
  refine zr_getR h zfo_X12_56 lR_0 rfl dX12_standsIn_21 ?_
  refine zr_iload_n h dX12_standsIn_24 3 rfl rfl ?_
  have hb := zOk_chk hk
  have hk := hb.2
  refine zr_iald h lR_16 hb.1 dX12_standsIn_25 ?_
  refine zr_icmp_ge (tgt := 63) h dX12_standsIn_26 (by decide) (fun c => ?_) (fun c => ?_)
  · have hk := zOk_t c hk
    have hk := zOk_some hk
    exact zr_weak h [0, 1, 2, 3, 4] rfl hk
  · have hk := zOk_f c hk
    refine zr_iload h dX12_standsIn_29 4 rfl ?_
    refine zr_if_ne (tgt := 50) h dX12_standsIn_31 (by decide) (fun c => ?_) (fun c => ?_)
    · have hk := zOk_t c hk
      refine zr_aload_n h dX12_standsIn_34 0 rfl rfl ?_
      refine zr_getR h zfo_X12_59 lR_0 rfl dX12_standsIn_35 ?_
      refine zr_bipush (v := (zI 7)) h dX12_standsIn_38 (by decide) ?_
      refine zr_iload_n h dX12_standsIn_40 3 rfl rfl ?_
      refine zr_imul h dX12_standsIn_41 ?_
      refine zr_iload h dX12_standsIn_42 5 rfl ?_
      refine zr_iadd h dX12_standsIn_44 ?_
      have hb := zOk_chk hk
      have hk := hb.2
      refine zr_iald h lR_17 hb.1 dX12_standsIn_45 ?_
      refine zr_iload_n h dX12_standsIn_46 1 rfl rfl ?_
      refine zr_icmp_ne (tgt := 54) h dX12_standsIn_47 (by decide) (fun c => ?_) (fun c => ?_)
      · have hk := zOk_t c hk
        refine zr_iconst (v := (zI 1)) h dX12_standsIn_50 rfl ?_
        refine zr_goto (tgt := 55) h dX12_standsIn_51 (by decide) ?_
        refine zr_istore (L' := [(0, zrf E 0), (1, .int x1), (2, .int x2), (3, .int x3), (4, .int (zI 1)), (5, .int s.2)]) h [1, 2, 3, 4, 0, 5] dX12_standsIn_55 (by decide) rfl ?_
        obtain ⟨x5_57, ex⟩ : ∃ y : Int32, y = s.2 + (zI 1) := ⟨_, rfl⟩
        have hk := zOk_bnd ex hk
        refine zr_iinc (v := x5_57) (L' := [(0, zrf E 0), (1, .int x1), (2, .int x2), (3, .int x3), (4, .int (zI 1)), (5, .int x5_57)]) h 5 [1, 2, 3, 4, 5, 0] dX12_standsIn_57 rfl (by rw [ex]; rfl) (by decide) rfl ?_
        refine zr_goto (tgt := 18) h dX12_standsIn_60 (by decide) ?_
        have hk := zOk_some hk
        exact zr_weak h [0, 1, 2, 3, 4, 5] rfl hk
      · have hk := zOk_f c hk
        refine zr_iconst (v := (zI 0)) h dX12_standsIn_54 rfl ?_
        refine zr_istore (L' := [(0, zrf E 0), (1, .int x1), (2, .int x2), (3, .int x3), (4, .int (zI 0)), (5, .int s.2)]) h [1, 2, 3, 4, 0, 5] dX12_standsIn_55 (by decide) rfl ?_
        obtain ⟨x5_57, ex⟩ : ∃ y : Int32, y = s.2 + (zI 1) := ⟨_, rfl⟩
        have hk := zOk_bnd ex hk
        refine zr_iinc (v := x5_57) (L' := [(0, zrf E 0), (1, .int x1), (2, .int x2), (3, .int x3), (4, .int (zI 0)), (5, .int x5_57)]) h 5 [1, 2, 3, 4, 5, 0] dX12_standsIn_57 rfl (by rw [ex]; rfl) (by decide) rfl ?_
        refine zr_goto (tgt := 18) h dX12_standsIn_60 (by decide) ?_
        have hk := zOk_some hk
        exact zr_weak h [0, 1, 2, 3, 4, 5] rfl hk
    · have hk := zOk_f c hk
      refine zr_iconst (v := (zI 1)) h dX12_standsIn_50 rfl ?_
      refine zr_goto (tgt := 55) h dX12_standsIn_51 (by decide) ?_
      refine zr_istore (L' := [(0, zrf E 0), (1, .int x1), (2, .int x2), (3, .int x3), (4, .int (zI 1)), (5, .int s.2)]) h [1, 2, 3, 4, 0, 5] dX12_standsIn_55 (by decide) rfl ?_
      obtain ⟨x5_57, ex⟩ : ∃ y : Int32, y = s.2 + (zI 1) := ⟨_, rfl⟩
      have hk := zOk_bnd ex hk
      refine zr_iinc (v := x5_57) (L' := [(0, zrf E 0), (1, .int x1), (2, .int x2), (3, .int x3), (4, .int (zI 1)), (5, .int x5_57)]) h 5 [1, 2, 3, 4, 5, 0] dX12_standsIn_57 rfl (by rw [ex]; rfl) (by decide) rfl ?_
      refine zr_goto (tgt := 18) h dX12_standsIn_60 (by decide) ?_
      have hk := zOk_some hk
      exact zr_weak h [0, 1, 2, 3, 4, 5] rfl hk
noncomputable def f_X12_standsIn_L4 (M : ZMem) (x1 : Int32) (s : (Int32 × Int32)) : Option ((Int32 × Int32) ⊕ (Int32)) := if (M.1 0 25) ≤ s.2 then some (.inr s.1) else zbind (zloop (f_X12_standsIn_L18 M x1 s.1 s.2) ((zI 0), (zI 0))) (fun e18 => zbind (f_X12_truth M e18) (fun r_66 => zbnd (s.1 + r_66) (fun x2_70 => zbnd (s.2 + (zI 1)) (fun x3_71 => some (.inl (x2_70, x3_71))))))
set_option maxRecDepth 100000 in
set_option maxHeartbeats 4000000 in
theorem w_X12_standsIn_L4 {E : ZEv} {G : ZG} {K : Int32 → Prop} (M : ZMem) (h : zRu lyR E G (zRp M K) cX12_standsIn RX12 6 (some .int) 1) (x1 : Int32) (s : (Int32 × Int32)) (hk : zOk (zloop (f_X12_standsIn_L4 M x1) s) (fun e => G M 77 [(2, .int e)] [])) : G M 4 [(0, zrf E 0), (1, .int x1), (2, .int s.1), (3, .int s.2)] [] := by
  refine zloop_walk (P := fun s => G M 4 [(0, zrf E 0), (1, .int x1), (2, .int s.1), (3, .int s.2)] []) hk (fun s hk => ?_)
  unfold f_X12_standsIn_L4 at hk
  refine zr_iload_n h dX12_standsIn_4 3 rfl rfl ?_
  refine zr_aload_n h dX12_standsIn_5 0 rfl rfl ?_
  refine zr_getI h zfo_X12_302 lR_0 rfl dX12_standsIn_6 ?_
  refine zr_icmp_ge (tgt := 77) h dX12_standsIn_9 (by decide) (fun c => ?_) (fun c => ?_)
  · have hk := zOk_t c hk
    have hk := zOk_some hk
    exact zr_weak h [2] rfl hk
  · have hk := zOk_f c hk
    refine zr_iconst (v := (zI 0)) h dX12_standsIn_12 rfl ?_
    refine zr_istore (L' := [(0, zrf E 0), (1, .int x1), (2, .int s.1), (3, .int s.2), (4, .int (zI 0))]) h [1, 2, 3, 4, 0] dX12_standsIn_13 (by decide) rfl ?_
    refine zr_iconst (v := (zI 0)) h dX12_standsIn_15 rfl ?_
    refine zr_istore (L' := [(0, zrf E 0), (1, .int x1), (2, .int s.1), (3, .int s.2), (4, .int (zI 0)), (5, .int (zI 0))]) h [1, 2, 3, 4, 5, 0] dX12_standsIn_16 (by decide) rfl ?_
    refine w_X12_standsIn_L18 M h x1 s.1 s.2 ((zI 0), (zI 0)) (zOk_mono (zOk_bind hk) (fun e18 hk => ?_))
    refine zr_iload_n h dX12_standsIn_63 2 rfl rfl ?_
    refine zr_iload h dX12_standsIn_64 4 rfl ?_
    refine zr_callSp h zcw_X12_177 (by decide) (c_X12_truth E M e18 _ (zOk_bind hk)) rfl rfl (Nat.le_of_ble_eq_true rfl) dX12_standsIn_66 (fun r_66 hk => ?_)
    refine zr_iadd h dX12_standsIn_69 ?_
    refine zr_topi (fun x2_70 ex => ?_)
    have hk := zOk_bnd ex hk
    refine zr_istore_n (L' := [(0, zrf E 0), (1, .int x1), (2, .int x2_70), (3, .int s.2)]) h [1, 2, 0, 3] dX12_standsIn_70 rfl (by decide) rfl ?_
    obtain ⟨x3_71, ex⟩ : ∃ y : Int32, y = s.2 + (zI 1) := ⟨_, rfl⟩
    have hk := zOk_bnd ex hk
    refine zr_iinc (v := x3_71) (L' := [(0, zrf E 0), (1, .int x1), (2, .int x2_70), (3, .int x3_71)]) h 3 [1, 2, 3, 0] dX12_standsIn_71 rfl (by rw [ex]; rfl) (by decide) rfl ?_
    refine zr_goto (tgt := 4) h dX12_standsIn_74 (by decide) ?_
    have hk := zOk_some hk
    exact zr_weak h [0, 1, 2, 3] rfl hk
noncomputable def f_X12_standsIn (M : ZMem) (x1 : Int32) : Option Int32 := zbind (zloop (f_X12_standsIn_L4 M x1) ((zI 0), (zI 0))) (fun e4 => some e4)
set_option maxRecDepth 100000 in
set_option maxHeartbeats 4000000 in
theorem c_X12_standsIn (E : ZEv) (M : ZMem) (x1 : Int32) (K : Int32 → Prop) (hk : zOk (f_X12_standsIn M x1) K) : zCon lyR E yX12_standsIn cX12_standsIn 6 (some .int) 1 [zrf E 0, .int x1] M (zRp M K) := by
  refine zcon_of (L0 := [(0, zrf E 0), (1, .int x1)]) (by decide) rfl (Nat.le_of_ble_eq_true rfl) (fun G h => ?_)
  have h : zRu lyR E G (zRp M K) cX12_standsIn RX12 6 (some .int) 1 := h
  unfold f_X12_standsIn at hk
  refine zr_iconst (v := (zI 0)) h dX12_standsIn_0 rfl ?_
  refine zr_istore_n (L' := [(0, zrf E 0), (1, .int x1), (2, .int (zI 0))]) h [1, 2, 0] dX12_standsIn_1 rfl (by decide) rfl ?_
  refine zr_iconst (v := (zI 0)) h dX12_standsIn_2 rfl ?_
  refine zr_istore_n (L' := [(0, zrf E 0), (1, .int x1), (2, .int (zI 0)), (3, .int (zI 0))]) h [1, 2, 3, 0] dX12_standsIn_3 rfl (by decide) rfl ?_
  refine w_X12_standsIn_L4 M h x1 ((zI 0), (zI 0)) (zOk_mono (zOk_bind hk) (fun e4 hk => ?_))
  refine zr_iload_n h dX12_standsIn_77 0 rfl rfl ?_
  have hk := zOk_some hk
  exact zr_iret h dX12_standsIn_78 ⟨rfl, _, rfl, hk⟩
theorem dX12_stands__0 : decode cX12_stands_ 0 = .ok (.aload_n 0, 1) := by decide +kernel
theorem dX12_stands__1 : decode cX12_stands_ 1 = .ok (.iload_n 1, 1) := by decide +kernel
theorem dX12_stands__2 : decode cX12_stands_ 2 = .ok (.invokevirtual 224, 3) := by decide +kernel
theorem dX12_stands__5 : decode cX12_stands_ 5 = .ok (.ifCond .eq 12, 3) := by decide +kernel
theorem dX12_stands__8 : decode cX12_stands_ 8 = .ok (.iload_n 2, 1) := by decide +kernel
theorem dX12_stands__9 : decode cX12_stands_ 9 = .ok (.iconst 0, 1) := by decide +kernel
theorem dX12_stands__10 : decode cX12_stands_ 10 = .ok (.iconst 3, 1) := by decide +kernel
theorem dX12_stands__11 : decode cX12_stands_ 11 = .ok (.invokestatic 123, 3) := by decide +kernel
theorem dX12_stands__14 : decode cX12_stands_ 14 = .ok (.ifCond .ne 5, 3) := by decide +kernel
theorem dX12_stands__17 : decode cX12_stands_ 17 = .ok (.iconst (-1), 1) := by decide +kernel
theorem dX12_stands__18 : decode cX12_stands_ 18 = .ok (.ireturn, 1) := by decide +kernel
theorem dX12_stands__19 : decode cX12_stands_ 19 = .ok (.aload_n 0, 1) := by decide +kernel
theorem dX12_stands__20 : decode cX12_stands_ 20 = .ok (.invokevirtual 235, 3) := by decide +kernel
theorem dX12_stands__23 : decode cX12_stands_ 23 = .ok (.aload_n 0, 1) := by decide +kernel
theorem dX12_stands__24 : decode cX12_stands_ 24 = .ok (.getfield 41, 3) := by decide +kernel
theorem dX12_stands__27 : decode cX12_stands_ 27 = .ok (.iload_n 1, 1) := by decide +kernel
theorem dX12_stands__28 : decode cX12_stands_ 28 = .ok (.iaload, 1) := by decide +kernel
theorem dX12_stands__29 : decode cX12_stands_ 29 = .ok (.istore_n 3, 1) := by decide +kernel
theorem dX12_stands__30 : decode cX12_stands_ 30 = .ok (.iload_n 2, 1) := by decide +kernel
theorem dX12_stands__31 : decode cX12_stands_ 31 = .ok (.tableswitch 92 0 2 #[25, 78, 85], 25) := by decide +kernel
theorem dX12_stands__56 : decode cX12_stands_ 56 = .ok (.iconst 0, 1) := by decide +kernel
theorem dX12_stands__57 : decode cX12_stands_ 57 = .ok (.istore 4, 2) := by decide +kernel
theorem dX12_stands__59 : decode cX12_stands_ 59 = .ok (.iconst 0, 1) := by decide +kernel
theorem dX12_stands__60 : decode cX12_stands_ 60 = .ok (.istore 5, 2) := by decide +kernel
theorem dX12_stands__62 : decode cX12_stands_ 62 = .ok (.iload 5, 2) := by decide +kernel
theorem dX12_stands__64 : decode cX12_stands_ 64 = .ok (.aload_n 0, 1) := by decide +kernel
theorem dX12_stands__65 : decode cX12_stands_ 65 = .ok (.getfield 47, 3) := by decide +kernel
theorem dX12_stands__68 : decode cX12_stands_ 68 = .ok (.aload_n 0, 1) := by decide +kernel
theorem dX12_stands__69 : decode cX12_stands_ 69 = .ok (.getfield 283, 3) := by decide +kernel
theorem dX12_stands__72 : decode cX12_stands_ 72 = .ok (.iaload, 1) := by decide +kernel
theorem dX12_stands__73 : decode cX12_stands_ 73 = .ok (.if_icmp .ge 33, 3) := by decide +kernel
theorem dX12_stands__76 : decode cX12_stands_ 76 = .ok (.iload 4, 2) := by decide +kernel
theorem dX12_stands__78 : decode cX12_stands_ 78 = .ok (.aload_n 0, 1) := by decide +kernel
theorem dX12_stands__79 : decode cX12_stands_ 79 = .ok (.getfield 50, 3) := by decide +kernel
theorem dX12_stands__82 : decode cX12_stands_ 82 = .ok (.iload 5, 2) := by decide +kernel
theorem dX12_stands__84 : decode cX12_stands_ 84 = .ok (.iaload, 1) := by decide +kernel
theorem dX12_stands__85 : decode cX12_stands_ 85 = .ok (.iload_n 3, 1) := by decide +kernel
theorem dX12_stands__86 : decode cX12_stands_ 86 = .ok (.if_icmp .ne 7, 3) := by decide +kernel
theorem dX12_stands__89 : decode cX12_stands_ 89 = .ok (.iconst 1, 1) := by decide +kernel
theorem dX12_stands__90 : decode cX12_stands_ 90 = .ok (.goto 4, 3) := by decide +kernel
theorem dX12_stands__93 : decode cX12_stands_ 93 = .ok (.iconst 0, 1) := by decide +kernel
theorem dX12_stands__94 : decode cX12_stands_ 94 = .ok (.invokestatic 177, 3) := by decide +kernel
theorem dX12_stands__97 : decode cX12_stands_ 97 = .ok (.iadd, 1) := by decide +kernel
theorem dX12_stands__98 : decode cX12_stands_ 98 = .ok (.istore 4, 2) := by decide +kernel
theorem dX12_stands__100 : decode cX12_stands_ 100 = .ok (.iinc 5 1, 3) := by decide +kernel
theorem dX12_stands__103 : decode cX12_stands_ 103 = .ok (.goto (-41), 3) := by decide +kernel
theorem dX12_stands__106 : decode cX12_stands_ 106 = .ok (.iload 4, 2) := by decide +kernel
theorem dX12_stands__108 : decode cX12_stands_ 108 = .ok (.ireturn, 1) := by decide +kernel
theorem dX12_stands__109 : decode cX12_stands_ 109 = .ok (.aload_n 0, 1) := by decide +kernel
theorem dX12_stands__110 : decode cX12_stands_ 110 = .ok (.getfield 65, 3) := by decide +kernel
theorem dX12_stands__113 : decode cX12_stands_ 113 = .ok (.iload_n 3, 1) := by decide +kernel
theorem dX12_stands__114 : decode cX12_stands_ 114 = .ok (.iaload, 1) := by decide +kernel
theorem dX12_stands__115 : decode cX12_stands_ 115 = .ok (.ireturn, 1) := by decide +kernel
theorem dX12_stands__116 : decode cX12_stands_ 116 = .ok (.aload_n 0, 1) := by decide +kernel
theorem dX12_stands__117 : decode cX12_stands_ 117 = .ok (.getfield 68, 3) := by decide +kernel
theorem dX12_stands__120 : decode cX12_stands_ 120 = .ok (.iload_n 3, 1) := by decide +kernel
theorem dX12_stands__121 : decode cX12_stands_ 121 = .ok (.iaload, 1) := by decide +kernel
theorem dX12_stands__122 : decode cX12_stands_ 122 = .ok (.ireturn, 1) := by decide +kernel
theorem dX12_stands__123 : decode cX12_stands_ 123 = .ok (.aload_n 0, 1) := by decide +kernel
theorem dX12_stands__124 : decode cX12_stands_ 124 = .ok (.iload_n 3, 1) := by decide +kernel
theorem dX12_stands__125 : decode cX12_stands_ 125 = .ok (.invokevirtual 319, 3) := by decide +kernel
theorem dX12_stands__128 : decode cX12_stands_ 128 = .ok (.ireturn, 1) := by decide +kernel
noncomputable def f_X12_stands__94_L62 (M : ZMem) (x3 : Int32) (x5 : Int32) (v0 : Int32) (v1 : Int32) : Option ((Int32 × Int32) ⊕ (Int32)) := zbind (f_X12_truth M v1) (fun r_94 => zbnd (v0 + r_94) (fun x4_98 => zbnd (x5 + (zI 1)) (fun x5_100 => some (.inl (x4_98, x5_100)))))
set_option maxRecDepth 100000 in
set_option maxHeartbeats 4000000 in
theorem w_X12_stands__94_L62 {E : ZEv} {G : ZG} {K : (ZMem × Int32) → Prop} (h : zRu lyR E G (zRm K) cX12_stands_ RX12 6 (some .int) 6) (M : ZMem) (x3 : Int32) (x5 : Int32) (v0 : Int32) (v1 : Int32) (hk : zOk (f_X12_stands__94_L62 M x3 x5 v0 v1) (zlp (fun s => G M 62 [(0, zrf E 0), (3, .int x3), (4, .int s.1), (5, .int s.2)] []) (fun e => G M 106 [(4, .int e)] []))) : G M 94 [(0, zrf E 0), (3, .int x3), (5, .int x5)] [.int v1, .int v0] := by
  unfold f_X12_stands__94_L62 at hk
  refine zr_callSp h zcw_X12_177 (by decide) (c_X12_truth E M v1 _ (zOk_bind hk)) rfl rfl (Nat.le_of_ble_eq_true rfl) dX12_stands__94 (fun r_94 hk => ?_)
  refine zr_iadd h dX12_stands__97 ?_
  refine zr_topi (fun x4_98 ex => ?_)
  have hk := zOk_bnd ex hk
  refine zr_istore (L' := [(0, zrf E 0), (3, .int x3), (4, .int x4_98), (5, .int x5)]) h [1, 2, 0, 3] dX12_stands__98 (by decide) rfl ?_
  obtain ⟨x5_100, ex⟩ : ∃ y : Int32, y = x5 + (zI 1) := ⟨_, rfl⟩
  have hk := zOk_bnd ex hk
  refine zr_iinc (v := x5_100) (L' := [(0, zrf E 0), (3, .int x3), (4, .int x4_98), (5, .int x5_100)]) h 3 [1, 2, 3, 0] dX12_stands__100 rfl (by rw [ex]; rfl) (by decide) rfl ?_
  refine zr_goto (tgt := 62) h dX12_stands__103 (by decide) ?_
  have hk := zOk_some hk
  exact zr_weak h [0, 1, 2, 3] rfl hk
noncomputable def f_X12_stands__L62 (M : ZMem) (x3 : Int32) (s : (Int32 × Int32)) : Option ((Int32 × Int32) ⊕ (Int32)) := zchk (zin (M.1 0 23) 25) (if (M.1 13 (zix (M.1 0 23))) ≤ s.2 then some (.inr s.1) else zchk (zin s.2 240) (if (M.1 14 (zix s.2)) = x3 then f_X12_stands__94_L62 M x3 s.2 s.1 (zI 1) else f_X12_stands__94_L62 M x3 s.2 s.1 (zI 0)))
set_option maxRecDepth 100000 in
set_option maxHeartbeats 4000000 in
theorem w_X12_stands__L62 {E : ZEv} {G : ZG} {K : (ZMem × Int32) → Prop} (h : zRu lyR E G (zRm K) cX12_stands_ RX12 6 (some .int) 6) (M : ZMem) (x3 : Int32) (s : (Int32 × Int32)) (hk : zOk (zloop (f_X12_stands__L62 M x3) s) (fun e => G M 106 [(4, .int e)] [])) : G M 62 [(0, zrf E 0), (3, .int x3), (4, .int s.1), (5, .int s.2)] [] := by
  refine zloop_walk (P := fun s => G M 62 [(0, zrf E 0), (3, .int x3), (4, .int s.1), (5, .int s.2)] []) hk (fun s hk => ?_)
  unfold f_X12_stands__L62 at hk
  refine zr_iload h dX12_stands__62 3 rfl ?_
  refine zr_aload_n h dX12_stands__64 0 rfl rfl ?_
  refine zr_getR h zfo_X12_47 lR_0 rfl dX12_stands__65 ?_
  refine zr_aload_n h dX12_stands__68 0 rfl rfl ?_
  refine zr_getI h zfo_X12_283 lR_0 rfl dX12_stands__69 ?_
  have hb := zOk_chk hk
  have hk := hb.2
  refine zr_iald h lR_13 hb.1 dX12_stands__72 ?_
  refine zr_icmp_ge (tgt := 106) h dX12_stands__73 (by decide) (fun c => ?_) (fun c => ?_)
  · have hk := zOk_t c hk
    have hk := zOk_some hk
    exact zr_weak h [2] rfl hk
  · have hk := zOk_f c hk
    refine zr_iload h dX12_stands__76 2 rfl ?_
    refine zr_aload_n h dX12_stands__78 0 rfl rfl ?_
    refine zr_getR h zfo_X12_50 lR_0 rfl dX12_stands__79 ?_
    refine zr_iload h dX12_stands__82 3 rfl ?_
    have hb := zOk_chk hk
    have hk := hb.2
    refine zr_iald h lR_14 hb.1 dX12_stands__84 ?_
    refine zr_iload_n h dX12_stands__85 1 rfl rfl ?_
    refine zr_icmp_ne (tgt := 93) h dX12_stands__86 (by decide) (fun c => ?_) (fun c => ?_)
    · have hk := zOk_t c hk
      refine zr_iconst (v := (zI 1)) h dX12_stands__89 rfl ?_
      refine zr_goto (tgt := 94) h dX12_stands__90 (by decide) ?_
      exact zr_weak h [0, 1, 3] rfl (w_X12_stands__94_L62 h M x3 s.2 s.1 (zI 1) hk)
    · have hk := zOk_f c hk
      refine zr_iconst (v := (zI 0)) h dX12_stands__93 rfl ?_
      exact zr_weak h [0, 1, 3] rfl (w_X12_stands__94_L62 h M x3 s.2 s.1 (zI 0) hk)
noncomputable def f_X12_stands_ (M : ZMem) (x1 : Int32) (x2 : Int32) : Option (ZMem × Int32) := zbind (f_X12_isForm M x1) (fun r_2 => if r_2 = (zI 0) then some (M, (zI (-1))) else zbind (f_X12_in M x2 (zI 0) (zI 3)) (fun r_11 => if r_11 = (zI 0) then some (M, (zI (-1))) else zbind (f_X12_lays M) (fun M_20 => zchk (zin x1 20) (zbnd (M_20.1 11 (zix x1)) (fun x3_29 => if x2 = (zI 0) then zbind (zloop (f_X12_stands__L62 M_20 x3_29) ((zI 0), (zI 0))) (fun e62 => some (M_20, e62)) else (if x2 = (zI 1) then zchk (zin x3_29 20) (some (M_20, (M_20.1 19 (zix x3_29)))) else (if x2 = (zI 2) then zchk (zin x3_29 20) (some (M_20, (M_20.1 20 (zix x3_29)))) else (zbind (f_X12_standsIn M_20 x3_29) (fun r_125 => some (M_20, r_125))))))))))
set_option maxRecDepth 100000 in
set_option maxHeartbeats 4000000 in
theorem c_X12_stands_ (E : ZEv) (M : ZMem) (x1 : Int32) (x2 : Int32) (K : ZMem × Int32 → Prop) (hk : zOk (f_X12_stands_ M x1 x2) K) : zCon lyR E yX12_stands_ cX12_stands_ 6 (some .int) 6 [zrf E 0, .int x1, .int x2] M (zRm K) := by
  refine zcon_of (L0 := [(0, zrf E 0), (1, .int x1), (2, .int x2)]) (by decide) rfl (Nat.le_of_ble_eq_true rfl) (fun G h => ?_)
  have h : zRu lyR E G (zRm K) cX12_stands_ RX12 6 (some .int) 6 := h
  unfold f_X12_stands_ at hk
  refine zr_aload_n h dX12_stands__0 0 rfl rfl ?_
  refine zr_iload_n h dX12_stands__1 1 rfl rfl ?_
  refine zr_callVp h lR_0 zcw_X12_224 (by decide) (c_X12_isForm E M x1 _ (zOk_bind hk)) rfl rfl (Nat.le_of_ble_eq_true rfl) dX12_stands__2 (fun r_2 hk => ?_)
  refine zr_if_eq (tgt := 17) h dX12_stands__5 (by decide) (fun c => ?_) (fun c => ?_)
  · have hk := zOk_t c hk
    refine zr_iconst (v := (zI (-1))) h dX12_stands__17 rfl ?_
    have hk := zOk_some hk
    exact zr_iret h dX12_stands__18 ⟨_, rfl, hk⟩
  · have hk := zOk_f c hk
    refine zr_iload_n h dX12_stands__8 2 rfl rfl ?_
    refine zr_iconst (v := (zI 0)) h dX12_stands__9 rfl ?_
    refine zr_iconst (v := (zI 3)) h dX12_stands__10 rfl ?_
    refine zr_callSp h zcw_X12_123 (by decide) (c_X12_in E M x2 (zI 0) (zI 3) _ (zOk_bind hk)) rfl rfl (Nat.le_of_ble_eq_true rfl) dX12_stands__11 (fun r_11 hk => ?_)
    refine zr_if_ne (tgt := 19) h dX12_stands__14 (by decide) (fun c => ?_) (fun c => ?_)
    · have hk := zOk_t c hk
      refine zr_iconst (v := (zI (-1))) h dX12_stands__17 rfl ?_
      have hk := zOk_some hk
      exact zr_iret h dX12_stands__18 ⟨_, rfl, hk⟩
    · have hk := zOk_f c hk
      refine zr_aload_n h dX12_stands__19 0 rfl rfl ?_
      refine zr_callVv h lR_0 zcw_X12_235 (by decide) (c_X12_lays E M _ (zOk_bind hk)) rfl rfl (Nat.le_of_ble_eq_true rfl) dX12_stands__20 (fun M_20 hk => ?_)
      refine zr_aload_n h dX12_stands__23 0 rfl rfl ?_
      refine zr_getR h zfo_X12_41 lR_0 rfl dX12_stands__24 ?_
      refine zr_iload_n h dX12_stands__27 1 rfl rfl ?_
      have hb := zOk_chk hk
      have hk := hb.2
      refine zr_iald h lR_11 hb.1 dX12_stands__28 ?_
      refine zr_topi (fun x3_29 ex => ?_)
      have hk := zOk_bnd ex hk
      refine zr_istore_n (L' := [(0, zrf E 0), (2, .int x2), (3, .int x3_29)]) h [1, 3, 0] dX12_stands__29 rfl (by decide) rfl ?_
      refine zr_iload_n h dX12_stands__30 1 rfl rfl ?_
      by_cases c0 : x2 = (zI 0)
      · have hk := zOk_t c0 hk
        refine zr_tabIn (tgt := 56) (off := 25) h dX12_stands__31 (by rw [c0]; decide) (by rw [c0]; decide) (by rw [c0]; decide) (by decide) ?_
        refine zr_iconst (v := (zI 0)) h dX12_stands__56 rfl ?_
        refine zr_istore (L' := [(0, zrf E 0), (3, .int x3_29), (4, .int (zI 0))]) h [1, 3, 0] dX12_stands__57 (by decide) rfl ?_
        refine zr_iconst (v := (zI 0)) h dX12_stands__59 rfl ?_
        refine zr_istore (L' := [(0, zrf E 0), (3, .int x3_29), (4, .int (zI 0)), (5, .int (zI 0))]) h [1, 2, 3, 0] dX12_stands__60 (by decide) rfl ?_
        refine w_X12_stands__L62 h M_20 x3_29 ((zI 0), (zI 0)) (zOk_mono (zOk_bind hk) (fun e62 hk => ?_))
        refine zr_iload h dX12_stands__106 0 rfl ?_
        have hk := zOk_some hk
        exact zr_iret h dX12_stands__108 ⟨_, rfl, hk⟩
      have hk := zOk_f c0 hk
      by_cases c1 : x2 = (zI 1)
      · have hk := zOk_t c1 hk
        refine zr_tabIn (tgt := 109) (off := 78) h dX12_stands__31 (by rw [c1]; decide) (by rw [c1]; decide) (by rw [c1]; decide) (by decide) ?_
        refine zr_aload_n h dX12_stands__109 0 rfl rfl ?_
        refine zr_getR h zfo_X12_65 lR_0 rfl dX12_stands__110 ?_
        refine zr_iload_n h dX12_stands__113 2 rfl rfl ?_
        have hb := zOk_chk hk
        have hk := hb.2
        refine zr_iald h lR_19 hb.1 dX12_stands__114 ?_
        have hk := zOk_some hk
        exact zr_iret h dX12_stands__115 ⟨_, rfl, hk⟩
      have hk := zOk_f c1 hk
      by_cases c2 : x2 = (zI 2)
      · have hk := zOk_t c2 hk
        refine zr_tabIn (tgt := 116) (off := 85) h dX12_stands__31 (by rw [c2]; decide) (by rw [c2]; decide) (by rw [c2]; decide) (by decide) ?_
        refine zr_aload_n h dX12_stands__116 0 rfl rfl ?_
        refine zr_getR h zfo_X12_68 lR_0 rfl dX12_stands__117 ?_
        refine zr_iload_n h dX12_stands__120 2 rfl rfl ?_
        have hb := zOk_chk hk
        have hk := hb.2
        refine zr_iald h lR_20 hb.1 dX12_stands__121 ?_
        have hk := zOk_some hk
        exact zr_iret h dX12_stands__122 ⟨_, rfl, hk⟩
      have hk := zOk_f c2 hk
      have hz : (x2).toInt ≠ 0 ∧ (x2).toInt ≠ 1 ∧ (x2).toInt ≠ 2 := ⟨zInt_ne c0, zInt_ne c1, zInt_ne c2⟩
      refine zr_tabOut (tgt := 123) h dX12_stands__31 (by omega) (by decide) ?_
      refine zr_aload_n h dX12_stands__123 0 rfl rfl ?_
      refine zr_iload_n h dX12_stands__124 2 rfl rfl ?_
      refine zr_callVp h lR_0 zcw_X12_319 (by decide) (c_X12_standsIn E M_20 x3_29 _ (zOk_bind hk)) rfl rfl (Nat.le_of_ble_eq_true rfl) dX12_stands__125 (fun r_125 hk => ?_)
      have hk := zOk_some hk
      exact zr_iret h dX12_stands__128 ⟨_, rfl, hk⟩
theorem dX12_ahead_0 : decode cX12_ahead 0 = .ok (.aload_n 0, 1) := by decide +kernel
theorem dX12_ahead_1 : decode cX12_ahead 1 = .ok (.iload_n 1, 1) := by decide +kernel
theorem dX12_ahead_2 : decode cX12_ahead 2 = .ok (.invokevirtual 224, 3) := by decide +kernel
theorem dX12_ahead_5 : decode cX12_ahead 5 = .ok (.ifCond .eq 11, 3) := by decide +kernel
theorem dX12_ahead_8 : decode cX12_ahead 8 = .ok (.aload_n 0, 1) := by decide +kernel
theorem dX12_ahead_9 : decode cX12_ahead 9 = .ok (.iload_n 2, 1) := by decide +kernel
theorem dX12_ahead_10 : decode cX12_ahead 10 = .ok (.invokevirtual 224, 3) := by decide +kernel
theorem dX12_ahead_13 : decode cX12_ahead 13 = .ok (.ifCond .ne 5, 3) := by decide +kernel
theorem dX12_ahead_16 : decode cX12_ahead 16 = .ok (.iconst (-1), 1) := by decide +kernel
theorem dX12_ahead_17 : decode cX12_ahead 17 = .ok (.ireturn, 1) := by decide +kernel
theorem dX12_ahead_18 : decode cX12_ahead 18 = .ok (.aload_n 0, 1) := by decide +kernel
theorem dX12_ahead_19 : decode cX12_ahead 19 = .ok (.invokevirtual 235, 3) := by decide +kernel
theorem dX12_ahead_22 : decode cX12_ahead 22 = .ok (.iconst 0, 1) := by decide +kernel
theorem dX12_ahead_23 : decode cX12_ahead 23 = .ok (.istore_n 3, 1) := by decide +kernel
theorem dX12_ahead_24 : decode cX12_ahead 24 = .ok (.iconst 0, 1) := by decide +kernel
theorem dX12_ahead_25 : decode cX12_ahead 25 = .ok (.istore 4, 2) := by decide +kernel
theorem dX12_ahead_27 : decode cX12_ahead 27 = .ok (.iload 4, 2) := by decide +kernel
theorem dX12_ahead_29 : decode cX12_ahead 29 = .ok (.aload_n 0, 1) := by decide +kernel
theorem dX12_ahead_30 : decode cX12_ahead 30 = .ok (.getfield 283, 3) := by decide +kernel
theorem dX12_ahead_33 : decode cX12_ahead 33 = .ok (.if_icmp .ge 85, 3) := by decide +kernel
theorem dX12_ahead_36 : decode cX12_ahead 36 = .ok (.aload_n 0, 1) := by decide +kernel
theorem dX12_ahead_37 : decode cX12_ahead 37 = .ok (.getfield 47, 3) := by decide +kernel
theorem dX12_ahead_40 : decode cX12_ahead 40 = .ok (.iload 4, 2) := by decide +kernel
theorem dX12_ahead_42 : decode cX12_ahead 42 = .ok (.iaload, 1) := by decide +kernel
theorem dX12_ahead_43 : decode cX12_ahead 43 = .ok (.istore 5, 2) := by decide +kernel
theorem dX12_ahead_45 : decode cX12_ahead 45 = .ok (.iload 5, 2) := by decide +kernel
theorem dX12_ahead_47 : decode cX12_ahead 47 = .ok (.iconst 1, 1) := by decide +kernel
theorem dX12_ahead_48 : decode cX12_ahead 48 = .ok (.iadd, 1) := by decide +kernel
theorem dX12_ahead_49 : decode cX12_ahead 49 = .ok (.aload_n 0, 1) := by decide +kernel
theorem dX12_ahead_50 : decode cX12_ahead 50 = .ok (.getfield 47, 3) := by decide +kernel
theorem dX12_ahead_53 : decode cX12_ahead 53 = .ok (.iload 4, 2) := by decide +kernel
theorem dX12_ahead_55 : decode cX12_ahead 55 = .ok (.iconst 1, 1) := by decide +kernel
theorem dX12_ahead_56 : decode cX12_ahead 56 = .ok (.iadd, 1) := by decide +kernel
theorem dX12_ahead_57 : decode cX12_ahead 57 = .ok (.iaload, 1) := by decide +kernel
theorem dX12_ahead_58 : decode cX12_ahead 58 = .ok (.if_icmp .ge 54, 3) := by decide +kernel
theorem dX12_ahead_61 : decode cX12_ahead 61 = .ok (.iload_n 3, 1) := by decide +kernel
theorem dX12_ahead_62 : decode cX12_ahead 62 = .ok (.aload_n 0, 1) := by decide +kernel
theorem dX12_ahead_63 : decode cX12_ahead 63 = .ok (.getfield 50, 3) := by decide +kernel
theorem dX12_ahead_66 : decode cX12_ahead 66 = .ok (.iload 5, 2) := by decide +kernel
theorem dX12_ahead_68 : decode cX12_ahead 68 = .ok (.iaload, 1) := by decide +kernel
theorem dX12_ahead_69 : decode cX12_ahead 69 = .ok (.aload_n 0, 1) := by decide +kernel
theorem dX12_ahead_70 : decode cX12_ahead 70 = .ok (.getfield 41, 3) := by decide +kernel
theorem dX12_ahead_73 : decode cX12_ahead 73 = .ok (.iload_n 1, 1) := by decide +kernel
theorem dX12_ahead_74 : decode cX12_ahead 74 = .ok (.iaload, 1) := by decide +kernel
theorem dX12_ahead_75 : decode cX12_ahead 75 = .ok (.if_icmp .ne 25, 3) := by decide +kernel
theorem dX12_ahead_78 : decode cX12_ahead 78 = .ok (.aload_n 0, 1) := by decide +kernel
theorem dX12_ahead_79 : decode cX12_ahead 79 = .ok (.getfield 50, 3) := by decide +kernel
theorem dX12_ahead_82 : decode cX12_ahead 82 = .ok (.iload 5, 2) := by decide +kernel
theorem dX12_ahead_84 : decode cX12_ahead 84 = .ok (.iconst 1, 1) := by decide +kernel
theorem dX12_ahead_85 : decode cX12_ahead 85 = .ok (.iadd, 1) := by decide +kernel
theorem dX12_ahead_86 : decode cX12_ahead 86 = .ok (.iaload, 1) := by decide +kernel
theorem dX12_ahead_87 : decode cX12_ahead 87 = .ok (.aload_n 0, 1) := by decide +kernel
theorem dX12_ahead_88 : decode cX12_ahead 88 = .ok (.getfield 41, 3) := by decide +kernel
theorem dX12_ahead_91 : decode cX12_ahead 91 = .ok (.iload_n 2, 1) := by decide +kernel
theorem dX12_ahead_92 : decode cX12_ahead 92 = .ok (.iaload, 1) := by decide +kernel
theorem dX12_ahead_93 : decode cX12_ahead 93 = .ok (.if_icmp .ne 7, 3) := by decide +kernel
theorem dX12_ahead_96 : decode cX12_ahead 96 = .ok (.iconst 1, 1) := by decide +kernel
theorem dX12_ahead_97 : decode cX12_ahead 97 = .ok (.goto 4, 3) := by decide +kernel
theorem dX12_ahead_100 : decode cX12_ahead 100 = .ok (.iconst 0, 1) := by decide +kernel
theorem dX12_ahead_101 : decode cX12_ahead 101 = .ok (.invokestatic 177, 3) := by decide +kernel
theorem dX12_ahead_104 : decode cX12_ahead 104 = .ok (.iadd, 1) := by decide +kernel
theorem dX12_ahead_105 : decode cX12_ahead 105 = .ok (.istore_n 3, 1) := by decide +kernel
theorem dX12_ahead_106 : decode cX12_ahead 106 = .ok (.iinc 5 1, 3) := by decide +kernel
theorem dX12_ahead_109 : decode cX12_ahead 109 = .ok (.goto (-64), 3) := by decide +kernel
theorem dX12_ahead_112 : decode cX12_ahead 112 = .ok (.iinc 4 1, 3) := by decide +kernel
theorem dX12_ahead_115 : decode cX12_ahead 115 = .ok (.goto (-88), 3) := by decide +kernel
theorem dX12_ahead_118 : decode cX12_ahead 118 = .ok (.iload_n 3, 1) := by decide +kernel
theorem dX12_ahead_119 : decode cX12_ahead 119 = .ok (.ireturn, 1) := by decide +kernel
noncomputable def f_X12_ahead_101_L45 (M : ZMem) (x1 : Int32) (x2 : Int32) (x4 : Int32) (x5 : Int32) (v0 : Int32) (v1 : Int32) : Option ((Int32 × Int32) ⊕ (Int32)) := zbind (f_X12_truth M v1) (fun r_101 => zbnd (v0 + r_101) (fun x3_105 => zbnd (x5 + (zI 1)) (fun x5_106 => some (.inl (x3_105, x5_106)))))
set_option maxRecDepth 100000 in
set_option maxHeartbeats 4000000 in
theorem w_X12_ahead_101_L45 {E : ZEv} {G : ZG} {K : (ZMem × Int32) → Prop} (h : zRu lyR E G (zRm K) cX12_ahead RX12 6 (some .int) 6) (M : ZMem) (x1 : Int32) (x2 : Int32) (x4 : Int32) (x5 : Int32) (v0 : Int32) (v1 : Int32) (hk : zOk (f_X12_ahead_101_L45 M x1 x2 x4 x5 v0 v1) (zlp (fun s => G M 45 [(0, zrf E 0), (1, .int x1), (2, .int x2), (3, .int s.1), (4, .int x4), (5, .int s.2)] []) (fun e => G M 112 [(0, zrf E 0), (1, .int x1), (2, .int x2), (3, .int e), (4, .int x4)] []))) : G M 101 [(0, zrf E 0), (1, .int x1), (2, .int x2), (4, .int x4), (5, .int x5)] [.int v1, .int v0] := by
  unfold f_X12_ahead_101_L45 at hk
  refine zr_callSp h zcw_X12_177 (by decide) (c_X12_truth E M v1 _ (zOk_bind hk)) rfl rfl (Nat.le_of_ble_eq_true rfl) dX12_ahead_101 (fun r_101 hk => ?_)
  refine zr_iadd h dX12_ahead_104 ?_
  refine zr_topi (fun x3_105 ex => ?_)
  have hk := zOk_bnd ex hk
  refine zr_istore_n (L' := [(0, zrf E 0), (1, .int x1), (2, .int x2), (3, .int x3_105), (4, .int x4), (5, .int x5)]) h [1, 2, 3, 0, 4, 5] dX12_ahead_105 rfl (by decide) rfl ?_
  obtain ⟨x5_106, ex⟩ : ∃ y : Int32, y = x5 + (zI 1) := ⟨_, rfl⟩
  have hk := zOk_bnd ex hk
  refine zr_iinc (v := x5_106) (L' := [(0, zrf E 0), (1, .int x1), (2, .int x2), (3, .int x3_105), (4, .int x4), (5, .int x5_106)]) h 5 [1, 2, 3, 4, 5, 0] dX12_ahead_106 rfl (by rw [ex]; rfl) (by decide) rfl ?_
  refine zr_goto (tgt := 45) h dX12_ahead_109 (by decide) ?_
  have hk := zOk_some hk
  exact zr_weak h [0, 1, 2, 3, 4, 5] rfl hk
noncomputable def f_X12_ahead_100_L45 (M : ZMem) (x1 : Int32) (x2 : Int32) (x4 : Int32) (x5 : Int32) (v0 : Int32) : Option ((Int32 × Int32) ⊕ (Int32)) := f_X12_ahead_101_L45 M x1 x2 x4 x5 v0 (zI 0)
set_option maxRecDepth 100000 in
set_option maxHeartbeats 4000000 in
theorem w_X12_ahead_100_L45 {E : ZEv} {G : ZG} {K : (ZMem × Int32) → Prop} (h : zRu lyR E G (zRm K) cX12_ahead RX12 6 (some .int) 6) (M : ZMem) (x1 : Int32) (x2 : Int32) (x4 : Int32) (x5 : Int32) (v0 : Int32) (hk : zOk (f_X12_ahead_100_L45 M x1 x2 x4 x5 v0) (zlp (fun s => G M 45 [(0, zrf E 0), (1, .int x1), (2, .int x2), (3, .int s.1), (4, .int x4), (5, .int s.2)] []) (fun e => G M 112 [(0, zrf E 0), (1, .int x1), (2, .int x2), (3, .int e), (4, .int x4)] []))) : G M 100 [(0, zrf E 0), (1, .int x1), (2, .int x2), (4, .int x4), (5, .int x5)] [.int v0] := by
  unfold f_X12_ahead_100_L45 at hk
  refine zr_iconst (v := (zI 0)) h dX12_ahead_100 rfl ?_
  exact w_X12_ahead_101_L45 h M x1 x2 x4 x5 v0 (zI 0) hk
noncomputable def f_X12_ahead_L45 (M : ZMem) (x1 : Int32) (x2 : Int32) (x4 : Int32) (s : (Int32 × Int32)) : Option ((Int32 × Int32) ⊕ (Int32)) := zchk (zin (x4 + (zI 1)) 25) (if (M.1 13 (zix (x4 + (zI 1)))) ≤ (s.2 + (zI 1)) then some (.inr s.1) else zchk (zin s.2 240) (zchk (zin x1 20) (if (M.1 14 (zix s.2)) = (M.1 11 (zix x1)) then zchk (zin (s.2 + (zI 1)) 240) (zchk (zin x2 20) (if (M.1 14 (zix (s.2 + (zI 1)))) = (M.1 11 (zix x2)) then f_X12_ahead_101_L45 M x1 x2 x4 s.2 s.1 (zI 1) else f_X12_ahead_100_L45 M x1 x2 x4 s.2 s.1)) else f_X12_ahead_100_L45 M x1 x2 x4 s.2 s.1)))
set_option maxRecDepth 100000 in
set_option maxHeartbeats 4000000 in
theorem w_X12_ahead_L45 {E : ZEv} {G : ZG} {K : (ZMem × Int32) → Prop} (h : zRu lyR E G (zRm K) cX12_ahead RX12 6 (some .int) 6) (M : ZMem) (x1 : Int32) (x2 : Int32) (x4 : Int32) (s : (Int32 × Int32)) (hk : zOk (zloop (f_X12_ahead_L45 M x1 x2 x4) s) (fun e => G M 112 [(0, zrf E 0), (1, .int x1), (2, .int x2), (3, .int e), (4, .int x4)] [])) : G M 45 [(0, zrf E 0), (1, .int x1), (2, .int x2), (3, .int s.1), (4, .int x4), (5, .int s.2)] [] := by
  refine zloop_walk (P := fun s => G M 45 [(0, zrf E 0), (1, .int x1), (2, .int x2), (3, .int s.1), (4, .int x4), (5, .int s.2)] []) hk (fun s hk => ?_)
  unfold f_X12_ahead_L45 at hk
  refine zr_iload h dX12_ahead_45 5 rfl ?_
  refine zr_iconst (v := (zI 1)) h dX12_ahead_47 rfl ?_
  refine zr_iadd h dX12_ahead_48 ?_
  refine zr_aload_n h dX12_ahead_49 0 rfl rfl ?_
  refine zr_getR h zfo_X12_47 lR_0 rfl dX12_ahead_50 ?_
  refine zr_iload h dX12_ahead_53 4 rfl ?_
  refine zr_iconst (v := (zI 1)) h dX12_ahead_55 rfl ?_
  refine zr_iadd h dX12_ahead_56 ?_
  have hb := zOk_chk hk
  have hk := hb.2
  refine zr_iald h lR_13 hb.1 dX12_ahead_57 ?_
  refine zr_icmp_ge (tgt := 112) h dX12_ahead_58 (by decide) (fun c => ?_) (fun c => ?_)
  · have hk := zOk_t c hk
    have hk := zOk_some hk
    exact zr_weak h [0, 1, 2, 3, 4] rfl hk
  · have hk := zOk_f c hk
    refine zr_iload_n h dX12_ahead_61 3 rfl rfl ?_
    refine zr_aload_n h dX12_ahead_62 0 rfl rfl ?_
    refine zr_getR h zfo_X12_50 lR_0 rfl dX12_ahead_63 ?_
    refine zr_iload h dX12_ahead_66 5 rfl ?_
    have hb := zOk_chk hk
    have hk := hb.2
    refine zr_iald h lR_14 hb.1 dX12_ahead_68 ?_
    refine zr_aload_n h dX12_ahead_69 0 rfl rfl ?_
    refine zr_getR h zfo_X12_41 lR_0 rfl dX12_ahead_70 ?_
    refine zr_iload_n h dX12_ahead_73 1 rfl rfl ?_
    have hb := zOk_chk hk
    have hk := hb.2
    refine zr_iald h lR_11 hb.1 dX12_ahead_74 ?_
    refine zr_icmp_ne (tgt := 100) h dX12_ahead_75 (by decide) (fun c => ?_) (fun c => ?_)
    · have hk := zOk_t c hk
      refine zr_aload_n h dX12_ahead_78 0 rfl rfl ?_
      refine zr_getR h zfo_X12_50 lR_0 rfl dX12_ahead_79 ?_
      refine zr_iload h dX12_ahead_82 5 rfl ?_
      refine zr_iconst (v := (zI 1)) h dX12_ahead_84 rfl ?_
      refine zr_iadd h dX12_ahead_85 ?_
      have hb := zOk_chk hk
      have hk := hb.2
      refine zr_iald h lR_14 hb.1 dX12_ahead_86 ?_
      refine zr_aload_n h dX12_ahead_87 0 rfl rfl ?_
      refine zr_getR h zfo_X12_41 lR_0 rfl dX12_ahead_88 ?_
      refine zr_iload_n h dX12_ahead_91 2 rfl rfl ?_
      have hb := zOk_chk hk
      have hk := hb.2
      refine zr_iald h lR_11 hb.1 dX12_ahead_92 ?_
      refine zr_icmp_ne (tgt := 100) h dX12_ahead_93 (by decide) (fun c => ?_) (fun c => ?_)
      · have hk := zOk_t c hk
        refine zr_iconst (v := (zI 1)) h dX12_ahead_96 rfl ?_
        refine zr_goto (tgt := 101) h dX12_ahead_97 (by decide) ?_
        exact zr_weak h [0, 1, 2, 4, 5] rfl (w_X12_ahead_101_L45 h M x1 x2 x4 s.2 s.1 (zI 1) hk)
      · have hk := zOk_f c hk
        exact zr_weak h [0, 1, 2, 4, 5] rfl (w_X12_ahead_100_L45 h M x1 x2 x4 s.2 s.1 hk)
    · have hk := zOk_f c hk
      exact zr_weak h [0, 1, 2, 4, 5] rfl (w_X12_ahead_100_L45 h M x1 x2 x4 s.2 s.1 hk)
noncomputable def f_X12_ahead_L27 (M : ZMem) (x1 : Int32) (x2 : Int32) (s : (Int32 × Int32)) : Option ((Int32 × Int32) ⊕ (Int32)) := if (M.1 0 23) ≤ s.2 then some (.inr s.1) else zchk (zin s.2 25) (zbnd (M.1 13 (zix s.2)) (fun x5_43 => zbind (zloop (f_X12_ahead_L45 M x1 x2 s.2) (s.1, x5_43)) (fun e45 => zbnd (s.2 + (zI 1)) (fun x4_112 => some (.inl (e45, x4_112))))))
set_option maxRecDepth 100000 in
set_option maxHeartbeats 4000000 in
theorem w_X12_ahead_L27 {E : ZEv} {G : ZG} {K : (ZMem × Int32) → Prop} (h : zRu lyR E G (zRm K) cX12_ahead RX12 6 (some .int) 6) (M : ZMem) (x1 : Int32) (x2 : Int32) (s : (Int32 × Int32)) (hk : zOk (zloop (f_X12_ahead_L27 M x1 x2) s) (fun e => G M 118 [(3, .int e)] [])) : G M 27 [(0, zrf E 0), (1, .int x1), (2, .int x2), (3, .int s.1), (4, .int s.2)] [] := by
  refine zloop_walk (P := fun s => G M 27 [(0, zrf E 0), (1, .int x1), (2, .int x2), (3, .int s.1), (4, .int s.2)] []) hk (fun s hk => ?_)
  unfold f_X12_ahead_L27 at hk
  refine zr_iload h dX12_ahead_27 4 rfl ?_
  refine zr_aload_n h dX12_ahead_29 0 rfl rfl ?_
  refine zr_getI h zfo_X12_283 lR_0 rfl dX12_ahead_30 ?_
  refine zr_icmp_ge (tgt := 118) h dX12_ahead_33 (by decide) (fun c => ?_) (fun c => ?_)
  · have hk := zOk_t c hk
    have hk := zOk_some hk
    exact zr_weak h [3] rfl hk
  · have hk := zOk_f c hk
    refine zr_aload_n h dX12_ahead_36 0 rfl rfl ?_
    refine zr_getR h zfo_X12_47 lR_0 rfl dX12_ahead_37 ?_
    refine zr_iload h dX12_ahead_40 4 rfl ?_
    have hb := zOk_chk hk
    have hk := hb.2
    refine zr_iald h lR_13 hb.1 dX12_ahead_42 ?_
    refine zr_topi (fun x5_43 ex => ?_)
    have hk := zOk_bnd ex hk
    refine zr_istore (L' := [(0, zrf E 0), (1, .int x1), (2, .int x2), (3, .int s.1), (4, .int s.2), (5, .int x5_43)]) h [1, 2, 3, 4, 5, 0] dX12_ahead_43 (by decide) rfl ?_
    refine w_X12_ahead_L45 h M x1 x2 s.2 (s.1, x5_43) (zOk_mono (zOk_bind hk) (fun e45 hk => ?_))
    obtain ⟨x4_112, ex⟩ : ∃ y : Int32, y = s.2 + (zI 1) := ⟨_, rfl⟩
    have hk := zOk_bnd ex hk
    refine zr_iinc (v := x4_112) (L' := [(0, zrf E 0), (1, .int x1), (2, .int x2), (3, .int e45), (4, .int x4_112)]) h 4 [1, 2, 3, 4, 0] dX12_ahead_112 rfl (by rw [ex]; rfl) (by decide) rfl ?_
    refine zr_goto (tgt := 27) h dX12_ahead_115 (by decide) ?_
    have hk := zOk_some hk
    exact zr_weak h [0, 1, 2, 3, 4] rfl hk
noncomputable def f_X12_ahead (M : ZMem) (x1 : Int32) (x2 : Int32) : Option (ZMem × Int32) := zbind (f_X12_isForm M x1) (fun r_2 => if r_2 = (zI 0) then some (M, (zI (-1))) else zbind (f_X12_isForm M x2) (fun r_10 => if r_10 = (zI 0) then some (M, (zI (-1))) else zbind (f_X12_lays M) (fun M_19 => zbind (zloop (f_X12_ahead_L27 M_19 x1 x2) ((zI 0), (zI 0))) (fun e27 => some (M_19, e27)))))
set_option maxRecDepth 100000 in
set_option maxHeartbeats 4000000 in
theorem c_X12_ahead (E : ZEv) (M : ZMem) (x1 : Int32) (x2 : Int32) (K : ZMem × Int32 → Prop) (hk : zOk (f_X12_ahead M x1 x2) K) : zCon lyR E yX12_ahead cX12_ahead 6 (some .int) 6 [zrf E 0, .int x1, .int x2] M (zRm K) := by
  refine zcon_of (L0 := [(0, zrf E 0), (1, .int x1), (2, .int x2)]) (by decide) rfl (Nat.le_of_ble_eq_true rfl) (fun G h => ?_)
  have h : zRu lyR E G (zRm K) cX12_ahead RX12 6 (some .int) 6 := h
  unfold f_X12_ahead at hk
  refine zr_aload_n h dX12_ahead_0 0 rfl rfl ?_
  refine zr_iload_n h dX12_ahead_1 1 rfl rfl ?_
  refine zr_callVp h lR_0 zcw_X12_224 (by decide) (c_X12_isForm E M x1 _ (zOk_bind hk)) rfl rfl (Nat.le_of_ble_eq_true rfl) dX12_ahead_2 (fun r_2 hk => ?_)
  refine zr_if_eq (tgt := 16) h dX12_ahead_5 (by decide) (fun c => ?_) (fun c => ?_)
  · have hk := zOk_t c hk
    refine zr_iconst (v := (zI (-1))) h dX12_ahead_16 rfl ?_
    have hk := zOk_some hk
    exact zr_iret h dX12_ahead_17 ⟨_, rfl, hk⟩
  · have hk := zOk_f c hk
    refine zr_aload_n h dX12_ahead_8 0 rfl rfl ?_
    refine zr_iload_n h dX12_ahead_9 2 rfl rfl ?_
    refine zr_callVp h lR_0 zcw_X12_224 (by decide) (c_X12_isForm E M x2 _ (zOk_bind hk)) rfl rfl (Nat.le_of_ble_eq_true rfl) dX12_ahead_10 (fun r_10 hk => ?_)
    refine zr_if_ne (tgt := 18) h dX12_ahead_13 (by decide) (fun c => ?_) (fun c => ?_)
    · have hk := zOk_t c hk
      refine zr_iconst (v := (zI (-1))) h dX12_ahead_16 rfl ?_
      have hk := zOk_some hk
      exact zr_iret h dX12_ahead_17 ⟨_, rfl, hk⟩
    · have hk := zOk_f c hk
      refine zr_aload_n h dX12_ahead_18 0 rfl rfl ?_
      refine zr_callVv h lR_0 zcw_X12_235 (by decide) (c_X12_lays E M _ (zOk_bind hk)) rfl rfl (Nat.le_of_ble_eq_true rfl) dX12_ahead_19 (fun M_19 hk => ?_)
      refine zr_iconst (v := (zI 0)) h dX12_ahead_22 rfl ?_
      refine zr_istore_n (L' := [(0, zrf E 0), (1, .int x1), (2, .int x2), (3, .int (zI 0))]) h [1, 2, 3, 0] dX12_ahead_23 rfl (by decide) rfl ?_
      refine zr_iconst (v := (zI 0)) h dX12_ahead_24 rfl ?_
      refine zr_istore (L' := [(0, zrf E 0), (1, .int x1), (2, .int x2), (3, .int (zI 0)), (4, .int (zI 0))]) h [1, 2, 3, 4, 0] dX12_ahead_25 (by decide) rfl ?_
      refine w_X12_ahead_L27 h M_19 x1 x2 ((zI 0), (zI 0)) (zOk_mono (zOk_bind hk) (fun e27 hk => ?_))
      refine zr_iload_n h dX12_ahead_118 0 rfl rfl ?_
      have hk := zOk_some hk
      exact zr_iret h dX12_ahead_119 ⟨_, rfl, hk⟩
theorem dX12_endingsOf_0 : decode cX12_endingsOf 0 = .ok (.iconst 0, 1) := by decide +kernel
theorem dX12_endingsOf_1 : decode cX12_endingsOf 1 = .ok (.istore_n 2, 1) := by decide +kernel
theorem dX12_endingsOf_2 : decode cX12_endingsOf 2 = .ok (.iconst 0, 1) := by decide +kernel
theorem dX12_endingsOf_3 : decode cX12_endingsOf 3 = .ok (.istore_n 3, 1) := by decide +kernel
theorem dX12_endingsOf_4 : decode cX12_endingsOf 4 = .ok (.iload_n 3, 1) := by decide +kernel
theorem dX12_endingsOf_5 : decode cX12_endingsOf 5 = .ok (.aload_n 0, 1) := by decide +kernel
theorem dX12_endingsOf_6 : decode cX12_endingsOf 6 = .ok (.getfield 302, 3) := by decide +kernel
theorem dX12_endingsOf_9 : decode cX12_endingsOf 9 = .ok (.if_icmp .ge 102, 3) := by decide +kernel
theorem dX12_endingsOf_12 : decode cX12_endingsOf 12 = .ok (.aload_n 0, 1) := by decide +kernel
theorem dX12_endingsOf_13 : decode cX12_endingsOf 13 = .ok (.getfield 56, 3) := by decide +kernel
theorem dX12_endingsOf_16 : decode cX12_endingsOf 16 = .ok (.iload_n 3, 1) := by decide +kernel
theorem dX12_endingsOf_17 : decode cX12_endingsOf 17 = .ok (.iaload, 1) := by decide +kernel
theorem dX12_endingsOf_18 : decode cX12_endingsOf 18 = .ok (.iload_n 1, 1) := by decide +kernel
theorem dX12_endingsOf_19 : decode cX12_endingsOf 19 = .ok (.iconst 1, 1) := by decide +kernel
theorem dX12_endingsOf_20 : decode cX12_endingsOf 20 = .ok (.iadd, 1) := by decide +kernel
theorem dX12_endingsOf_21 : decode cX12_endingsOf 21 = .ok (.if_icmp .ne 7, 3) := by decide +kernel
theorem dX12_endingsOf_24 : decode cX12_endingsOf 24 = .ok (.iconst 1, 1) := by decide +kernel
theorem dX12_endingsOf_25 : decode cX12_endingsOf 25 = .ok (.goto 4, 3) := by decide +kernel
theorem dX12_endingsOf_28 : decode cX12_endingsOf 28 = .ok (.iconst 0, 1) := by decide +kernel
theorem dX12_endingsOf_29 : decode cX12_endingsOf 29 = .ok (.istore 4, 2) := by decide +kernel
theorem dX12_endingsOf_31 : decode cX12_endingsOf 31 = .ok (.iconst 0, 1) := by decide +kernel
theorem dX12_endingsOf_32 : decode cX12_endingsOf 32 = .ok (.istore 5, 2) := by decide +kernel
theorem dX12_endingsOf_34 : decode cX12_endingsOf 34 = .ok (.iload 5, 2) := by decide +kernel
theorem dX12_endingsOf_36 : decode cX12_endingsOf 36 = .ok (.iload_n 1, 1) := by decide +kernel
theorem dX12_endingsOf_37 : decode cX12_endingsOf 37 = .ok (.if_icmp .ge 43, 3) := by decide +kernel
theorem dX12_endingsOf_40 : decode cX12_endingsOf 40 = .ok (.iload 4, 2) := by decide +kernel
theorem dX12_endingsOf_42 : decode cX12_endingsOf 42 = .ok (.ifCond .eq 38, 3) := by decide +kernel
theorem dX12_endingsOf_45 : decode cX12_endingsOf 45 = .ok (.aload_n 0, 1) := by decide +kernel
theorem dX12_endingsOf_46 : decode cX12_endingsOf 46 = .ok (.getfield 59, 3) := by decide +kernel
theorem dX12_endingsOf_49 : decode cX12_endingsOf 49 = .ok (.bipush 7, 2) := by decide +kernel
theorem dX12_endingsOf_51 : decode cX12_endingsOf 51 = .ok (.iload_n 3, 1) := by decide +kernel
theorem dX12_endingsOf_52 : decode cX12_endingsOf 52 = .ok (.imul, 1) := by decide +kernel
theorem dX12_endingsOf_53 : decode cX12_endingsOf 53 = .ok (.iload 5, 2) := by decide +kernel
theorem dX12_endingsOf_55 : decode cX12_endingsOf 55 = .ok (.iadd, 1) := by decide +kernel
theorem dX12_endingsOf_56 : decode cX12_endingsOf 56 = .ok (.iaload, 1) := by decide +kernel
theorem dX12_endingsOf_57 : decode cX12_endingsOf 57 = .ok (.aload_n 0, 1) := by decide +kernel
theorem dX12_endingsOf_58 : decode cX12_endingsOf 58 = .ok (.getfield 53, 3) := by decide +kernel
theorem dX12_endingsOf_61 : decode cX12_endingsOf 61 = .ok (.iload 5, 2) := by decide +kernel
theorem dX12_endingsOf_63 : decode cX12_endingsOf 63 = .ok (.iaload, 1) := by decide +kernel
theorem dX12_endingsOf_64 : decode cX12_endingsOf 64 = .ok (.if_icmp .ne 7, 3) := by decide +kernel
theorem dX12_endingsOf_67 : decode cX12_endingsOf 67 = .ok (.iconst 1, 1) := by decide +kernel
theorem dX12_endingsOf_68 : decode cX12_endingsOf 68 = .ok (.goto 4, 3) := by decide +kernel
theorem dX12_endingsOf_71 : decode cX12_endingsOf 71 = .ok (.iconst 0, 1) := by decide +kernel
theorem dX12_endingsOf_72 : decode cX12_endingsOf 72 = .ok (.istore 4, 2) := by decide +kernel
theorem dX12_endingsOf_74 : decode cX12_endingsOf 74 = .ok (.iinc 5 1, 3) := by decide +kernel
theorem dX12_endingsOf_77 : decode cX12_endingsOf 77 = .ok (.goto (-43), 3) := by decide +kernel
theorem dX12_endingsOf_80 : decode cX12_endingsOf 80 = .ok (.iload_n 2, 1) := by decide +kernel
theorem dX12_endingsOf_81 : decode cX12_endingsOf 81 = .ok (.iload 4, 2) := by decide +kernel
theorem dX12_endingsOf_83 : decode cX12_endingsOf 83 = .ok (.ifCond .eq 19, 3) := by decide +kernel
theorem dX12_endingsOf_86 : decode cX12_endingsOf 86 = .ok (.iconst 1, 1) := by decide +kernel
theorem dX12_endingsOf_87 : decode cX12_endingsOf 87 = .ok (.aload_n 0, 1) := by decide +kernel
theorem dX12_endingsOf_88 : decode cX12_endingsOf 88 = .ok (.getfield 59, 3) := by decide +kernel
theorem dX12_endingsOf_91 : decode cX12_endingsOf 91 = .ok (.bipush 7, 2) := by decide +kernel
theorem dX12_endingsOf_93 : decode cX12_endingsOf 93 = .ok (.iload_n 3, 1) := by decide +kernel
theorem dX12_endingsOf_94 : decode cX12_endingsOf 94 = .ok (.imul, 1) := by decide +kernel
theorem dX12_endingsOf_95 : decode cX12_endingsOf 95 = .ok (.iload_n 1, 1) := by decide +kernel
theorem dX12_endingsOf_96 : decode cX12_endingsOf 96 = .ok (.iadd, 1) := by decide +kernel
theorem dX12_endingsOf_97 : decode cX12_endingsOf 97 = .ok (.iaload, 1) := by decide +kernel
theorem dX12_endingsOf_98 : decode cX12_endingsOf 98 = .ok (.ishl, 1) := by decide +kernel
theorem dX12_endingsOf_99 : decode cX12_endingsOf 99 = .ok (.goto 4, 3) := by decide +kernel
theorem dX12_endingsOf_102 : decode cX12_endingsOf 102 = .ok (.iconst 0, 1) := by decide +kernel
theorem dX12_endingsOf_103 : decode cX12_endingsOf 103 = .ok (.ior, 1) := by decide +kernel
theorem dX12_endingsOf_104 : decode cX12_endingsOf 104 = .ok (.istore_n 2, 1) := by decide +kernel
theorem dX12_endingsOf_105 : decode cX12_endingsOf 105 = .ok (.iinc 3 1, 3) := by decide +kernel
theorem dX12_endingsOf_108 : decode cX12_endingsOf 108 = .ok (.goto (-104), 3) := by decide +kernel
theorem dX12_endingsOf_111 : decode cX12_endingsOf 111 = .ok (.iload_n 2, 1) := by decide +kernel
theorem dX12_endingsOf_112 : decode cX12_endingsOf 112 = .ok (.ireturn, 1) := by decide +kernel
noncomputable def f_X12_endingsOf_L34 (M : ZMem) (x1 : Int32) (x2 : Int32) (x3 : Int32) (s : (Int32 × Int32)) : Option ((Int32 × Int32) ⊕ (Int32)) := if x1 ≤ s.2 then some (.inr s.1) else if s.1 = (zI 0) then some (.inr s.1) else zchk (zin (((zI 7) * x3) + s.2) 1687) (zchk (zin s.2 7) (if (M.1 17 (zix (((zI 7) * x3) + s.2))) = (M.1 15 (zix s.2)) then zbnd (s.2 + (zI 1)) (fun x5_74 => some (.inl ((zI 1), x5_74))) else zbnd (s.2 + (zI 1)) (fun x5_74 => some (.inl ((zI 0), x5_74)))))
set_option maxRecDepth 100000 in
set_option maxHeartbeats 4000000 in
theorem w_X12_endingsOf_L34 {E : ZEv} {G : ZG} {K : Int32 → Prop} (M : ZMem) (h : zRu lyR E G (zRp M K) cX12_endingsOf RX12 6 (some .int) 0) (x1 : Int32) (x2 : Int32) (x3 : Int32) (s : (Int32 × Int32)) (hk : zOk (zloop (f_X12_endingsOf_L34 M x1 x2 x3) s) (fun e => G M 80 [(0, zrf E 0), (1, .int x1), (2, .int x2), (3, .int x3), (4, .int e)] [])) : G M 34 [(0, zrf E 0), (1, .int x1), (2, .int x2), (3, .int x3), (4, .int s.1), (5, .int s.2)] [] := by
  refine zloop_walk (P := fun s => G M 34 [(0, zrf E 0), (1, .int x1), (2, .int x2), (3, .int x3), (4, .int s.1), (5, .int s.2)] []) hk (fun s hk => ?_)
  unfold f_X12_endingsOf_L34 at hk
  refine zr_iload h dX12_endingsOf_34 5 rfl ?_
  refine zr_iload_n h dX12_endingsOf_36 1 rfl rfl ?_
  refine zr_icmp_ge (tgt := 80) h dX12_endingsOf_37 (by decide) (fun c => ?_) (fun c => ?_)
  · have hk := zOk_t c hk
    have hk := zOk_some hk
    exact zr_weak h [0, 1, 2, 3, 4] rfl hk
  · have hk := zOk_f c hk
    refine zr_iload h dX12_endingsOf_40 4 rfl ?_
    refine zr_if_eq (tgt := 80) h dX12_endingsOf_42 (by decide) (fun c => ?_) (fun c => ?_)
    · have hk := zOk_t c hk
      have hk := zOk_some hk
      exact zr_weak h [0, 1, 2, 3, 4] rfl hk
    · have hk := zOk_f c hk
      refine zr_aload_n h dX12_endingsOf_45 0 rfl rfl ?_
      refine zr_getR h zfo_X12_59 lR_0 rfl dX12_endingsOf_46 ?_
      refine zr_bipush (v := (zI 7)) h dX12_endingsOf_49 (by decide) ?_
      refine zr_iload_n h dX12_endingsOf_51 3 rfl rfl ?_
      refine zr_imul h dX12_endingsOf_52 ?_
      refine zr_iload h dX12_endingsOf_53 5 rfl ?_
      refine zr_iadd h dX12_endingsOf_55 ?_
      have hb := zOk_chk hk
      have hk := hb.2
      refine zr_iald h lR_17 hb.1 dX12_endingsOf_56 ?_
      refine zr_aload_n h dX12_endingsOf_57 0 rfl rfl ?_
      refine zr_getR h zfo_X12_53 lR_0 rfl dX12_endingsOf_58 ?_
      refine zr_iload h dX12_endingsOf_61 5 rfl ?_
      have hb := zOk_chk hk
      have hk := hb.2
      refine zr_iald h lR_15 hb.1 dX12_endingsOf_63 ?_
      refine zr_icmp_ne (tgt := 71) h dX12_endingsOf_64 (by decide) (fun c => ?_) (fun c => ?_)
      · have hk := zOk_t c hk
        refine zr_iconst (v := (zI 1)) h dX12_endingsOf_67 rfl ?_
        refine zr_goto (tgt := 72) h dX12_endingsOf_68 (by decide) ?_
        refine zr_istore (L' := [(0, zrf E 0), (1, .int x1), (2, .int x2), (3, .int x3), (4, .int (zI 1)), (5, .int s.2)]) h [1, 2, 3, 4, 0, 5] dX12_endingsOf_72 (by decide) rfl ?_
        obtain ⟨x5_74, ex⟩ : ∃ y : Int32, y = s.2 + (zI 1) := ⟨_, rfl⟩
        have hk := zOk_bnd ex hk
        refine zr_iinc (v := x5_74) (L' := [(0, zrf E 0), (1, .int x1), (2, .int x2), (3, .int x3), (4, .int (zI 1)), (5, .int x5_74)]) h 5 [1, 2, 3, 4, 5, 0] dX12_endingsOf_74 rfl (by rw [ex]; rfl) (by decide) rfl ?_
        refine zr_goto (tgt := 34) h dX12_endingsOf_77 (by decide) ?_
        have hk := zOk_some hk
        exact zr_weak h [0, 1, 2, 3, 4, 5] rfl hk
      · have hk := zOk_f c hk
        refine zr_iconst (v := (zI 0)) h dX12_endingsOf_71 rfl ?_
        refine zr_istore (L' := [(0, zrf E 0), (1, .int x1), (2, .int x2), (3, .int x3), (4, .int (zI 0)), (5, .int s.2)]) h [1, 2, 3, 4, 0, 5] dX12_endingsOf_72 (by decide) rfl ?_
        obtain ⟨x5_74, ex⟩ : ∃ y : Int32, y = s.2 + (zI 1) := ⟨_, rfl⟩
        have hk := zOk_bnd ex hk
        refine zr_iinc (v := x5_74) (L' := [(0, zrf E 0), (1, .int x1), (2, .int x2), (3, .int x3), (4, .int (zI 0)), (5, .int x5_74)]) h 5 [1, 2, 3, 4, 5, 0] dX12_endingsOf_74 rfl (by rw [ex]; rfl) (by decide) rfl ?_
        refine zr_goto (tgt := 34) h dX12_endingsOf_77 (by decide) ?_
        have hk := zOk_some hk
        exact zr_weak h [0, 1, 2, 3, 4, 5] rfl hk
noncomputable def f_X12_endingsOf_29_L4 (M : ZMem) (x1 : Int32) (x2 : Int32) (x3 : Int32) (v0 : Int32) : Option ((Int32 × Int32) ⊕ (Int32)) := zbind (zloop (f_X12_endingsOf_L34 M x1 x2 x3) (v0, (zI 0))) (fun e34 => if e34 = (zI 0) then zbnd (x2 ||| (zI 0)) (fun x2_104 => zbnd (x3 + (zI 1)) (fun x3_105 => some (.inl (x2_104, x3_105)))) else zchk (zin (((zI 7) * x3) + x1) 1687) (zbnd (x2 ||| ((zI 1) <<< ((M.1 17 (zix (((zI 7) * x3) + x1))) &&& 31))) (fun x2_104 => zbnd (x3 + (zI 1)) (fun x3_105 => some (.inl (x2_104, x3_105))))))
set_option maxRecDepth 100000 in
set_option maxHeartbeats 4000000 in
theorem w_X12_endingsOf_29_L4 {E : ZEv} {G : ZG} {K : Int32 → Prop} (M : ZMem) (h : zRu lyR E G (zRp M K) cX12_endingsOf RX12 6 (some .int) 0) (x1 : Int32) (x2 : Int32) (x3 : Int32) (v0 : Int32) (hk : zOk (f_X12_endingsOf_29_L4 M x1 x2 x3 v0) (zlp (fun s => G M 4 [(0, zrf E 0), (1, .int x1), (2, .int s.1), (3, .int s.2)] []) (fun e => G M 111 [(2, .int e)] []))) : G M 29 [(0, zrf E 0), (1, .int x1), (2, .int x2), (3, .int x3)] [.int v0] := by
  unfold f_X12_endingsOf_29_L4 at hk
  refine zr_istore (L' := [(0, zrf E 0), (1, .int x1), (2, .int x2), (3, .int x3), (4, .int v0)]) h [1, 2, 3, 4, 0] dX12_endingsOf_29 (by decide) rfl ?_
  refine zr_iconst (v := (zI 0)) h dX12_endingsOf_31 rfl ?_
  refine zr_istore (L' := [(0, zrf E 0), (1, .int x1), (2, .int x2), (3, .int x3), (4, .int v0), (5, .int (zI 0))]) h [1, 2, 3, 4, 5, 0] dX12_endingsOf_32 (by decide) rfl ?_
  refine w_X12_endingsOf_L34 M h x1 x2 x3 (v0, (zI 0)) (zOk_mono (zOk_bind hk) (fun e34 hk => ?_))
  refine zr_iload_n h dX12_endingsOf_80 2 rfl rfl ?_
  refine zr_iload h dX12_endingsOf_81 4 rfl ?_
  refine zr_if_eq (tgt := 102) h dX12_endingsOf_83 (by decide) (fun c => ?_) (fun c => ?_)
  · have hk := zOk_t c hk
    refine zr_iconst (v := (zI 0)) h dX12_endingsOf_102 rfl ?_
    refine zr_ior h dX12_endingsOf_103 ?_
    refine zr_topi (fun x2_104 ex => ?_)
    have hk := zOk_bnd ex hk
    refine zr_istore_n (L' := [(0, zrf E 0), (1, .int x1), (2, .int x2_104), (3, .int x3)]) h [1, 2, 0, 3] dX12_endingsOf_104 rfl (by decide) rfl ?_
    obtain ⟨x3_105, ex⟩ : ∃ y : Int32, y = x3 + (zI 1) := ⟨_, rfl⟩
    have hk := zOk_bnd ex hk
    refine zr_iinc (v := x3_105) (L' := [(0, zrf E 0), (1, .int x1), (2, .int x2_104), (3, .int x3_105)]) h 3 [1, 2, 3, 0] dX12_endingsOf_105 rfl (by rw [ex]; rfl) (by decide) rfl ?_
    refine zr_goto (tgt := 4) h dX12_endingsOf_108 (by decide) ?_
    have hk := zOk_some hk
    exact zr_weak h [0, 1, 2, 3] rfl hk
  · have hk := zOk_f c hk
    refine zr_iconst (v := (zI 1)) h dX12_endingsOf_86 rfl ?_
    refine zr_aload_n h dX12_endingsOf_87 0 rfl rfl ?_
    refine zr_getR h zfo_X12_59 lR_0 rfl dX12_endingsOf_88 ?_
    refine zr_bipush (v := (zI 7)) h dX12_endingsOf_91 (by decide) ?_
    refine zr_iload_n h dX12_endingsOf_93 3 rfl rfl ?_
    refine zr_imul h dX12_endingsOf_94 ?_
    refine zr_iload_n h dX12_endingsOf_95 1 rfl rfl ?_
    refine zr_iadd h dX12_endingsOf_96 ?_
    have hb := zOk_chk hk
    have hk := hb.2
    refine zr_iald h lR_17 hb.1 dX12_endingsOf_97 ?_
    refine zr_ishl h dX12_endingsOf_98 ?_
    refine zr_goto (tgt := 103) h dX12_endingsOf_99 (by decide) ?_
    refine zr_ior h dX12_endingsOf_103 ?_
    refine zr_topi (fun x2_104 ex => ?_)
    have hk := zOk_bnd ex hk
    refine zr_istore_n (L' := [(0, zrf E 0), (1, .int x1), (2, .int x2_104), (3, .int x3)]) h [1, 2, 0, 3] dX12_endingsOf_104 rfl (by decide) rfl ?_
    obtain ⟨x3_105, ex⟩ : ∃ y : Int32, y = x3 + (zI 1) := ⟨_, rfl⟩
    have hk := zOk_bnd ex hk
    refine zr_iinc (v := x3_105) (L' := [(0, zrf E 0), (1, .int x1), (2, .int x2_104), (3, .int x3_105)]) h 3 [1, 2, 3, 0] dX12_endingsOf_105 rfl (by rw [ex]; rfl) (by decide) rfl ?_
    refine zr_goto (tgt := 4) h dX12_endingsOf_108 (by decide) ?_
    have hk := zOk_some hk
    exact zr_weak h [0, 1, 2, 3] rfl hk
noncomputable def f_X12_endingsOf_L4 (M : ZMem) (x1 : Int32) (s : (Int32 × Int32)) : Option ((Int32 × Int32) ⊕ (Int32)) := if (M.1 0 25) ≤ s.2 then some (.inr s.1) else zchk (zin s.2 241) (if (M.1 16 (zix s.2)) = (x1 + (zI 1)) then f_X12_endingsOf_29_L4 M x1 s.1 s.2 (zI 1) else f_X12_endingsOf_29_L4 M x1 s.1 s.2 (zI 0))
set_option maxRecDepth 100000 in
set_option maxHeartbeats 4000000 in
theorem w_X12_endingsOf_L4 {E : ZEv} {G : ZG} {K : Int32 → Prop} (M : ZMem) (h : zRu lyR E G (zRp M K) cX12_endingsOf RX12 6 (some .int) 0) (x1 : Int32) (s : (Int32 × Int32)) (hk : zOk (zloop (f_X12_endingsOf_L4 M x1) s) (fun e => G M 111 [(2, .int e)] [])) : G M 4 [(0, zrf E 0), (1, .int x1), (2, .int s.1), (3, .int s.2)] [] := by
  refine zloop_walk (P := fun s => G M 4 [(0, zrf E 0), (1, .int x1), (2, .int s.1), (3, .int s.2)] []) hk (fun s hk => ?_)
  unfold f_X12_endingsOf_L4 at hk
  refine zr_iload_n h dX12_endingsOf_4 3 rfl rfl ?_
  refine zr_aload_n h dX12_endingsOf_5 0 rfl rfl ?_
  refine zr_getI h zfo_X12_302 lR_0 rfl dX12_endingsOf_6 ?_
  refine zr_icmp_ge (tgt := 111) h dX12_endingsOf_9 (by decide) (fun c => ?_) (fun c => ?_)
  · have hk := zOk_t c hk
    have hk := zOk_some hk
    exact zr_weak h [2] rfl hk
  · have hk := zOk_f c hk
    refine zr_aload_n h dX12_endingsOf_12 0 rfl rfl ?_
    refine zr_getR h zfo_X12_56 lR_0 rfl dX12_endingsOf_13 ?_
    refine zr_iload_n h dX12_endingsOf_16 3 rfl rfl ?_
    have hb := zOk_chk hk
    have hk := hb.2
    refine zr_iald h lR_16 hb.1 dX12_endingsOf_17 ?_
    refine zr_iload_n h dX12_endingsOf_18 1 rfl rfl ?_
    refine zr_iconst (v := (zI 1)) h dX12_endingsOf_19 rfl ?_
    refine zr_iadd h dX12_endingsOf_20 ?_
    refine zr_icmp_ne (tgt := 28) h dX12_endingsOf_21 (by decide) (fun c => ?_) (fun c => ?_)
    · have hk := zOk_t c hk
      refine zr_iconst (v := (zI 1)) h dX12_endingsOf_24 rfl ?_
      refine zr_goto (tgt := 29) h dX12_endingsOf_25 (by decide) ?_
      exact w_X12_endingsOf_29_L4 M h x1 s.1 s.2 (zI 1) hk
    · have hk := zOk_f c hk
      refine zr_iconst (v := (zI 0)) h dX12_endingsOf_28 rfl ?_
      exact w_X12_endingsOf_29_L4 M h x1 s.1 s.2 (zI 0) hk
noncomputable def f_X12_endingsOf (M : ZMem) (x1 : Int32) : Option Int32 := zbind (zloop (f_X12_endingsOf_L4 M x1) ((zI 0), (zI 0))) (fun e4 => some e4)
set_option maxRecDepth 100000 in
set_option maxHeartbeats 4000000 in
theorem c_X12_endingsOf (E : ZEv) (M : ZMem) (x1 : Int32) (K : Int32 → Prop) (hk : zOk (f_X12_endingsOf M x1) K) : zCon lyR E yX12_endingsOf cX12_endingsOf 6 (some .int) 0 [zrf E 0, .int x1] M (zRp M K) := by
  refine zcon_of (L0 := [(0, zrf E 0), (1, .int x1)]) (by decide) rfl (Nat.le_of_ble_eq_true rfl) (fun G h => ?_)
  have h : zRu lyR E G (zRp M K) cX12_endingsOf RX12 6 (some .int) 0 := h
  unfold f_X12_endingsOf at hk
  refine zr_iconst (v := (zI 0)) h dX12_endingsOf_0 rfl ?_
  refine zr_istore_n (L' := [(0, zrf E 0), (1, .int x1), (2, .int (zI 0))]) h [1, 2, 0] dX12_endingsOf_1 rfl (by decide) rfl ?_
  refine zr_iconst (v := (zI 0)) h dX12_endingsOf_2 rfl ?_
  refine zr_istore_n (L' := [(0, zrf E 0), (1, .int x1), (2, .int (zI 0)), (3, .int (zI 0))]) h [1, 2, 3, 0] dX12_endingsOf_3 rfl (by decide) rfl ?_
  refine w_X12_endingsOf_L4 M h x1 ((zI 0), (zI 0)) (zOk_mono (zOk_bind hk) (fun e4 hk => ?_))
  refine zr_iload_n h dX12_endingsOf_111 0 rfl rfl ?_
  have hk := zOk_some hk
  exact zr_iret h dX12_endingsOf_112 ⟨rfl, _, rfl, hk⟩
theorem dX12_isAhead_0 : decode cX12_isAhead 0 = .ok (.aload_n 0, 1) := by decide +kernel
theorem dX12_isAhead_1 : decode cX12_isAhead 1 = .ok (.getfield 56, 3) := by decide +kernel
theorem dX12_isAhead_4 : decode cX12_isAhead 4 = .ok (.iload_n 1, 1) := by decide +kernel
theorem dX12_isAhead_5 : decode cX12_isAhead 5 = .ok (.iaload, 1) := by decide +kernel
theorem dX12_isAhead_6 : decode cX12_isAhead 6 = .ok (.iconst 1, 1) := by decide +kernel
theorem dX12_isAhead_7 : decode cX12_isAhead 7 = .ok (.isub, 1) := by decide +kernel
theorem dX12_isAhead_8 : decode cX12_isAhead 8 = .ok (.istore_n 3, 1) := by decide +kernel
theorem dX12_isAhead_9 : decode cX12_isAhead 9 = .ok (.aload_n 0, 1) := by decide +kernel
theorem dX12_isAhead_10 : decode cX12_isAhead 10 = .ok (.getfield 56, 3) := by decide +kernel
theorem dX12_isAhead_13 : decode cX12_isAhead 13 = .ok (.iload_n 2, 1) := by decide +kernel
theorem dX12_isAhead_14 : decode cX12_isAhead 14 = .ok (.iaload, 1) := by decide +kernel
theorem dX12_isAhead_15 : decode cX12_isAhead 15 = .ok (.iconst 1, 1) := by decide +kernel
theorem dX12_isAhead_16 : decode cX12_isAhead 16 = .ok (.isub, 1) := by decide +kernel
theorem dX12_isAhead_17 : decode cX12_isAhead 17 = .ok (.istore 4, 2) := by decide +kernel
theorem dX12_isAhead_19 : decode cX12_isAhead 19 = .ok (.iconst 0, 1) := by decide +kernel
theorem dX12_isAhead_20 : decode cX12_isAhead 20 = .ok (.istore 5, 2) := by decide +kernel
theorem dX12_isAhead_22 : decode cX12_isAhead 22 = .ok (.iload 5, 2) := by decide +kernel
theorem dX12_isAhead_24 : decode cX12_isAhead 24 = .ok (.iload_n 3, 1) := by decide +kernel
theorem dX12_isAhead_25 : decode cX12_isAhead 25 = .ok (.if_icmp .ge 59, 3) := by decide +kernel
theorem dX12_isAhead_28 : decode cX12_isAhead 28 = .ok (.iload 5, 2) := by decide +kernel
theorem dX12_isAhead_30 : decode cX12_isAhead 30 = .ok (.iload 4, 2) := by decide +kernel
theorem dX12_isAhead_32 : decode cX12_isAhead 32 = .ok (.if_icmp .ge 52, 3) := by decide +kernel
theorem dX12_isAhead_35 : decode cX12_isAhead 35 = .ok (.aload_n 0, 1) := by decide +kernel
theorem dX12_isAhead_36 : decode cX12_isAhead 36 = .ok (.getfield 59, 3) := by decide +kernel
theorem dX12_isAhead_39 : decode cX12_isAhead 39 = .ok (.bipush 7, 2) := by decide +kernel
theorem dX12_isAhead_41 : decode cX12_isAhead 41 = .ok (.iload_n 1, 1) := by decide +kernel
theorem dX12_isAhead_42 : decode cX12_isAhead 42 = .ok (.imul, 1) := by decide +kernel
theorem dX12_isAhead_43 : decode cX12_isAhead 43 = .ok (.iload 5, 2) := by decide +kernel
theorem dX12_isAhead_45 : decode cX12_isAhead 45 = .ok (.iadd, 1) := by decide +kernel
theorem dX12_isAhead_46 : decode cX12_isAhead 46 = .ok (.iaload, 1) := by decide +kernel
theorem dX12_isAhead_47 : decode cX12_isAhead 47 = .ok (.aload_n 0, 1) := by decide +kernel
theorem dX12_isAhead_48 : decode cX12_isAhead 48 = .ok (.getfield 59, 3) := by decide +kernel
theorem dX12_isAhead_51 : decode cX12_isAhead 51 = .ok (.bipush 7, 2) := by decide +kernel
theorem dX12_isAhead_53 : decode cX12_isAhead 53 = .ok (.iload_n 2, 1) := by decide +kernel
theorem dX12_isAhead_54 : decode cX12_isAhead 54 = .ok (.imul, 1) := by decide +kernel
theorem dX12_isAhead_55 : decode cX12_isAhead 55 = .ok (.iload 5, 2) := by decide +kernel
theorem dX12_isAhead_57 : decode cX12_isAhead 57 = .ok (.iadd, 1) := by decide +kernel
theorem dX12_isAhead_58 : decode cX12_isAhead 58 = .ok (.iaload, 1) := by decide +kernel
theorem dX12_isAhead_59 : decode cX12_isAhead 59 = .ok (.isub, 1) := by decide +kernel
theorem dX12_isAhead_60 : decode cX12_isAhead 60 = .ok (.istore 6, 2) := by decide +kernel
theorem dX12_isAhead_62 : decode cX12_isAhead 62 = .ok (.iload 6, 2) := by decide +kernel
theorem dX12_isAhead_64 : decode cX12_isAhead 64 = .ok (.ifCond .eq 14, 3) := by decide +kernel
theorem dX12_isAhead_67 : decode cX12_isAhead 67 = .ok (.iload 6, 2) := by decide +kernel
theorem dX12_isAhead_69 : decode cX12_isAhead 69 = .ok (.ifCond .ge 7, 3) := by decide +kernel
theorem dX12_isAhead_72 : decode cX12_isAhead 72 = .ok (.iconst 1, 1) := by decide +kernel
theorem dX12_isAhead_73 : decode cX12_isAhead 73 = .ok (.goto 4, 3) := by decide +kernel
theorem dX12_isAhead_76 : decode cX12_isAhead 76 = .ok (.iconst 0, 1) := by decide +kernel
theorem dX12_isAhead_77 : decode cX12_isAhead 77 = .ok (.ireturn, 1) := by decide +kernel
theorem dX12_isAhead_78 : decode cX12_isAhead 78 = .ok (.iinc 5 1, 3) := by decide +kernel
theorem dX12_isAhead_81 : decode cX12_isAhead 81 = .ok (.goto (-59), 3) := by decide +kernel
theorem dX12_isAhead_84 : decode cX12_isAhead 84 = .ok (.iload_n 3, 1) := by decide +kernel
theorem dX12_isAhead_85 : decode cX12_isAhead 85 = .ok (.iload 4, 2) := by decide +kernel
theorem dX12_isAhead_87 : decode cX12_isAhead 87 = .ok (.if_icmp .ge 7, 3) := by decide +kernel
theorem dX12_isAhead_90 : decode cX12_isAhead 90 = .ok (.iconst 1, 1) := by decide +kernel
theorem dX12_isAhead_91 : decode cX12_isAhead 91 = .ok (.goto 4, 3) := by decide +kernel
theorem dX12_isAhead_94 : decode cX12_isAhead 94 = .ok (.iconst 0, 1) := by decide +kernel
theorem dX12_isAhead_95 : decode cX12_isAhead 95 = .ok (.ireturn, 1) := by decide +kernel
noncomputable def f_X12_isAhead_L22 (M : ZMem) (x1 : Int32) (x2 : Int32) (x3 : Int32) (x4 : Int32) (s : (Int32)) : Option ((Int32) ⊕ ((Unit) ⊕ Int32)) := if x3 ≤ s then some (.inr (.inl ())) else if x4 ≤ s then some (.inr (.inl ())) else zchk (zin (((zI 7) * x1) + s) 1687) (zchk (zin (((zI 7) * x2) + s) 1687) (zbnd ((M.1 17 (zix (((zI 7) * x1) + s))) - (M.1 17 (zix (((zI 7) * x2) + s)))) (fun x6_60 => if x6_60 = (zI 0) then zbnd (s + (zI 1)) (fun x5_78 => some (.inl x5_78)) else if (zI 0) ≤ x6_60 then some (.inr (.inr (zI 0))) else some (.inr (.inr (zI 1))))))
set_option maxRecDepth 100000 in
set_option maxHeartbeats 4000000 in
theorem w_X12_isAhead_L22 {E : ZEv} {G : ZG} {K : Int32 → Prop} (M : ZMem) (h : zRu lyR E G (zRp M K) cX12_isAhead RX12 7 (some .boolean) 0) (x1 : Int32) (x2 : Int32) (x3 : Int32) (x4 : Int32) (s : (Int32)) (hk : zOk (zloop (f_X12_isAhead_L22 M x1 x2 x3 x4) s) (fun e => zsel e (fun e0 => G M 84 [(3, .int x3), (4, .int x4)] []) (fun f0 => K f0))) : G M 22 [(0, zrf E 0), (1, .int x1), (2, .int x2), (3, .int x3), (4, .int x4), (5, .int s)] [] := by
  refine zloop_walk (P := fun s => G M 22 [(0, zrf E 0), (1, .int x1), (2, .int x2), (3, .int x3), (4, .int x4), (5, .int s)] []) hk (fun s hk => ?_)
  unfold f_X12_isAhead_L22 at hk
  refine zr_iload h dX12_isAhead_22 5 rfl ?_
  refine zr_iload_n h dX12_isAhead_24 3 rfl rfl ?_
  refine zr_icmp_ge (tgt := 84) h dX12_isAhead_25 (by decide) (fun c => ?_) (fun c => ?_)
  · have hk := zOk_t c hk
    have hk := zOk_some hk
    exact zr_weak h [3, 4] rfl hk
  · have hk := zOk_f c hk
    refine zr_iload h dX12_isAhead_28 5 rfl ?_
    refine zr_iload h dX12_isAhead_30 4 rfl ?_
    refine zr_icmp_ge (tgt := 84) h dX12_isAhead_32 (by decide) (fun c => ?_) (fun c => ?_)
    · have hk := zOk_t c hk
      have hk := zOk_some hk
      exact zr_weak h [3, 4] rfl hk
    · have hk := zOk_f c hk
      refine zr_aload_n h dX12_isAhead_35 0 rfl rfl ?_
      refine zr_getR h zfo_X12_59 lR_0 rfl dX12_isAhead_36 ?_
      refine zr_bipush (v := (zI 7)) h dX12_isAhead_39 (by decide) ?_
      refine zr_iload_n h dX12_isAhead_41 1 rfl rfl ?_
      refine zr_imul h dX12_isAhead_42 ?_
      refine zr_iload h dX12_isAhead_43 5 rfl ?_
      refine zr_iadd h dX12_isAhead_45 ?_
      have hb := zOk_chk hk
      have hk := hb.2
      refine zr_iald h lR_17 hb.1 dX12_isAhead_46 ?_
      refine zr_aload_n h dX12_isAhead_47 0 rfl rfl ?_
      refine zr_getR h zfo_X12_59 lR_0 rfl dX12_isAhead_48 ?_
      refine zr_bipush (v := (zI 7)) h dX12_isAhead_51 (by decide) ?_
      refine zr_iload_n h dX12_isAhead_53 2 rfl rfl ?_
      refine zr_imul h dX12_isAhead_54 ?_
      refine zr_iload h dX12_isAhead_55 5 rfl ?_
      refine zr_iadd h dX12_isAhead_57 ?_
      have hb := zOk_chk hk
      have hk := hb.2
      refine zr_iald h lR_17 hb.1 dX12_isAhead_58 ?_
      refine zr_isub h dX12_isAhead_59 ?_
      refine zr_topi (fun x6_60 ex => ?_)
      have hk := zOk_bnd ex hk
      refine zr_istore (L' := [(0, zrf E 0), (1, .int x1), (2, .int x2), (3, .int x3), (4, .int x4), (5, .int s), (6, .int x6_60)]) h [1, 2, 3, 4, 5, 6, 0] dX12_isAhead_60 (by decide) rfl ?_
      refine zr_iload h dX12_isAhead_62 6 rfl ?_
      refine zr_if_eq (tgt := 78) h dX12_isAhead_64 (by decide) (fun c => ?_) (fun c => ?_)
      · have hk := zOk_t c hk
        obtain ⟨x5_78, ex⟩ : ∃ y : Int32, y = s + (zI 1) := ⟨_, rfl⟩
        have hk := zOk_bnd ex hk
        refine zr_iinc (v := x5_78) (L' := [(0, zrf E 0), (1, .int x1), (2, .int x2), (3, .int x3), (4, .int x4), (5, .int x5_78)]) h 5 [1, 2, 3, 4, 5, 0] dX12_isAhead_78 rfl (by rw [ex]; rfl) (by decide) rfl ?_
        refine zr_goto (tgt := 22) h dX12_isAhead_81 (by decide) ?_
        have hk := zOk_some hk
        exact zr_weak h [0, 1, 2, 3, 4, 5] rfl hk
      · have hk := zOk_f c hk
        refine zr_iload h dX12_isAhead_67 6 rfl ?_
        refine zr_if_ge (tgt := 76) h dX12_isAhead_69 (by decide) (fun c => ?_) (fun c => ?_)
        · have hk := zOk_t c hk
          refine zr_iconst (v := (zI 0)) h dX12_isAhead_76 rfl ?_
          have hk := zOk_some hk
          exact zr_zret h dX12_isAhead_77 (by decide) ⟨rfl, _, rfl, hk⟩
        · have hk := zOk_f c hk
          refine zr_iconst (v := (zI 1)) h dX12_isAhead_72 rfl ?_
          refine zr_goto (tgt := 77) h dX12_isAhead_73 (by decide) ?_
          have hk := zOk_some hk
          exact zr_zret h dX12_isAhead_77 (by decide) ⟨rfl, _, rfl, hk⟩
noncomputable def f_X12_isAhead (M : ZMem) (x1 : Int32) (x2 : Int32) : Option Int32 := zchk (zin x1 241) (zbnd ((M.1 16 (zix x1)) - (zI 1)) (fun x3_8 => zchk (zin x2 241) (zbnd ((M.1 16 (zix x2)) - (zI 1)) (fun x4_17 => zbind (zloop (f_X12_isAhead_L22 M x1 x2 x3_8 x4_17) (zI 0)) (fun e22 => zsel e22 (fun e22a => if x4_17 ≤ x3_8 then some (zI 0) else some (zI 1)) (fun e22b => some e22b))))))
set_option maxRecDepth 100000 in
set_option maxHeartbeats 4000000 in
theorem c_X12_isAhead (E : ZEv) (M : ZMem) (x1 : Int32) (x2 : Int32) (K : Int32 → Prop) (hk : zOk (f_X12_isAhead M x1 x2) K) : zCon lyR E yX12_isAhead cX12_isAhead 7 (some .boolean) 0 [zrf E 0, .int x1, .int x2] M (zRp M K) := by
  refine zcon_of (L0 := [(0, zrf E 0), (1, .int x1), (2, .int x2)]) (by decide) rfl (Nat.le_of_ble_eq_true rfl) (fun G h => ?_)
  have h : zRu lyR E G (zRp M K) cX12_isAhead RX12 7 (some .boolean) 0 := h
  unfold f_X12_isAhead at hk
  refine zr_aload_n h dX12_isAhead_0 0 rfl rfl ?_
  refine zr_getR h zfo_X12_56 lR_0 rfl dX12_isAhead_1 ?_
  refine zr_iload_n h dX12_isAhead_4 1 rfl rfl ?_
  have hb := zOk_chk hk
  have hk := hb.2
  refine zr_iald h lR_16 hb.1 dX12_isAhead_5 ?_
  refine zr_iconst (v := (zI 1)) h dX12_isAhead_6 rfl ?_
  refine zr_isub h dX12_isAhead_7 ?_
  refine zr_topi (fun x3_8 ex => ?_)
  have hk := zOk_bnd ex hk
  refine zr_istore_n (L' := [(0, zrf E 0), (1, .int x1), (2, .int x2), (3, .int x3_8)]) h [1, 2, 3, 0] dX12_isAhead_8 rfl (by decide) rfl ?_
  refine zr_aload_n h dX12_isAhead_9 0 rfl rfl ?_
  refine zr_getR h zfo_X12_56 lR_0 rfl dX12_isAhead_10 ?_
  refine zr_iload_n h dX12_isAhead_13 2 rfl rfl ?_
  have hb := zOk_chk hk
  have hk := hb.2
  refine zr_iald h lR_16 hb.1 dX12_isAhead_14 ?_
  refine zr_iconst (v := (zI 1)) h dX12_isAhead_15 rfl ?_
  refine zr_isub h dX12_isAhead_16 ?_
  refine zr_topi (fun x4_17 ex => ?_)
  have hk := zOk_bnd ex hk
  refine zr_istore (L' := [(0, zrf E 0), (1, .int x1), (2, .int x2), (3, .int x3_8), (4, .int x4_17)]) h [1, 2, 3, 4, 0] dX12_isAhead_17 (by decide) rfl ?_
  refine zr_iconst (v := (zI 0)) h dX12_isAhead_19 rfl ?_
  refine zr_istore (L' := [(0, zrf E 0), (1, .int x1), (2, .int x2), (3, .int x3_8), (4, .int x4_17), (5, .int (zI 0))]) h [1, 2, 3, 4, 5, 0] dX12_isAhead_20 (by decide) rfl ?_
  refine w_X12_isAhead_L22 M h x1 x2 x3_8 x4_17 (zI 0) (zOk_mono (zOk_bind hk) (fun e22 hk => ?_))
  cases e22 with
  | inl e22a =>
    have hk := zOk_selL hk
    refine zr_iload_n h dX12_isAhead_84 0 rfl rfl ?_
    refine zr_iload h dX12_isAhead_85 1 rfl ?_
    refine zr_icmp_ge (tgt := 94) h dX12_isAhead_87 (by decide) (fun c => ?_) (fun c => ?_)
    · have hk := zOk_t c hk
      refine zr_iconst (v := (zI 0)) h dX12_isAhead_94 rfl ?_
      have hk := zOk_some hk
      exact zr_zret h dX12_isAhead_95 (by decide) ⟨rfl, _, rfl, hk⟩
    · have hk := zOk_f c hk
      refine zr_iconst (v := (zI 1)) h dX12_isAhead_90 rfl ?_
      refine zr_goto (tgt := 95) h dX12_isAhead_91 (by decide) ?_
      have hk := zOk_some hk
      exact zr_zret h dX12_isAhead_95 (by decide) ⟨rfl, _, rfl, hk⟩
  | inr e22b =>
    have hk := zOk_selR hk
    have hk := zOk_some hk
    exact hk
theorem dX12_laysPiece_0 : decode cX12_laysPiece 0 = .ok (.iconst 0, 1) := by decide +kernel
theorem dX12_laysPiece_1 : decode cX12_laysPiece 1 = .ok (.istore_n 3, 1) := by decide +kernel
theorem dX12_laysPiece_2 : decode cX12_laysPiece 2 = .ok (.iload_n 3, 1) := by decide +kernel
theorem dX12_laysPiece_3 : decode cX12_laysPiece 3 = .ok (.iload_n 2, 1) := by decide +kernel
theorem dX12_laysPiece_4 : decode cX12_laysPiece 4 = .ok (.if_icmp .ge 26, 3) := by decide +kernel
theorem dX12_laysPiece_7 : decode cX12_laysPiece 7 = .ok (.aload_n 0, 1) := by decide +kernel
theorem dX12_laysPiece_8 : decode cX12_laysPiece 8 = .ok (.getfield 53, 3) := by decide +kernel
theorem dX12_laysPiece_11 : decode cX12_laysPiece 11 = .ok (.iload_n 3, 1) := by decide +kernel
theorem dX12_laysPiece_12 : decode cX12_laysPiece 12 = .ok (.aload_n 0, 1) := by decide +kernel
theorem dX12_laysPiece_13 : decode cX12_laysPiece 13 = .ok (.getfield 59, 3) := by decide +kernel
theorem dX12_laysPiece_16 : decode cX12_laysPiece 16 = .ok (.bipush 7, 2) := by decide +kernel
theorem dX12_laysPiece_18 : decode cX12_laysPiece 18 = .ok (.iload_n 1, 1) := by decide +kernel
theorem dX12_laysPiece_19 : decode cX12_laysPiece 19 = .ok (.imul, 1) := by decide +kernel
theorem dX12_laysPiece_20 : decode cX12_laysPiece 20 = .ok (.iload_n 3, 1) := by decide +kernel
theorem dX12_laysPiece_21 : decode cX12_laysPiece 21 = .ok (.iadd, 1) := by decide +kernel
theorem dX12_laysPiece_22 : decode cX12_laysPiece 22 = .ok (.iaload, 1) := by decide +kernel
theorem dX12_laysPiece_23 : decode cX12_laysPiece 23 = .ok (.iastore, 1) := by decide +kernel
theorem dX12_laysPiece_24 : decode cX12_laysPiece 24 = .ok (.iinc 3 1, 3) := by decide +kernel
theorem dX12_laysPiece_27 : decode cX12_laysPiece 27 = .ok (.goto (-25), 3) := by decide +kernel
theorem dX12_laysPiece_30 : decode cX12_laysPiece 30 = .ok (.return_, 1) := by decide +kernel
noncomputable def f_X12_laysPiece_L2 (x1 : Int32) (x2 : Int32) (s : (ZMem × Int32)) : Option ((ZMem × Int32) ⊕ (ZMem)) := if x2 ≤ s.2 then some (.inr s.1) else zchk (zin (((zI 7) * x1) + s.2) 1687) (zchk (zin s.2 7) (zbnd (zstI s.1 15 (zix s.2) (s.1.1 17 (zix (((zI 7) * x1) + s.2)))) (fun M_23 => zbnd (s.2 + (zI 1)) (fun x3_24 => some (.inl (M_23, x3_24))))))
set_option maxRecDepth 100000 in
set_option maxHeartbeats 4000000 in
theorem w_X12_laysPiece_L2 {E : ZEv} {G : ZG} {K : ZMem → Prop} (h : zRu lyR E G (zRv K) cX12_laysPiece RX12 4 none 0) (x1 : Int32) (x2 : Int32) (s : (ZMem × Int32)) (hk : zOk (zloop (f_X12_laysPiece_L2 x1 x2) s) (fun e => G e 30 [] [])) : G s.1 2 [(0, zrf E 0), (1, .int x1), (2, .int x2), (3, .int s.2)] [] := by
  refine zloop_walk (P := fun s => G s.1 2 [(0, zrf E 0), (1, .int x1), (2, .int x2), (3, .int s.2)] []) hk (fun s hk => ?_)
  unfold f_X12_laysPiece_L2 at hk
  refine zr_iload_n h dX12_laysPiece_2 3 rfl rfl ?_
  refine zr_iload_n h dX12_laysPiece_3 2 rfl rfl ?_
  refine zr_icmp_ge (tgt := 30) h dX12_laysPiece_4 (by decide) (fun c => ?_) (fun c => ?_)
  · have hk := zOk_t c hk
    have hk := zOk_some hk
    exact zr_weak h [] rfl hk
  · have hk := zOk_f c hk
    refine zr_aload_n h dX12_laysPiece_7 0 rfl rfl ?_
    refine zr_getR h zfo_X12_53 lR_0 rfl dX12_laysPiece_8 ?_
    refine zr_iload_n h dX12_laysPiece_11 3 rfl rfl ?_
    refine zr_aload_n h dX12_laysPiece_12 0 rfl rfl ?_
    refine zr_getR h zfo_X12_59 lR_0 rfl dX12_laysPiece_13 ?_
    refine zr_bipush (v := (zI 7)) h dX12_laysPiece_16 (by decide) ?_
    refine zr_iload_n h dX12_laysPiece_18 1 rfl rfl ?_
    refine zr_imul h dX12_laysPiece_19 ?_
    refine zr_iload_n h dX12_laysPiece_20 3 rfl rfl ?_
    refine zr_iadd h dX12_laysPiece_21 ?_
    have hb := zOk_chk hk
    have hk := hb.2
    refine zr_iald h lR_17 hb.1 dX12_laysPiece_22 ?_
    have hb := zOk_chk hk
    have hk := hb.2
    refine zr_iast h lR_15 hb.1 dX12_laysPiece_23 ?_
    refine zr_mem (fun M_23 eM => ?_)
    have hk := zOk_bnd eM hk
    obtain ⟨x3_24, ex⟩ : ∃ y : Int32, y = s.2 + (zI 1) := ⟨_, rfl⟩
    have hk := zOk_bnd ex hk
    refine zr_iinc (v := x3_24) (L' := [(0, zrf E 0), (1, .int x1), (2, .int x2), (3, .int x3_24)]) h 3 [1, 2, 3, 0] dX12_laysPiece_24 rfl (by rw [ex]; rfl) (by decide) rfl ?_
    refine zr_goto (tgt := 2) h dX12_laysPiece_27 (by decide) ?_
    have hk := zOk_some hk
    exact zr_weak h [0, 1, 2, 3] rfl hk
noncomputable def f_X12_laysPiece (M : ZMem) (x1 : Int32) (x2 : Int32) : Option ZMem := zbind (zloop (f_X12_laysPiece_L2 x1 x2) (M, (zI 0))) (fun e2 => some e2)
set_option maxRecDepth 100000 in
set_option maxHeartbeats 4000000 in
theorem c_X12_laysPiece (E : ZEv) (M : ZMem) (x1 : Int32) (x2 : Int32) (K : ZMem → Prop) (hk : zOk (f_X12_laysPiece M x1 x2) K) : zCon lyR E yX12_laysPiece cX12_laysPiece 4 none 0 [zrf E 0, .int x1, .int x2] M (zRv K) := by
  refine zcon_of (L0 := [(0, zrf E 0), (1, .int x1), (2, .int x2)]) (by decide) rfl (Nat.le_of_ble_eq_true rfl) (fun G h => ?_)
  have h : zRu lyR E G (zRv K) cX12_laysPiece RX12 4 none 0 := h
  unfold f_X12_laysPiece at hk
  refine zr_iconst (v := (zI 0)) h dX12_laysPiece_0 rfl ?_
  refine zr_istore_n (L' := [(0, zrf E 0), (1, .int x1), (2, .int x2), (3, .int (zI 0))]) h [1, 2, 3, 0] dX12_laysPiece_1 rfl (by decide) rfl ?_
  refine w_X12_laysPiece_L2 h x1 x2 (M, (zI 0)) (zOk_mono (zOk_bind hk) (fun e2 hk => ?_))
  have hk := zOk_some hk
  exact zr_vret h dX12_laysPiece_30 ⟨rfl, hk⟩
theorem dX12_laysStems_0 : decode cX12_laysStems 0 = .ok (.aload_n 0, 1) := by decide +kernel
theorem dX12_laysStems_1 : decode cX12_laysStems 1 = .ok (.iconst 0, 1) := by decide +kernel
theorem dX12_laysStems_2 : decode cX12_laysStems 2 = .ok (.putfield 322, 3) := by decide +kernel
theorem dX12_laysStems_5 : decode cX12_laysStems 5 = .ok (.iconst 0, 1) := by decide +kernel
theorem dX12_laysStems_6 : decode cX12_laysStems 6 = .ok (.istore_n 1, 1) := by decide +kernel
theorem dX12_laysStems_7 : decode cX12_laysStems 7 = .ok (.iload_n 1, 1) := by decide +kernel
theorem dX12_laysStems_8 : decode cX12_laysStems 8 = .ok (.aload_n 0, 1) := by decide +kernel
theorem dX12_laysStems_9 : decode cX12_laysStems 9 = .ok (.getfield 302, 3) := by decide +kernel
theorem dX12_laysStems_12 : decode cX12_laysStems 12 = .ok (.if_icmp .ge 136, 3) := by decide +kernel
theorem dX12_laysStems_15 : decode cX12_laysStems 15 = .ok (.aload_n 0, 1) := by decide +kernel
theorem dX12_laysStems_16 : decode cX12_laysStems 16 = .ok (.getfield 56, 3) := by decide +kernel
theorem dX12_laysStems_19 : decode cX12_laysStems 19 = .ok (.iload_n 1, 1) := by decide +kernel
theorem dX12_laysStems_20 : decode cX12_laysStems 20 = .ok (.iaload, 1) := by decide +kernel
theorem dX12_laysStems_21 : decode cX12_laysStems 21 = .ok (.iconst 1, 1) := by decide +kernel
theorem dX12_laysStems_22 : decode cX12_laysStems 22 = .ok (.isub, 1) := by decide +kernel
theorem dX12_laysStems_23 : decode cX12_laysStems 23 = .ok (.istore_n 2, 1) := by decide +kernel
theorem dX12_laysStems_24 : decode cX12_laysStems 24 = .ok (.aload_n 0, 1) := by decide +kernel
theorem dX12_laysStems_25 : decode cX12_laysStems 25 = .ok (.iload_n 1, 1) := by decide +kernel
theorem dX12_laysStems_26 : decode cX12_laysStems 26 = .ok (.iload_n 2, 1) := by decide +kernel
theorem dX12_laysStems_27 : decode cX12_laysStems 27 = .ok (.invokevirtual 325, 3) := by decide +kernel
theorem dX12_laysStems_30 : decode cX12_laysStems 30 = .ok (.iload_n 2, 1) := by decide +kernel
theorem dX12_laysStems_31 : decode cX12_laysStems 31 = .ok (.iconst 2, 1) := by decide +kernel
theorem dX12_laysStems_32 : decode cX12_laysStems 32 = .ok (.if_icmp .ge 7, 3) := by decide +kernel
theorem dX12_laysStems_35 : decode cX12_laysStems 35 = .ok (.iconst 0, 1) := by decide +kernel
theorem dX12_laysStems_36 : decode cX12_laysStems 36 = .ok (.goto 8, 3) := by decide +kernel
theorem dX12_laysStems_39 : decode cX12_laysStems 39 = .ok (.aload_n 0, 1) := by decide +kernel
theorem dX12_laysStems_40 : decode cX12_laysStems 40 = .ok (.iload_n 2, 1) := by decide +kernel
theorem dX12_laysStems_41 : decode cX12_laysStems 41 = .ok (.invokevirtual 328, 3) := by decide +kernel
theorem dX12_laysStems_44 : decode cX12_laysStems 44 = .ok (.istore_n 3, 1) := by decide +kernel
theorem dX12_laysStems_45 : decode cX12_laysStems 45 = .ok (.iload_n 3, 1) := by decide +kernel
theorem dX12_laysStems_46 : decode cX12_laysStems 46 = .ok (.invokestatic 268, 3) := by decide +kernel
theorem dX12_laysStems_49 : decode cX12_laysStems 49 = .ok (.iconst 2, 1) := by decide +kernel
theorem dX12_laysStems_50 : decode cX12_laysStems 50 = .ok (.if_icmp .lt 92, 3) := by decide +kernel
theorem dX12_laysStems_53 : decode cX12_laysStems 53 = .ok (.iload_n 3, 1) := by decide +kernel
theorem dX12_laysStems_54 : decode cX12_laysStems 54 = .ok (.invokestatic 331, 3) := by decide +kernel
theorem dX12_laysStems_57 : decode cX12_laysStems 57 = .ok (.aload_n 0, 1) := by decide +kernel
theorem dX12_laysStems_58 : decode cX12_laysStems 58 = .ok (.getfield 59, 3) := by decide +kernel
theorem dX12_laysStems_61 : decode cX12_laysStems 61 = .ok (.bipush 7, 2) := by decide +kernel
theorem dX12_laysStems_63 : decode cX12_laysStems 63 = .ok (.iload_n 1, 1) := by decide +kernel
theorem dX12_laysStems_64 : decode cX12_laysStems 64 = .ok (.imul, 1) := by decide +kernel
theorem dX12_laysStems_65 : decode cX12_laysStems 65 = .ok (.iload_n 2, 1) := by decide +kernel
theorem dX12_laysStems_66 : decode cX12_laysStems 66 = .ok (.iadd, 1) := by decide +kernel
theorem dX12_laysStems_67 : decode cX12_laysStems 67 = .ok (.iaload, 1) := by decide +kernel
theorem dX12_laysStems_68 : decode cX12_laysStems 68 = .ok (.if_icmp .eq 6, 3) := by decide +kernel
theorem dX12_laysStems_71 : decode cX12_laysStems 71 = .ok (.goto 71, 3) := by decide +kernel
theorem dX12_laysStems_74 : decode cX12_laysStems 74 = .ok (.aload_n 0, 1) := by decide +kernel
theorem dX12_laysStems_75 : decode cX12_laysStems 75 = .ok (.getfield 322, 3) := by decide +kernel
theorem dX12_laysStems_78 : decode cX12_laysStems 78 = .ok (.istore 4, 2) := by decide +kernel
theorem dX12_laysStems_80 : decode cX12_laysStems 80 = .ok (.iload 4, 2) := by decide +kernel
theorem dX12_laysStems_82 : decode cX12_laysStems 82 = .ok (.ifCond .le 42, 3) := by decide +kernel
theorem dX12_laysStems_85 : decode cX12_laysStems 85 = .ok (.aload_n 0, 1) := by decide +kernel
theorem dX12_laysStems_86 : decode cX12_laysStems 86 = .ok (.iload_n 1, 1) := by decide +kernel
theorem dX12_laysStems_87 : decode cX12_laysStems 87 = .ok (.aload_n 0, 1) := by decide +kernel
theorem dX12_laysStems_88 : decode cX12_laysStems 88 = .ok (.getfield 71, 3) := by decide +kernel
theorem dX12_laysStems_91 : decode cX12_laysStems 91 = .ok (.iload 4, 2) := by decide +kernel
theorem dX12_laysStems_93 : decode cX12_laysStems 93 = .ok (.iconst 1, 1) := by decide +kernel
theorem dX12_laysStems_94 : decode cX12_laysStems 94 = .ok (.isub, 1) := by decide +kernel
theorem dX12_laysStems_95 : decode cX12_laysStems 95 = .ok (.iaload, 1) := by decide +kernel
theorem dX12_laysStems_96 : decode cX12_laysStems 96 = .ok (.invokevirtual 334, 3) := by decide +kernel
theorem dX12_laysStems_99 : decode cX12_laysStems 99 = .ok (.ifCond .eq 25, 3) := by decide +kernel
theorem dX12_laysStems_102 : decode cX12_laysStems 102 = .ok (.aload_n 0, 1) := by decide +kernel
theorem dX12_laysStems_103 : decode cX12_laysStems 103 = .ok (.getfield 71, 3) := by decide +kernel
theorem dX12_laysStems_106 : decode cX12_laysStems 106 = .ok (.iload 4, 2) := by decide +kernel
theorem dX12_laysStems_108 : decode cX12_laysStems 108 = .ok (.aload_n 0, 1) := by decide +kernel
theorem dX12_laysStems_109 : decode cX12_laysStems 109 = .ok (.getfield 71, 3) := by decide +kernel
theorem dX12_laysStems_112 : decode cX12_laysStems 112 = .ok (.iload 4, 2) := by decide +kernel
theorem dX12_laysStems_114 : decode cX12_laysStems 114 = .ok (.iconst 1, 1) := by decide +kernel
theorem dX12_laysStems_115 : decode cX12_laysStems 115 = .ok (.isub, 1) := by decide +kernel
theorem dX12_laysStems_116 : decode cX12_laysStems 116 = .ok (.iaload, 1) := by decide +kernel
theorem dX12_laysStems_117 : decode cX12_laysStems 117 = .ok (.iastore, 1) := by decide +kernel
theorem dX12_laysStems_118 : decode cX12_laysStems 118 = .ok (.iinc 4 (-1), 3) := by decide +kernel
theorem dX12_laysStems_121 : decode cX12_laysStems 121 = .ok (.goto (-41), 3) := by decide +kernel
theorem dX12_laysStems_124 : decode cX12_laysStems 124 = .ok (.aload_n 0, 1) := by decide +kernel
theorem dX12_laysStems_125 : decode cX12_laysStems 125 = .ok (.getfield 71, 3) := by decide +kernel
theorem dX12_laysStems_128 : decode cX12_laysStems 128 = .ok (.iload 4, 2) := by decide +kernel
theorem dX12_laysStems_130 : decode cX12_laysStems 130 = .ok (.iload_n 1, 1) := by decide +kernel
theorem dX12_laysStems_131 : decode cX12_laysStems 131 = .ok (.iastore, 1) := by decide +kernel
theorem dX12_laysStems_132 : decode cX12_laysStems 132 = .ok (.aload_n 0, 1) := by decide +kernel
theorem dX12_laysStems_133 : decode cX12_laysStems 133 = .ok (.dup, 1) := by decide +kernel
theorem dX12_laysStems_134 : decode cX12_laysStems 134 = .ok (.getfield 322, 3) := by decide +kernel
theorem dX12_laysStems_137 : decode cX12_laysStems 137 = .ok (.iconst 1, 1) := by decide +kernel
theorem dX12_laysStems_138 : decode cX12_laysStems 138 = .ok (.iadd, 1) := by decide +kernel
theorem dX12_laysStems_139 : decode cX12_laysStems 139 = .ok (.putfield 322, 3) := by decide +kernel
theorem dX12_laysStems_142 : decode cX12_laysStems 142 = .ok (.iinc 1 1, 3) := by decide +kernel
theorem dX12_laysStems_145 : decode cX12_laysStems 145 = .ok (.goto (-138), 3) := by decide +kernel
theorem dX12_laysStems_148 : decode cX12_laysStems 148 = .ok (.return_, 1) := by decide +kernel
noncomputable def f_X12_laysStems_L80 (x1 : Int32) (s : (ZMem × Int32)) : Option ((ZMem × Int32) ⊕ (ZMem × Int32)) := if s.2 ≤ (zI 0) then some (.inr (s.1, s.2)) else zchk (zin (s.2 - (zI 1)) 240) (zbind (f_X12_isAhead s.1 x1 (s.1.1 21 (zix (s.2 - (zI 1))))) (fun r_96 => if r_96 = (zI 0) then some (.inr (s.1, s.2)) else zchk (zin (s.2 - (zI 1)) 240) (zchk (zin s.2 240) (zbnd (zstI s.1 21 (zix s.2) (s.1.1 21 (zix (s.2 - (zI 1))))) (fun M_117 => zbnd (s.2 + (zI (-1))) (fun x4_118 => some (.inl (M_117, x4_118))))))))
set_option maxRecDepth 100000 in
set_option maxHeartbeats 4000000 in
theorem w_X12_laysStems_L80 {E : ZEv} {G : ZG} {K : ZMem → Prop} (h : zRu lyR E G (zRv K) cX12_laysStems RX12 5 none 1) (x1 : Int32) (s : (ZMem × Int32)) (hk : zOk (zloop (f_X12_laysStems_L80 x1) s) (fun e => G e.1 124 [(0, zrf E 0), (1, .int x1), (4, .int e.2)] [])) : G s.1 80 [(0, zrf E 0), (1, .int x1), (4, .int s.2)] [] := by
  refine zloop_walk (P := fun s => G s.1 80 [(0, zrf E 0), (1, .int x1), (4, .int s.2)] []) hk (fun s hk => ?_)
  unfold f_X12_laysStems_L80 at hk
  refine zr_iload h dX12_laysStems_80 2 rfl ?_
  refine zr_if_le (tgt := 124) h dX12_laysStems_82 (by decide) (fun c => ?_) (fun c => ?_)
  · have hk := zOk_t c hk
    have hk := zOk_some hk
    exact zr_weak h [0, 1, 2] rfl hk
  · have hk := zOk_f c hk
    refine zr_aload_n h dX12_laysStems_85 0 rfl rfl ?_
    refine zr_iload_n h dX12_laysStems_86 1 rfl rfl ?_
    refine zr_aload_n h dX12_laysStems_87 0 rfl rfl ?_
    refine zr_getR h zfo_X12_71 lR_0 rfl dX12_laysStems_88 ?_
    refine zr_iload h dX12_laysStems_91 2 rfl ?_
    refine zr_iconst (v := (zI 1)) h dX12_laysStems_93 rfl ?_
    refine zr_isub h dX12_laysStems_94 ?_
    have hb := zOk_chk hk
    have hk := hb.2
    refine zr_iald h lR_21 hb.1 dX12_laysStems_95 ?_
    refine zr_callVp h lR_0 zcw_X12_334 (by decide) (c_X12_isAhead E s.1 x1 (s.1.1 21 (zix (s.2 - (zI 1)))) _ (zOk_bind hk)) rfl rfl (Nat.le_of_ble_eq_true rfl) dX12_laysStems_96 (fun r_96 hk => ?_)
    refine zr_if_eq (tgt := 124) h dX12_laysStems_99 (by decide) (fun c => ?_) (fun c => ?_)
    · have hk := zOk_t c hk
      have hk := zOk_some hk
      exact zr_weak h [0, 1, 2] rfl hk
    · have hk := zOk_f c hk
      refine zr_aload_n h dX12_laysStems_102 0 rfl rfl ?_
      refine zr_getR h zfo_X12_71 lR_0 rfl dX12_laysStems_103 ?_
      refine zr_iload h dX12_laysStems_106 2 rfl ?_
      refine zr_aload_n h dX12_laysStems_108 0 rfl rfl ?_
      refine zr_getR h zfo_X12_71 lR_0 rfl dX12_laysStems_109 ?_
      refine zr_iload h dX12_laysStems_112 2 rfl ?_
      refine zr_iconst (v := (zI 1)) h dX12_laysStems_114 rfl ?_
      refine zr_isub h dX12_laysStems_115 ?_
      have hb := zOk_chk hk
      have hk := hb.2
      refine zr_iald h lR_21 hb.1 dX12_laysStems_116 ?_
      have hb := zOk_chk hk
      have hk := hb.2
      refine zr_iast h lR_21 hb.1 dX12_laysStems_117 ?_
      refine zr_mem (fun M_117 eM => ?_)
      have hk := zOk_bnd eM hk
      obtain ⟨x4_118, ex⟩ : ∃ y : Int32, y = s.2 + (zI (-1)) := ⟨_, rfl⟩
      have hk := zOk_bnd ex hk
      refine zr_iinc (v := x4_118) (L' := [(0, zrf E 0), (1, .int x1), (4, .int x4_118)]) h 2 [1, 2, 0] dX12_laysStems_118 rfl (by rw [ex]; rfl) (by decide) rfl ?_
      refine zr_goto (tgt := 80) h dX12_laysStems_121 (by decide) ?_
      have hk := zOk_some hk
      exact zr_weak h [0, 1, 2] rfl hk
noncomputable def f_X12_laysStems_44_L7 (M : ZMem) (x1 : Int32) (x2 : Int32) (v0 : Int32) : Option ((ZMem × Int32) ⊕ (ZMem)) := zbind (f_J6_bitCount_0f7a4 M v0) (fun r_46 => if r_46 < (zI 2) then zbnd (x1 + (zI 1)) (fun x1_142 => some (.inl (M, x1_142))) else zbind (f_J6_numberOfTrailingZeros_0f7a4 M v0) (fun r_54 => zchk (zin (((zI 7) * x1) + x2) 1687) (if r_54 = (M.1 17 (zix (((zI 7) * x1) + x2))) then zbnd (M.1 0 32) (fun x4_78 => zbind (zloop (f_X12_laysStems_L80 x1) (M, x4_78)) (fun e80 => zchk (zin e80.2 240) (zbnd (zstI e80.1 21 (zix e80.2) x1) (fun M_131 => zbnd (zstI M_131 0 32 ((M_131.1 0 32) + (zI 1))) (fun M_139 => zbnd (x1 + (zI 1)) (fun x1_142 => some (.inl (M_139, x1_142)))))))) else zbnd (x1 + (zI 1)) (fun x1_142 => some (.inl (M, x1_142))))))
set_option maxRecDepth 100000 in
set_option maxHeartbeats 4000000 in
theorem w_X12_laysStems_44_L7 {E : ZEv} {G : ZG} {K : ZMem → Prop} (h : zRu lyR E G (zRv K) cX12_laysStems RX12 5 none 1) (M : ZMem) (x1 : Int32) (x2 : Int32) (v0 : Int32) (hk : zOk (f_X12_laysStems_44_L7 M x1 x2 v0) (zlp (fun s => G s.1 7 [(0, zrf E 0), (1, .int s.2)] []) (fun e => G e 148 [] []))) : G M 44 [(0, zrf E 0), (1, .int x1), (2, .int x2)] [.int v0] := by
  unfold f_X12_laysStems_44_L7 at hk
  refine zr_istore_n (L' := [(0, zrf E 0), (1, .int x1), (2, .int x2), (3, .int v0)]) h [1, 2, 3, 0] dX12_laysStems_44 rfl (by decide) rfl ?_
  refine zr_iload_n h dX12_laysStems_45 3 rfl rfl ?_
  refine zr_callSp h zcw_X12_268 (by decide) (c_J6_bitCount_0f7a4 E M v0 _ (zOk_bind hk)) rfl rfl (Nat.le_of_ble_eq_true rfl) dX12_laysStems_46 (fun r_46 hk => ?_)
  refine zr_iconst (v := (zI 2)) h dX12_laysStems_49 rfl ?_
  refine zr_icmp_lt (tgt := 142) h dX12_laysStems_50 (by decide) (fun c => ?_) (fun c => ?_)
  · have hk := zOk_t c hk
    obtain ⟨x1_142, ex⟩ : ∃ y : Int32, y = x1 + (zI 1) := ⟨_, rfl⟩
    have hk := zOk_bnd ex hk
    refine zr_iinc (v := x1_142) (L' := [(0, zrf E 0), (1, .int x1_142)]) h 1 [1, 0] dX12_laysStems_142 rfl (by rw [ex]; rfl) (by decide) rfl ?_
    refine zr_goto (tgt := 7) h dX12_laysStems_145 (by decide) ?_
    have hk := zOk_some hk
    exact zr_weak h [0, 1] rfl hk
  · have hk := zOk_f c hk
    refine zr_iload_n h dX12_laysStems_53 3 rfl rfl ?_
    refine zr_callSp h zcw_X12_331 (by decide) (c_J6_numberOfTrailingZeros_0f7a4 E M v0 _ (zOk_bind hk)) rfl rfl (Nat.le_of_ble_eq_true rfl) dX12_laysStems_54 (fun r_54 hk => ?_)
    refine zr_aload_n h dX12_laysStems_57 0 rfl rfl ?_
    refine zr_getR h zfo_X12_59 lR_0 rfl dX12_laysStems_58 ?_
    refine zr_bipush (v := (zI 7)) h dX12_laysStems_61 (by decide) ?_
    refine zr_iload_n h dX12_laysStems_63 1 rfl rfl ?_
    refine zr_imul h dX12_laysStems_64 ?_
    refine zr_iload_n h dX12_laysStems_65 2 rfl rfl ?_
    refine zr_iadd h dX12_laysStems_66 ?_
    have hb := zOk_chk hk
    have hk := hb.2
    refine zr_iald h lR_17 hb.1 dX12_laysStems_67 ?_
    refine zr_icmp_eq (tgt := 74) h dX12_laysStems_68 (by decide) (fun c => ?_) (fun c => ?_)
    · have hk := zOk_t c hk
      refine zr_aload_n h dX12_laysStems_74 0 rfl rfl ?_
      refine zr_getI h zfo_X12_322 lR_0 rfl dX12_laysStems_75 ?_
      refine zr_topi (fun x4_78 ex => ?_)
      have hk := zOk_bnd ex hk
      refine zr_istore (L' := [(0, zrf E 0), (1, .int x1), (4, .int x4_78)]) h [1, 2, 0] dX12_laysStems_78 (by decide) rfl ?_
      refine w_X12_laysStems_L80 h x1 (M, x4_78) (zOk_mono (zOk_bind hk) (fun e80 hk => ?_))
      refine zr_aload_n h dX12_laysStems_124 0 rfl rfl ?_
      refine zr_getR h zfo_X12_71 lR_0 rfl dX12_laysStems_125 ?_
      refine zr_iload h dX12_laysStems_128 2 rfl ?_
      refine zr_iload_n h dX12_laysStems_130 1 rfl rfl ?_
      have hb := zOk_chk hk
      have hk := hb.2
      refine zr_iast h lR_21 hb.1 dX12_laysStems_131 ?_
      refine zr_mem (fun M_131 eM => ?_)
      have hk := zOk_bnd eM hk
      refine zr_aload_n h dX12_laysStems_132 0 rfl rfl ?_
      refine zr_dup h dX12_laysStems_133 rfl ?_
      refine zr_getI h zfo_X12_322 lR_0 rfl dX12_laysStems_134 ?_
      refine zr_iconst (v := (zI 1)) h dX12_laysStems_137 rfl ?_
      refine zr_iadd h dX12_laysStems_138 ?_
      refine zr_putI h zfp_X12_322 lR_0 rfl dX12_laysStems_139 ?_
      refine zr_mem (fun M_139 eM => ?_)
      have hk := zOk_bnd eM hk
      obtain ⟨x1_142, ex⟩ : ∃ y : Int32, y = x1 + (zI 1) := ⟨_, rfl⟩
      have hk := zOk_bnd ex hk
      refine zr_iinc (v := x1_142) (L' := [(0, zrf E 0), (1, .int x1_142)]) h 1 [1, 0] dX12_laysStems_142 rfl (by rw [ex]; rfl) (by decide) rfl ?_
      refine zr_goto (tgt := 7) h dX12_laysStems_145 (by decide) ?_
      have hk := zOk_some hk
      exact zr_weak h [0, 1] rfl hk
    · have hk := zOk_f c hk
      refine zr_goto (tgt := 142) h dX12_laysStems_71 (by decide) ?_
      obtain ⟨x1_142, ex⟩ : ∃ y : Int32, y = x1 + (zI 1) := ⟨_, rfl⟩
      have hk := zOk_bnd ex hk
      refine zr_iinc (v := x1_142) (L' := [(0, zrf E 0), (1, .int x1_142)]) h 1 [1, 0] dX12_laysStems_142 rfl (by rw [ex]; rfl) (by decide) rfl ?_
      refine zr_goto (tgt := 7) h dX12_laysStems_145 (by decide) ?_
      have hk := zOk_some hk
      exact zr_weak h [0, 1] rfl hk
noncomputable def f_X12_laysStems_L7 (s : (ZMem × Int32)) : Option ((ZMem × Int32) ⊕ (ZMem)) := if (s.1.1 0 25) ≤ s.2 then some (.inr s.1) else zchk (zin s.2 241) (zbnd ((s.1.1 16 (zix s.2)) - (zI 1)) (fun x2_23 => zbind (f_X12_laysPiece s.1 s.2 x2_23) (fun M_27 => if (zI 2) ≤ x2_23 then zbind (f_X12_endingsOf M_27 x2_23) (fun r_41 => f_X12_laysStems_44_L7 M_27 s.2 x2_23 r_41) else f_X12_laysStems_44_L7 M_27 s.2 x2_23 (zI 0))))
set_option maxRecDepth 100000 in
set_option maxHeartbeats 4000000 in
theorem w_X12_laysStems_L7 {E : ZEv} {G : ZG} {K : ZMem → Prop} (h : zRu lyR E G (zRv K) cX12_laysStems RX12 5 none 1) (s : (ZMem × Int32)) (hk : zOk (zloop (f_X12_laysStems_L7) s) (fun e => G e 148 [] [])) : G s.1 7 [(0, zrf E 0), (1, .int s.2)] [] := by
  refine zloop_walk (P := fun s => G s.1 7 [(0, zrf E 0), (1, .int s.2)] []) hk (fun s hk => ?_)
  unfold f_X12_laysStems_L7 at hk
  refine zr_iload_n h dX12_laysStems_7 1 rfl rfl ?_
  refine zr_aload_n h dX12_laysStems_8 0 rfl rfl ?_
  refine zr_getI h zfo_X12_302 lR_0 rfl dX12_laysStems_9 ?_
  refine zr_icmp_ge (tgt := 148) h dX12_laysStems_12 (by decide) (fun c => ?_) (fun c => ?_)
  · have hk := zOk_t c hk
    have hk := zOk_some hk
    exact zr_weak h [] rfl hk
  · have hk := zOk_f c hk
    refine zr_aload_n h dX12_laysStems_15 0 rfl rfl ?_
    refine zr_getR h zfo_X12_56 lR_0 rfl dX12_laysStems_16 ?_
    refine zr_iload_n h dX12_laysStems_19 1 rfl rfl ?_
    have hb := zOk_chk hk
    have hk := hb.2
    refine zr_iald h lR_16 hb.1 dX12_laysStems_20 ?_
    refine zr_iconst (v := (zI 1)) h dX12_laysStems_21 rfl ?_
    refine zr_isub h dX12_laysStems_22 ?_
    refine zr_topi (fun x2_23 ex => ?_)
    have hk := zOk_bnd ex hk
    refine zr_istore_n (L' := [(0, zrf E 0), (1, .int s.2), (2, .int x2_23)]) h [1, 2, 0] dX12_laysStems_23 rfl (by decide) rfl ?_
    refine zr_aload_n h dX12_laysStems_24 0 rfl rfl ?_
    refine zr_iload_n h dX12_laysStems_25 1 rfl rfl ?_
    refine zr_iload_n h dX12_laysStems_26 2 rfl rfl ?_
    refine zr_callVv h lR_0 zcw_X12_325 (by decide) (c_X12_laysPiece E s.1 s.2 x2_23 _ (zOk_bind hk)) rfl rfl (Nat.le_of_ble_eq_true rfl) dX12_laysStems_27 (fun M_27 hk => ?_)
    refine zr_iload_n h dX12_laysStems_30 2 rfl rfl ?_
    refine zr_iconst (v := (zI 2)) h dX12_laysStems_31 rfl ?_
    refine zr_icmp_ge (tgt := 39) h dX12_laysStems_32 (by decide) (fun c => ?_) (fun c => ?_)
    · have hk := zOk_t c hk
      refine zr_aload_n h dX12_laysStems_39 0 rfl rfl ?_
      refine zr_iload_n h dX12_laysStems_40 2 rfl rfl ?_
      refine zr_callVp h lR_0 zcw_X12_328 (by decide) (c_X12_endingsOf E M_27 x2_23 _ (zOk_bind hk)) rfl rfl (Nat.le_of_ble_eq_true rfl) dX12_laysStems_41 (fun r_41 hk => ?_)
      exact w_X12_laysStems_44_L7 h M_27 s.2 x2_23 r_41 hk
    · have hk := zOk_f c hk
      refine zr_iconst (v := (zI 0)) h dX12_laysStems_35 rfl ?_
      refine zr_goto (tgt := 44) h dX12_laysStems_36 (by decide) ?_
      exact w_X12_laysStems_44_L7 h M_27 s.2 x2_23 (zI 0) hk
noncomputable def f_X12_laysStems (M : ZMem) : Option ZMem := zbnd (zstI M 0 32 (zI 0)) (fun M_2 => zbind (zloop (f_X12_laysStems_L7) (M_2, (zI 0))) (fun e7 => some e7))
set_option maxRecDepth 100000 in
set_option maxHeartbeats 4000000 in
theorem c_X12_laysStems (E : ZEv) (M : ZMem) (K : ZMem → Prop) (hk : zOk (f_X12_laysStems M) K) : zCon lyR E yX12_laysStems cX12_laysStems 5 none 1 [zrf E 0] M (zRv K) := by
  refine zcon_of (L0 := [(0, zrf E 0)]) (by decide) rfl (Nat.le_of_ble_eq_true rfl) (fun G h => ?_)
  have h : zRu lyR E G (zRv K) cX12_laysStems RX12 5 none 1 := h
  unfold f_X12_laysStems at hk
  refine zr_aload_n h dX12_laysStems_0 0 rfl rfl ?_
  refine zr_iconst (v := (zI 0)) h dX12_laysStems_1 rfl ?_
  refine zr_putI h zfp_X12_322 lR_0 rfl dX12_laysStems_2 ?_
  refine zr_mem (fun M_2 eM => ?_)
  have hk := zOk_bnd eM hk
  refine zr_iconst (v := (zI 0)) h dX12_laysStems_5 rfl ?_
  refine zr_istore_n (L' := [(0, zrf E 0), (1, .int (zI 0))]) h [1, 0] dX12_laysStems_6 rfl (by decide) rfl ?_
  refine w_X12_laysStems_L7 h (M_2, (zI 0)) (zOk_mono (zOk_bind hk) (fun e7 hk => ?_))
  have hk := zOk_some hk
  exact zr_vret h dX12_laysStems_148 ⟨rfl, hk⟩
