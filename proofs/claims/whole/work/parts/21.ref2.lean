theorem dX12_undo_0 : decode cX12_undo 0 = .ok (.aload_n 0, 1) := by decide +kernel
theorem dX12_undo_1 : decode cX12_undo 1 = .ok (.getfield 181, 3) := by decide +kernel
theorem dX12_undo_4 : decode cX12_undo 4 = .ok (.ifCond .ne 5, 3) := by decide +kernel
theorem dX12_undo_7 : decode cX12_undo 7 = .ok (.iconst (-1), 1) := by decide +kernel
theorem dX12_undo_8 : decode cX12_undo 8 = .ok (.ireturn, 1) := by decide +kernel
theorem dX12_undo_9 : decode cX12_undo 9 = .ok (.aload_n 0, 1) := by decide +kernel
theorem dX12_undo_10 : decode cX12_undo 10 = .ok (.dup, 1) := by decide +kernel
theorem dX12_undo_11 : decode cX12_undo 11 = .ok (.getfield 181, 3) := by decide +kernel
theorem dX12_undo_14 : decode cX12_undo 14 = .ok (.iconst 1, 1) := by decide +kernel
theorem dX12_undo_15 : decode cX12_undo 15 = .ok (.isub, 1) := by decide +kernel
theorem dX12_undo_16 : decode cX12_undo 16 = .ok (.putfield 181, 3) := by decide +kernel
theorem dX12_undo_19 : decode cX12_undo 19 = .ok (.iconst 0, 1) := by decide +kernel
theorem dX12_undo_20 : decode cX12_undo 20 = .ok (.istore_n 1, 1) := by decide +kernel
theorem dX12_undo_21 : decode cX12_undo 21 = .ok (.iload_n 1, 1) := by decide +kernel
theorem dX12_undo_22 : decode cX12_undo 22 = .ok (.sipush 460, 3) := by decide +kernel
theorem dX12_undo_25 : decode cX12_undo 25 = .ok (.if_icmp .ge 30, 3) := by decide +kernel
theorem dX12_undo_28 : decode cX12_undo 28 = .ok (.aload_n 0, 1) := by decide +kernel
theorem dX12_undo_29 : decode cX12_undo 29 = .ok (.getfield 35, 3) := by decide +kernel
theorem dX12_undo_32 : decode cX12_undo 32 = .ok (.iload_n 1, 1) := by decide +kernel
theorem dX12_undo_33 : decode cX12_undo 33 = .ok (.aload_n 0, 1) := by decide +kernel
theorem dX12_undo_34 : decode cX12_undo 34 = .ok (.getfield 38, 3) := by decide +kernel
theorem dX12_undo_37 : decode cX12_undo 37 = .ok (.sipush 460, 3) := by decide +kernel
theorem dX12_undo_40 : decode cX12_undo 40 = .ok (.aload_n 0, 1) := by decide +kernel
theorem dX12_undo_41 : decode cX12_undo 41 = .ok (.getfield 181, 3) := by decide +kernel
theorem dX12_undo_44 : decode cX12_undo 44 = .ok (.imul, 1) := by decide +kernel
theorem dX12_undo_45 : decode cX12_undo 45 = .ok (.iload_n 1, 1) := by decide +kernel
theorem dX12_undo_46 : decode cX12_undo 46 = .ok (.iadd, 1) := by decide +kernel
theorem dX12_undo_47 : decode cX12_undo 47 = .ok (.iaload, 1) := by decide +kernel
theorem dX12_undo_48 : decode cX12_undo 48 = .ok (.iastore, 1) := by decide +kernel
theorem dX12_undo_49 : decode cX12_undo 49 = .ok (.iinc 1 1, 3) := by decide +kernel
theorem dX12_undo_52 : decode cX12_undo 52 = .ok (.goto (-31), 3) := by decide +kernel
theorem dX12_undo_55 : decode cX12_undo 55 = .ok (.aload_n 0, 1) := by decide +kernel
theorem dX12_undo_56 : decode cX12_undo 56 = .ok (.iconst 0, 1) := by decide +kernel
theorem dX12_undo_57 : decode cX12_undo 57 = .ok (.putfield 184, 3) := by decide +kernel
theorem dX12_undo_60 : decode cX12_undo 60 = .ok (.aload_n 0, 1) := by decide +kernel
theorem dX12_undo_61 : decode cX12_undo 61 = .ok (.getfield 181, 3) := by decide +kernel
theorem dX12_undo_64 : decode cX12_undo 64 = .ok (.ireturn, 1) := by decide +kernel
noncomputable def f_X12_undo_L21 (s : (ZMem × Int32)) : Option ((ZMem × Int32) ⊕ (ZMem)) := if (zI 460) ≤ s.2 then some (.inr s.1) else zchk (zin (((zI 460) * (s.1.1 0 17)) + s.2) 9200) (zchk (zin s.2 460) (zbnd (zstI s.1 9 (zix s.2) (s.1.1 10 (zix (((zI 460) * (s.1.1 0 17)) + s.2)))) (fun M_48 => zbnd (s.2 + (zI 1)) (fun x1_49 => some (.inl (M_48, x1_49))))))
set_option maxRecDepth 100000 in
set_option maxHeartbeats 4000000 in
theorem w_X12_undo_L21 {E : ZEv} {G : ZG} {K : (ZMem × Int32) → Prop} (h : zRu lyR E G (zRm K) cX12_undo RX12 2 (some .int) 0) (s : (ZMem × Int32)) (hk : zOk (zloop (f_X12_undo_L21) s) (fun e => G e 55 [(0, zrf E 0)] [])) : G s.1 21 [(0, zrf E 0), (1, .int s.2)] [] := by
  refine zloop_walk (P := fun s => G s.1 21 [(0, zrf E 0), (1, .int s.2)] []) hk (fun s hk => ?_)
  unfold f_X12_undo_L21 at hk
  refine zr_iload_n h dX12_undo_21 1 rfl rfl ?_
  refine zr_sipush (v := (zI 460)) h dX12_undo_22 (by decide) ?_
  refine zr_icmp_ge (tgt := 55) h dX12_undo_25 (by decide) (fun c => ?_) (fun c => ?_)
  · have hk := zOk_t c hk
    have hk := zOk_some hk
    exact zr_weak h [0] rfl hk
  · have hk := zOk_f c hk
    refine zr_aload_n h dX12_undo_28 0 rfl rfl ?_
    refine zr_getR h zfo_X12_35 lR_0 rfl dX12_undo_29 ?_
    refine zr_iload_n h dX12_undo_32 1 rfl rfl ?_
    refine zr_aload_n h dX12_undo_33 0 rfl rfl ?_
    refine zr_getR h zfo_X12_38 lR_0 rfl dX12_undo_34 ?_
    refine zr_sipush (v := (zI 460)) h dX12_undo_37 (by decide) ?_
    refine zr_aload_n h dX12_undo_40 0 rfl rfl ?_
    refine zr_getI h zfo_X12_181 lR_0 rfl dX12_undo_41 ?_
    refine zr_imul h dX12_undo_44 ?_
    refine zr_iload_n h dX12_undo_45 1 rfl rfl ?_
    refine zr_iadd h dX12_undo_46 ?_
    have hb := zOk_chk hk
    have hk := hb.2
    refine zr_iald h lR_10 hb.1 dX12_undo_47 ?_
    have hb := zOk_chk hk
    have hk := hb.2
    refine zr_iast h lR_9 hb.1 dX12_undo_48 ?_
    refine zr_mem (fun M_48 eM => ?_)
    have hk := zOk_bnd eM hk
    obtain ⟨x1_49, ex⟩ : ∃ y : Int32, y = s.2 + (zI 1) := ⟨_, rfl⟩
    have hk := zOk_bnd ex hk
    refine zr_iinc (v := x1_49) (L' := [(0, zrf E 0), (1, .int x1_49)]) h 1 [1, 0] dX12_undo_49 rfl (by rw [ex]; rfl) (by decide) rfl ?_
    refine zr_goto (tgt := 21) h dX12_undo_52 (by decide) ?_
    have hk := zOk_some hk
    exact zr_weak h [0, 1] rfl hk
noncomputable def f_X12_undo (M : ZMem) : Option (ZMem × Int32) := if (M.1 0 17) = (zI 0) then some (M, (zI (-1))) else zbnd (zstI M 0 17 ((M.1 0 17) - (zI 1))) (fun M_16 => zbind (zloop (f_X12_undo_L21) (M_16, (zI 0))) (fun e21 => zbnd (zstI e21 0 45 (zI 0)) (fun M_57 => some (M_57, (M_57.1 0 17)))))
set_option maxRecDepth 100000 in
set_option maxHeartbeats 4000000 in
theorem c_X12_undo (E : ZEv) (M : ZMem) (K : ZMem × Int32 → Prop) (hk : zOk (f_X12_undo M) K) : zCon lyR E yX12_undo cX12_undo 2 (some .int) 0 [zrf E 0] M (zRm K) := by
  refine zcon_of (L0 := [(0, zrf E 0)]) (by decide) rfl (Nat.le_of_ble_eq_true rfl) (fun G h => ?_)
  have h : zRu lyR E G (zRm K) cX12_undo RX12 2 (some .int) 0 := h
  unfold f_X12_undo at hk
  refine zr_aload_n h dX12_undo_0 0 rfl rfl ?_
  refine zr_getI h zfo_X12_181 lR_0 rfl dX12_undo_1 ?_
  refine zr_if_ne (tgt := 9) h dX12_undo_4 (by decide) (fun c => ?_) (fun c => ?_)
  · have hk := zOk_t c hk
    refine zr_iconst (v := (zI (-1))) h dX12_undo_7 rfl ?_
    have hk := zOk_some hk
    exact zr_iret h dX12_undo_8 ⟨_, rfl, hk⟩
  · have hk := zOk_f c hk
    refine zr_aload_n h dX12_undo_9 0 rfl rfl ?_
    refine zr_dup h dX12_undo_10 rfl ?_
    refine zr_getI h zfo_X12_181 lR_0 rfl dX12_undo_11 ?_
    refine zr_iconst (v := (zI 1)) h dX12_undo_14 rfl ?_
    refine zr_isub h dX12_undo_15 ?_
    refine zr_putI h zfp_X12_181 lR_0 rfl dX12_undo_16 ?_
    refine zr_mem (fun M_16 eM => ?_)
    have hk := zOk_bnd eM hk
    refine zr_iconst (v := (zI 0)) h dX12_undo_19 rfl ?_
    refine zr_istore_n (L' := [(0, zrf E 0), (1, .int (zI 0))]) h [1, 0] dX12_undo_20 rfl (by decide) rfl ?_
    refine w_X12_undo_L21 h (M_16, (zI 0)) (zOk_mono (zOk_bind hk) (fun e21 hk => ?_))
    refine zr_aload_n h dX12_undo_55 0 rfl rfl ?_
    refine zr_iconst (v := (zI 0)) h dX12_undo_56 rfl ?_
    refine zr_putZ h zfp_X12_184 lR_0 rfl (by decide) dX12_undo_57 ?_
    refine zr_mem (fun M_57 eM => ?_)
    have hk := zOk_bnd eM hk
    refine zr_aload_n h dX12_undo_60 0 rfl rfl ?_
    refine zr_getI h zfo_X12_181 lR_0 rfl dX12_undo_61 ?_
    have hk := zOk_some hk
    exact zr_iret h dX12_undo_64 ⟨_, rfl, hk⟩
theorem dX12_changes_0 : decode cX12_changes 0 = .ok (.iload_n 2, 1) := by decide +kernel
theorem dX12_changes_1 : decode cX12_changes 1 = .ok (.iload_n 3, 1) := by decide +kernel
theorem dX12_changes_2 : decode cX12_changes 2 = .ok (.iload 4, 2) := by decide +kernel
theorem dX12_changes_4 : decode cX12_changes 4 = .ok (.invokestatic 123, 3) := by decide +kernel
theorem dX12_changes_7 : decode cX12_changes 7 = .ok (.ifCond .eq 13, 3) := by decide +kernel
theorem dX12_changes_10 : decode cX12_changes 10 = .ok (.aload_n 0, 1) := by decide +kernel
theorem dX12_changes_11 : decode cX12_changes 11 = .ok (.getfield 35, 3) := by decide +kernel
theorem dX12_changes_14 : decode cX12_changes 14 = .ok (.iload_n 1, 1) := by decide +kernel
theorem dX12_changes_15 : decode cX12_changes 15 = .ok (.iaload, 1) := by decide +kernel
theorem dX12_changes_16 : decode cX12_changes 16 = .ok (.iload_n 2, 1) := by decide +kernel
theorem dX12_changes_17 : decode cX12_changes 17 = .ok (.if_icmp .ne 5, 3) := by decide +kernel
theorem dX12_changes_20 : decode cX12_changes 20 = .ok (.iconst (-1), 1) := by decide +kernel
theorem dX12_changes_21 : decode cX12_changes 21 = .ok (.ireturn, 1) := by decide +kernel
theorem dX12_changes_22 : decode cX12_changes 22 = .ok (.aload_n 0, 1) := by decide +kernel
theorem dX12_changes_23 : decode cX12_changes 23 = .ok (.invokevirtual 214, 3) := by decide +kernel
theorem dX12_changes_26 : decode cX12_changes 26 = .ok (.aload_n 0, 1) := by decide +kernel
theorem dX12_changes_27 : decode cX12_changes 27 = .ok (.getfield 35, 3) := by decide +kernel
theorem dX12_changes_30 : decode cX12_changes 30 = .ok (.iload_n 1, 1) := by decide +kernel
theorem dX12_changes_31 : decode cX12_changes 31 = .ok (.iaload, 1) := by decide +kernel
theorem dX12_changes_32 : decode cX12_changes 32 = .ok (.istore 5, 2) := by decide +kernel
theorem dX12_changes_34 : decode cX12_changes 34 = .ok (.aload_n 0, 1) := by decide +kernel
theorem dX12_changes_35 : decode cX12_changes 35 = .ok (.getfield 35, 3) := by decide +kernel
theorem dX12_changes_38 : decode cX12_changes 38 = .ok (.iload_n 1, 1) := by decide +kernel
theorem dX12_changes_39 : decode cX12_changes 39 = .ok (.iload_n 2, 1) := by decide +kernel
theorem dX12_changes_40 : decode cX12_changes 40 = .ok (.iastore, 1) := by decide +kernel
theorem dX12_changes_41 : decode cX12_changes 41 = .ok (.iload 5, 2) := by decide +kernel
theorem dX12_changes_43 : decode cX12_changes 43 = .ok (.ireturn, 1) := by decide +kernel
noncomputable def f_X12_changes (M : ZMem) (x1 : Int32) (x2 : Int32) (x3 : Int32) (x4 : Int32) : Option (ZMem × Int32) := zbind (f_X12_in M x2 x3 x4) (fun r_4 => if r_4 = (zI 0) then some (M, (zI (-1))) else zchk (zin x1 460) (if (M.1 9 (zix x1)) = x2 then some (M, (zI (-1))) else zbind (f_X12_remembers M) (fun M_23 => zchk (zin x1 460) (zbnd (M_23.1 9 (zix x1)) (fun x5_32 => zchk (zin x1 460) (zbnd (zstI M_23 9 (zix x1) x2) (fun M_40 => some (M_40, x5_32))))))))
set_option maxRecDepth 100000 in
set_option maxHeartbeats 4000000 in
theorem c_X12_changes (E : ZEv) (M : ZMem) (x1 : Int32) (x2 : Int32) (x3 : Int32) (x4 : Int32) (K : ZMem × Int32 → Prop) (hk : zOk (f_X12_changes M x1 x2 x3 x4) K) : zCon lyR E yX12_changes cX12_changes 6 (some .int) 1 [zrf E 0, .int x1, .int x2, .int x3, .int x4] M (zRm K) := by
  refine zcon_of (L0 := [(0, zrf E 0), (1, .int x1), (2, .int x2), (3, .int x3), (4, .int x4)]) (by decide) rfl (Nat.le_of_ble_eq_true rfl) (fun G h => ?_)
  have h : zRu lyR E G (zRm K) cX12_changes RX12 6 (some .int) 1 := h
  unfold f_X12_changes at hk
  refine zr_iload_n h dX12_changes_0 2 rfl rfl ?_
  refine zr_iload_n h dX12_changes_1 3 rfl rfl ?_
  refine zr_iload h dX12_changes_2 4 rfl ?_
  refine zr_callSp h zcw_X12_123 (by decide) (c_X12_in E M x2 x3 x4 _ (zOk_bind hk)) rfl rfl (Nat.le_of_ble_eq_true rfl) dX12_changes_4 (fun r_4 hk => ?_)
  refine zr_if_eq (tgt := 20) h dX12_changes_7 (by decide) (fun c => ?_) (fun c => ?_)
  · have hk := zOk_t c hk
    refine zr_iconst (v := (zI (-1))) h dX12_changes_20 rfl ?_
    have hk := zOk_some hk
    exact zr_iret h dX12_changes_21 ⟨_, rfl, hk⟩
  · have hk := zOk_f c hk
    refine zr_aload_n h dX12_changes_10 0 rfl rfl ?_
    refine zr_getR h zfo_X12_35 lR_0 rfl dX12_changes_11 ?_
    refine zr_iload_n h dX12_changes_14 1 rfl rfl ?_
    have hb := zOk_chk hk
    have hk := hb.2
    refine zr_iald h lR_9 hb.1 dX12_changes_15 ?_
    refine zr_iload_n h dX12_changes_16 2 rfl rfl ?_
    refine zr_icmp_ne (tgt := 22) h dX12_changes_17 (by decide) (fun c => ?_) (fun c => ?_)
    · have hk := zOk_t c hk
      refine zr_iconst (v := (zI (-1))) h dX12_changes_20 rfl ?_
      have hk := zOk_some hk
      exact zr_iret h dX12_changes_21 ⟨_, rfl, hk⟩
    · have hk := zOk_f c hk
      refine zr_aload_n h dX12_changes_22 0 rfl rfl ?_
      refine zr_callVv h lR_0 zcw_X12_214 (by decide) (c_X12_remembers E M _ (zOk_bind hk)) rfl rfl (Nat.le_of_ble_eq_true rfl) dX12_changes_23 (fun M_23 hk => ?_)
      refine zr_aload_n h dX12_changes_26 0 rfl rfl ?_
      refine zr_getR h zfo_X12_35 lR_0 rfl dX12_changes_27 ?_
      refine zr_iload_n h dX12_changes_30 1 rfl rfl ?_
      have hb := zOk_chk hk
      have hk := hb.2
      refine zr_iald h lR_9 hb.1 dX12_changes_31 ?_
      refine zr_topi (fun x5_32 ex => ?_)
      have hk := zOk_bnd ex hk
      refine zr_istore (L' := [(0, zrf E 0), (1, .int x1), (2, .int x2), (5, .int x5_32)]) h [1, 2, 3, 0] dX12_changes_32 (by decide) rfl ?_
      refine zr_aload_n h dX12_changes_34 0 rfl rfl ?_
      refine zr_getR h zfo_X12_35 lR_0 rfl dX12_changes_35 ?_
      refine zr_iload_n h dX12_changes_38 1 rfl rfl ?_
      refine zr_iload_n h dX12_changes_39 2 rfl rfl ?_
      have hb := zOk_chk hk
      have hk := hb.2
      refine zr_iast h lR_9 hb.1 dX12_changes_40 ?_
      refine zr_mem (fun M_40 eM => ?_)
      have hk := zOk_bnd eM hk
      refine zr_iload h dX12_changes_41 3 rfl ?_
      have hk := zOk_some hk
      exact zr_iret h dX12_changes_43 ⟨_, rfl, hk⟩
theorem dX12_loose_0 : decode cX12_loose 0 = .ok (.aload_n 0, 1) := by decide +kernel
theorem dX12_loose_1 : decode cX12_loose 1 = .ok (.iconst 0, 1) := by decide +kernel
theorem dX12_loose_2 : decode cX12_loose 2 = .ok (.iload_n 1, 1) := by decide +kernel
theorem dX12_loose_3 : decode cX12_loose 3 = .ok (.iconst 0, 1) := by decide +kernel
theorem dX12_loose_4 : decode cX12_loose 4 = .ok (.bipush 25, 2) := by decide +kernel
theorem dX12_loose_6 : decode cX12_loose 6 = .ok (.invokevirtual 217, 3) := by decide +kernel
theorem dX12_loose_9 : decode cX12_loose 9 = .ok (.ireturn, 1) := by decide +kernel
noncomputable def f_X12_loose (M : ZMem) (x1 : Int32) : Option (ZMem × Int32) := zbind (f_X12_changes M (zI 0) x1 (zI 0) (zI 25)) (fun r_6 => some (r_6.1, r_6.2))
set_option maxRecDepth 100000 in
set_option maxHeartbeats 4000000 in
theorem c_X12_loose (E : ZEv) (M : ZMem) (x1 : Int32) (K : ZMem × Int32 → Prop) (hk : zOk (f_X12_loose M x1) K) : zCon lyR E yX12_loose cX12_loose 2 (some .int) 2 [zrf E 0, .int x1] M (zRm K) := by
  refine zcon_of (L0 := [(0, zrf E 0), (1, .int x1)]) (by decide) rfl (Nat.le_of_ble_eq_true rfl) (fun G h => ?_)
  have h : zRu lyR E G (zRm K) cX12_loose RX12 2 (some .int) 2 := h
  unfold f_X12_loose at hk
  refine zr_aload_n h dX12_loose_0 0 rfl rfl ?_
  refine zr_iconst (v := (zI 0)) h dX12_loose_1 rfl ?_
  refine zr_iload_n h dX12_loose_2 1 rfl rfl ?_
  refine zr_iconst (v := (zI 0)) h dX12_loose_3 rfl ?_
  refine zr_bipush (v := (zI 25)) h dX12_loose_4 (by decide) ?_
  refine zr_callVm h lR_0 zcw_X12_217 (by decide) (c_X12_changes E M (zI 0) x1 (zI 0) (zI 25) _ (zOk_bind hk)) rfl rfl (Nat.le_of_ble_eq_true rfl) dX12_loose_6 (fun r_6 hk => ?_)
  have hk := zOk_some hk
  exact zr_iret h dX12_loose_9 ⟨_, rfl, hk⟩
theorem dX12_way_0 : decode cX12_way 0 = .ok (.aload_n 0, 1) := by decide +kernel
theorem dX12_way_1 : decode cX12_way 1 = .ok (.iconst 1, 1) := by decide +kernel
theorem dX12_way_2 : decode cX12_way 2 = .ok (.iload_n 1, 1) := by decide +kernel
theorem dX12_way_3 : decode cX12_way 3 = .ok (.iconst 0, 1) := by decide +kernel
theorem dX12_way_4 : decode cX12_way 4 = .ok (.iconst 3, 1) := by decide +kernel
theorem dX12_way_5 : decode cX12_way 5 = .ok (.invokevirtual 217, 3) := by decide +kernel
theorem dX12_way_8 : decode cX12_way 8 = .ok (.ireturn, 1) := by decide +kernel
noncomputable def f_X12_way (M : ZMem) (x1 : Int32) : Option (ZMem × Int32) := zbind (f_X12_changes M (zI 1) x1 (zI 0) (zI 3)) (fun r_5 => some (r_5.1, r_5.2))
set_option maxRecDepth 100000 in
set_option maxHeartbeats 4000000 in
theorem c_X12_way (E : ZEv) (M : ZMem) (x1 : Int32) (K : ZMem × Int32 → Prop) (hk : zOk (f_X12_way M x1) K) : zCon lyR E yX12_way cX12_way 2 (some .int) 2 [zrf E 0, .int x1] M (zRm K) := by
  refine zcon_of (L0 := [(0, zrf E 0), (1, .int x1)]) (by decide) rfl (Nat.le_of_ble_eq_true rfl) (fun G h => ?_)
  have h : zRu lyR E G (zRm K) cX12_way RX12 2 (some .int) 2 := h
  unfold f_X12_way at hk
  refine zr_aload_n h dX12_way_0 0 rfl rfl ?_
  refine zr_iconst (v := (zI 1)) h dX12_way_1 rfl ?_
  refine zr_iload_n h dX12_way_2 1 rfl rfl ?_
  refine zr_iconst (v := (zI 0)) h dX12_way_3 rfl ?_
  refine zr_iconst (v := (zI 3)) h dX12_way_4 rfl ?_
  refine zr_callVm h lR_0 zcw_X12_217 (by decide) (c_X12_changes E M (zI 1) x1 (zI 0) (zI 3) _ (zOk_bind hk)) rfl rfl (Nat.le_of_ble_eq_true rfl) dX12_way_5 (fun r_5 hk => ?_)
  have hk := zOk_some hk
  exact zr_iret h dX12_way_8 ⟨_, rfl, hk⟩
theorem dX12_rise_0 : decode cX12_rise 0 = .ok (.aload_n 0, 1) := by decide +kernel
theorem dX12_rise_1 : decode cX12_rise 1 = .ok (.iconst 2, 1) := by decide +kernel
theorem dX12_rise_2 : decode cX12_rise 2 = .ok (.iload_n 1, 1) := by decide +kernel
theorem dX12_rise_3 : decode cX12_rise 3 = .ok (.iconst 1, 1) := by decide +kernel
theorem dX12_rise_4 : decode cX12_rise 4 = .ok (.bipush 9, 2) := by decide +kernel
theorem dX12_rise_6 : decode cX12_rise 6 = .ok (.invokevirtual 217, 3) := by decide +kernel
theorem dX12_rise_9 : decode cX12_rise 9 = .ok (.ireturn, 1) := by decide +kernel
noncomputable def f_X12_rise (M : ZMem) (x1 : Int32) : Option (ZMem × Int32) := zbind (f_X12_changes M (zI 2) x1 (zI 1) (zI 9)) (fun r_6 => some (r_6.1, r_6.2))
set_option maxRecDepth 100000 in
set_option maxHeartbeats 4000000 in
theorem c_X12_rise (E : ZEv) (M : ZMem) (x1 : Int32) (K : ZMem × Int32 → Prop) (hk : zOk (f_X12_rise M x1) K) : zCon lyR E yX12_rise cX12_rise 2 (some .int) 2 [zrf E 0, .int x1] M (zRm K) := by
  refine zcon_of (L0 := [(0, zrf E 0), (1, .int x1)]) (by decide) rfl (Nat.le_of_ble_eq_true rfl) (fun G h => ?_)
  have h : zRu lyR E G (zRm K) cX12_rise RX12 2 (some .int) 2 := h
  unfold f_X12_rise at hk
  refine zr_aload_n h dX12_rise_0 0 rfl rfl ?_
  refine zr_iconst (v := (zI 2)) h dX12_rise_1 rfl ?_
  refine zr_iload_n h dX12_rise_2 1 rfl rfl ?_
  refine zr_iconst (v := (zI 1)) h dX12_rise_3 rfl ?_
  refine zr_bipush (v := (zI 9)) h dX12_rise_4 (by decide) ?_
  refine zr_callVm h lR_0 zcw_X12_217 (by decide) (c_X12_changes E M (zI 2) x1 (zI 1) (zI 9) _ (zOk_bind hk)) rfl rfl (Nat.le_of_ble_eq_true rfl) dX12_rise_6 (fun r_6 hk => ?_)
  have hk := zOk_some hk
  exact zr_iret h dX12_rise_9 ⟨_, rfl, hk⟩
theorem dX12_isForm_0 : decode cX12_isForm 0 = .ok (.iload_n 1, 1) := by decide +kernel
theorem dX12_isForm_1 : decode cX12_isForm 1 = .ok (.iconst 0, 1) := by decide +kernel
theorem dX12_isForm_2 : decode cX12_isForm 2 = .ok (.aload_n 0, 1) := by decide +kernel
theorem dX12_isForm_3 : decode cX12_isForm 3 = .ok (.getfield 162, 3) := by decide +kernel
theorem dX12_isForm_6 : decode cX12_isForm 6 = .ok (.iconst 1, 1) := by decide +kernel
theorem dX12_isForm_7 : decode cX12_isForm 7 = .ok (.isub, 1) := by decide +kernel
theorem dX12_isForm_8 : decode cX12_isForm 8 = .ok (.invokestatic 123, 3) := by decide +kernel
theorem dX12_isForm_11 : decode cX12_isForm 11 = .ok (.ireturn, 1) := by decide +kernel
noncomputable def f_X12_isForm (M : ZMem) (x1 : Int32) : Option Int32 := zbind (f_X12_in M x1 (zI 0) ((M.1 0 4) - (zI 1))) (fun r_8 => zchk (zisB r_8) (some r_8))
set_option maxRecDepth 100000 in
set_option maxHeartbeats 4000000 in
theorem c_X12_isForm (E : ZEv) (M : ZMem) (x1 : Int32) (K : Int32 → Prop) (hk : zOk (f_X12_isForm M x1) K) : zCon lyR E yX12_isForm cX12_isForm 2 (some .boolean) 1 [zrf E 0, .int x1] M (zRp M K) := by
  refine zcon_of (L0 := [(0, zrf E 0), (1, .int x1)]) (by decide) rfl (Nat.le_of_ble_eq_true rfl) (fun G h => ?_)
  have h : zRu lyR E G (zRp M K) cX12_isForm RX12 2 (some .boolean) 1 := h
  unfold f_X12_isForm at hk
  refine zr_iload_n h dX12_isForm_0 1 rfl rfl ?_
  refine zr_iconst (v := (zI 0)) h dX12_isForm_1 rfl ?_
  refine zr_aload_n h dX12_isForm_2 0 rfl rfl ?_
  refine zr_getI h zfo_X12_162 lR_0 rfl dX12_isForm_3 ?_
  refine zr_iconst (v := (zI 1)) h dX12_isForm_6 rfl ?_
  refine zr_isub h dX12_isForm_7 ?_
  refine zr_callSp h zcw_X12_123 (by decide) (c_X12_in E M x1 (zI 0) ((M.1 0 4) - (zI 1)) _ (zOk_bind hk)) rfl rfl (Nat.le_of_ble_eq_true rfl) dX12_isForm_8 (fun r_8 hk => ?_)
  have hb := zOk_chk hk
  have hk := hb.2
  have hk := zOk_some hk
  exact zr_zret h dX12_isForm_11 hb.1 ⟨rfl, _, rfl, hk⟩
theorem dX12_twoAt_0 : decode cX12_twoAt 0 = .ok (.bipush 24, 2) := by decide +kernel
theorem dX12_twoAt_2 : decode cX12_twoAt 2 = .ok (.bipush 20, 2) := by decide +kernel
theorem dX12_twoAt_4 : decode cX12_twoAt 4 = .ok (.iload_n 0, 1) := by decide +kernel
theorem dX12_twoAt_5 : decode cX12_twoAt 5 = .ok (.iload_n 1, 1) := by decide +kernel
theorem dX12_twoAt_6 : decode cX12_twoAt 6 = .ok (.invokestatic 138, 3) := by decide +kernel
theorem dX12_twoAt_9 : decode cX12_twoAt 9 = .ok (.imul, 1) := by decide +kernel
theorem dX12_twoAt_10 : decode cX12_twoAt 10 = .ok (.iadd, 1) := by decide +kernel
theorem dX12_twoAt_11 : decode cX12_twoAt 11 = .ok (.iload_n 0, 1) := by decide +kernel
theorem dX12_twoAt_12 : decode cX12_twoAt 12 = .ok (.iload_n 1, 1) := by decide +kernel
theorem dX12_twoAt_13 : decode cX12_twoAt 13 = .ok (.invokestatic 221, 3) := by decide +kernel
theorem dX12_twoAt_16 : decode cX12_twoAt 16 = .ok (.iadd, 1) := by decide +kernel
theorem dX12_twoAt_17 : decode cX12_twoAt 17 = .ok (.ireturn, 1) := by decide +kernel
noncomputable def f_X12_twoAt (M : ZMem) (x0 : Int32) (x1 : Int32) : Option Int32 := some (((zI 24) + ((zI 20) * (if x1 < x0 then x1 else x0))) + (if x0 < x1 then x1 else x0))
set_option maxRecDepth 100000 in
set_option maxHeartbeats 4000000 in
theorem c_X12_twoAt (E : ZEv) (M : ZMem) (x0 : Int32) (x1 : Int32) (K : Int32 → Prop) (hk : zOk (f_X12_twoAt M x0 x1) K) : zCon lyR E yX12_twoAt cX12_twoAt 2 (some .int) 0 [.int x0, .int x1] M (zRp M K) := by
  refine zcon_of (L0 := [(0, .int x0), (1, .int x1)]) (by decide) rfl (Nat.le_of_ble_eq_true rfl) (fun G h => ?_)
  have h : zRu lyR E G (zRp M K) cX12_twoAt RX12 2 (some .int) 0 := h
  unfold f_X12_twoAt at hk
  refine zr_bipush (v := (zI 24)) h dX12_twoAt_0 (by decide) ?_
  refine zr_bipush (v := (zI 20)) h dX12_twoAt_2 (by decide) ?_
  refine zr_iload_n h dX12_twoAt_4 0 rfl rfl ?_
  refine zr_iload_n h dX12_twoAt_5 1 rfl rfl ?_
  refine zr_mmin h (zm_15 _ (List.mem_of_getElem? (i := 21) rfl)) (zm_12 _ (List.mem_of_getElem? (i := 11) rfl)) (zm_12 _ (List.mem_of_getElem? (i := 12) rfl)) (zm_12 _ (List.mem_of_getElem? (i := 13) rfl)) (Nat.le_of_ble_eq_true rfl) dX12_twoAt_6 ?_
  refine zr_imul h dX12_twoAt_9 ?_
  refine zr_iadd h dX12_twoAt_10 ?_
  refine zr_iload_n h dX12_twoAt_11 0 rfl rfl ?_
  refine zr_iload_n h dX12_twoAt_12 1 rfl rfl ?_
  refine zr_mmax h (zm_35 _ (List.mem_of_getElem? (i := 23) rfl)) (zm_13 _ (List.mem_of_getElem? (i := 10) rfl)) (zm_12 _ (List.mem_of_getElem? (i := 12) rfl)) (zm_13 _ (List.mem_of_getElem? (i := 11) rfl)) (Nat.le_of_ble_eq_true rfl) dX12_twoAt_13 ?_
  refine zr_iadd h dX12_twoAt_16 ?_
  have hk := zOk_some hk
  exact zr_iret h dX12_twoAt_17 ⟨rfl, _, rfl, hk⟩
theorem dX12_tellsTwo_0 : decode cX12_tellsTwo 0 = .ok (.aload_n 0, 1) := by decide +kernel
theorem dX12_tellsTwo_1 : decode cX12_tellsTwo 1 = .ok (.iload_n 1, 1) := by decide +kernel
theorem dX12_tellsTwo_2 : decode cX12_tellsTwo 2 = .ok (.invokevirtual 224, 3) := by decide +kernel
theorem dX12_tellsTwo_5 : decode cX12_tellsTwo 5 = .ok (.ifCond .eq 40, 3) := by decide +kernel
theorem dX12_tellsTwo_8 : decode cX12_tellsTwo 8 = .ok (.aload_n 0, 1) := by decide +kernel
theorem dX12_tellsTwo_9 : decode cX12_tellsTwo 9 = .ok (.iload_n 2, 1) := by decide +kernel
theorem dX12_tellsTwo_10 : decode cX12_tellsTwo 10 = .ok (.invokevirtual 224, 3) := by decide +kernel
theorem dX12_tellsTwo_13 : decode cX12_tellsTwo 13 = .ok (.ifCond .eq 32, 3) := by decide +kernel
theorem dX12_tellsTwo_16 : decode cX12_tellsTwo 16 = .ok (.iload_n 1, 1) := by decide +kernel
theorem dX12_tellsTwo_17 : decode cX12_tellsTwo 17 = .ok (.iload_n 2, 1) := by decide +kernel
theorem dX12_tellsTwo_18 : decode cX12_tellsTwo 18 = .ok (.if_icmp .eq 27, 3) := by decide +kernel
theorem dX12_tellsTwo_21 : decode cX12_tellsTwo 21 = .ok (.aload_n 0, 1) := by decide +kernel
theorem dX12_tellsTwo_22 : decode cX12_tellsTwo 22 = .ok (.getfield 35, 3) := by decide +kernel
theorem dX12_tellsTwo_25 : decode cX12_tellsTwo 25 = .ok (.iload_n 1, 1) := by decide +kernel
theorem dX12_tellsTwo_26 : decode cX12_tellsTwo 26 = .ok (.iload_n 2, 1) := by decide +kernel
theorem dX12_tellsTwo_27 : decode cX12_tellsTwo 27 = .ok (.invokestatic 228, 3) := by decide +kernel
theorem dX12_tellsTwo_30 : decode cX12_tellsTwo 30 = .ok (.iaload, 1) := by decide +kernel
theorem dX12_tellsTwo_31 : decode cX12_tellsTwo 31 = .ok (.iload_n 3, 1) := by decide +kernel
theorem dX12_tellsTwo_32 : decode cX12_tellsTwo 32 = .ok (.if_icmp .ne 7, 3) := by decide +kernel
theorem dX12_tellsTwo_35 : decode cX12_tellsTwo 35 = .ok (.iconst 1, 1) := by decide +kernel
theorem dX12_tellsTwo_36 : decode cX12_tellsTwo 36 = .ok (.goto 4, 3) := by decide +kernel
theorem dX12_tellsTwo_39 : decode cX12_tellsTwo 39 = .ok (.iconst 0, 1) := by decide +kernel
theorem dX12_tellsTwo_40 : decode cX12_tellsTwo 40 = .ok (.iload 4, 2) := by decide +kernel
theorem dX12_tellsTwo_42 : decode cX12_tellsTwo 42 = .ok (.if_icmp .ne 5, 3) := by decide +kernel
theorem dX12_tellsTwo_45 : decode cX12_tellsTwo 45 = .ok (.iconst 0, 1) := by decide +kernel
theorem dX12_tellsTwo_46 : decode cX12_tellsTwo 46 = .ok (.ireturn, 1) := by decide +kernel
theorem dX12_tellsTwo_47 : decode cX12_tellsTwo 47 = .ok (.aload_n 0, 1) := by decide +kernel
theorem dX12_tellsTwo_48 : decode cX12_tellsTwo 48 = .ok (.invokevirtual 214, 3) := by decide +kernel
theorem dX12_tellsTwo_51 : decode cX12_tellsTwo 51 = .ok (.aload_n 0, 1) := by decide +kernel
theorem dX12_tellsTwo_52 : decode cX12_tellsTwo 52 = .ok (.getfield 35, 3) := by decide +kernel
theorem dX12_tellsTwo_55 : decode cX12_tellsTwo 55 = .ok (.iload_n 1, 1) := by decide +kernel
theorem dX12_tellsTwo_56 : decode cX12_tellsTwo 56 = .ok (.iload_n 2, 1) := by decide +kernel
theorem dX12_tellsTwo_57 : decode cX12_tellsTwo 57 = .ok (.invokestatic 228, 3) := by decide +kernel
theorem dX12_tellsTwo_60 : decode cX12_tellsTwo 60 = .ok (.iload 4, 2) := by decide +kernel
theorem dX12_tellsTwo_62 : decode cX12_tellsTwo 62 = .ok (.ifCond .eq 7, 3) := by decide +kernel
theorem dX12_tellsTwo_65 : decode cX12_tellsTwo 65 = .ok (.iload_n 3, 1) := by decide +kernel
theorem dX12_tellsTwo_66 : decode cX12_tellsTwo 66 = .ok (.goto 4, 3) := by decide +kernel
theorem dX12_tellsTwo_69 : decode cX12_tellsTwo 69 = .ok (.iconst 0, 1) := by decide +kernel
theorem dX12_tellsTwo_70 : decode cX12_tellsTwo 70 = .ok (.iastore, 1) := by decide +kernel
theorem dX12_tellsTwo_71 : decode cX12_tellsTwo 71 = .ok (.iconst 1, 1) := by decide +kernel
theorem dX12_tellsTwo_72 : decode cX12_tellsTwo 72 = .ok (.ireturn, 1) := by decide +kernel
noncomputable def f_X12_tellsTwo_70 (M : ZMem) (v1 : Int32) (v2 : Int32) : Option (ZMem × Int32) := zchk (zin v1 460) (zbnd (zstI M 9 (zix v1) v2) (fun M_70 => some (M_70, (zI 1))))
set_option maxRecDepth 100000 in
set_option maxHeartbeats 4000000 in
theorem w_X12_tellsTwo_70 {E : ZEv} {G : ZG} {K : (ZMem × Int32) → Prop} (h : zRu lyR E G (zRm K) cX12_tellsTwo RX12 5 (some .boolean) 2) (M : ZMem) (v1 : Int32) (v2 : Int32) (hk : zOk (f_X12_tellsTwo_70 M v1 v2) K) : G M 70 [] [.int v2, .int v1, zrf E 9] := by
  unfold f_X12_tellsTwo_70 at hk
  have hb := zOk_chk hk
  have hk := hb.2
  refine zr_iast h lR_9 hb.1 dX12_tellsTwo_70 ?_
  refine zr_mem (fun M_70 eM => ?_)
  have hk := zOk_bnd eM hk
  refine zr_iconst (v := (zI 1)) h dX12_tellsTwo_71 rfl ?_
  have hk := zOk_some hk
  exact zr_zret h dX12_tellsTwo_72 (by decide) ⟨_, rfl, hk⟩
noncomputable def f_X12_tellsTwo_40 (M : ZMem) (x1 : Int32) (x2 : Int32) (x3 : Int32) (x4 : Int32) (v0 : Int32) : Option (ZMem × Int32) := if v0 = x4 then some (M, (zI 0)) else zbind (f_X12_remembers M) (fun M_48 => zbind (f_X12_twoAt M_48 x1 x2) (fun r_57 => if x4 = (zI 0) then f_X12_tellsTwo_70 M_48 r_57 (zI 0) else f_X12_tellsTwo_70 M_48 r_57 x3))
set_option maxRecDepth 100000 in
set_option maxHeartbeats 4000000 in
theorem w_X12_tellsTwo_40 {E : ZEv} {G : ZG} {K : (ZMem × Int32) → Prop} (h : zRu lyR E G (zRm K) cX12_tellsTwo RX12 5 (some .boolean) 2) (M : ZMem) (x1 : Int32) (x2 : Int32) (x3 : Int32) (x4 : Int32) (v0 : Int32) (hk : zOk (f_X12_tellsTwo_40 M x1 x2 x3 x4 v0) K) : G M 40 [(0, zrf E 0), (1, .int x1), (2, .int x2), (3, .int x3), (4, .int x4)] [.int v0] := by
  unfold f_X12_tellsTwo_40 at hk
  refine zr_iload h dX12_tellsTwo_40 4 rfl ?_
  refine zr_icmp_ne (tgt := 47) h dX12_tellsTwo_42 (by decide) (fun c => ?_) (fun c => ?_)
  · have hk := zOk_t c hk
    refine zr_iconst (v := (zI 0)) h dX12_tellsTwo_45 rfl ?_
    have hk := zOk_some hk
    exact zr_zret h dX12_tellsTwo_46 (by decide) ⟨_, rfl, hk⟩
  · have hk := zOk_f c hk
    refine zr_aload_n h dX12_tellsTwo_47 0 rfl rfl ?_
    refine zr_callVv h lR_0 zcw_X12_214 (by decide) (c_X12_remembers E M _ (zOk_bind hk)) rfl rfl (Nat.le_of_ble_eq_true rfl) dX12_tellsTwo_48 (fun M_48 hk => ?_)
    refine zr_aload_n h dX12_tellsTwo_51 0 rfl rfl ?_
    refine zr_getR h zfo_X12_35 lR_0 rfl dX12_tellsTwo_52 ?_
    refine zr_iload_n h dX12_tellsTwo_55 1 rfl rfl ?_
    refine zr_iload_n h dX12_tellsTwo_56 2 rfl rfl ?_
    refine zr_callSp h zcw_X12_228 (by decide) (c_X12_twoAt E M_48 x1 x2 _ (zOk_bind hk)) rfl rfl (Nat.le_of_ble_eq_true rfl) dX12_tellsTwo_57 (fun r_57 hk => ?_)
    refine zr_iload h dX12_tellsTwo_60 4 rfl ?_
    refine zr_if_eq (tgt := 69) h dX12_tellsTwo_62 (by decide) (fun c => ?_) (fun c => ?_)
    · have hk := zOk_t c hk
      refine zr_iconst (v := (zI 0)) h dX12_tellsTwo_69 rfl ?_
      exact zr_weak h [] rfl (w_X12_tellsTwo_70 h M_48 r_57 (zI 0) hk)
    · have hk := zOk_f c hk
      refine zr_iload_n h dX12_tellsTwo_65 3 rfl rfl ?_
      refine zr_goto (tgt := 70) h dX12_tellsTwo_66 (by decide) ?_
      exact zr_weak h [] rfl (w_X12_tellsTwo_70 h M_48 r_57 x3 hk)
noncomputable def f_X12_tellsTwo (M : ZMem) (x1 : Int32) (x2 : Int32) (x3 : Int32) (x4 : Int32) : Option (ZMem × Int32) := zbind (f_X12_isForm M x1) (fun r_2 => if r_2 = (zI 0) then some (M, (zI 0)) else zbind (f_X12_isForm M x2) (fun r_10 => if r_10 = (zI 0) then some (M, (zI 0)) else if x1 = x2 then some (M, (zI 0)) else zbind (f_X12_twoAt M x1 x2) (fun r_27 => zchk (zin r_27 460) (if (M.1 9 (zix r_27)) = x3 then f_X12_tellsTwo_40 M x1 x2 x3 x4 (zI 1) else f_X12_tellsTwo_40 M x1 x2 x3 x4 (zI 0)))))
set_option maxRecDepth 100000 in
set_option maxHeartbeats 4000000 in
theorem c_X12_tellsTwo (E : ZEv) (M : ZMem) (x1 : Int32) (x2 : Int32) (x3 : Int32) (x4 : Int32) (K : ZMem × Int32 → Prop) (hk : zOk (f_X12_tellsTwo M x1 x2 x3 x4) K) : zCon lyR E yX12_tellsTwo cX12_tellsTwo 5 (some .boolean) 2 [zrf E 0, .int x1, .int x2, .int x3, .int x4] M (zRm K) := by
  refine zcon_of (L0 := [(0, zrf E 0), (1, .int x1), (2, .int x2), (3, .int x3), (4, .int x4)]) (by decide) rfl (Nat.le_of_ble_eq_true rfl) (fun G h => ?_)
  have h : zRu lyR E G (zRm K) cX12_tellsTwo RX12 5 (some .boolean) 2 := h
  unfold f_X12_tellsTwo at hk
  refine zr_aload_n h dX12_tellsTwo_0 0 rfl rfl ?_
  refine zr_iload_n h dX12_tellsTwo_1 1 rfl rfl ?_
  refine zr_callVp h lR_0 zcw_X12_224 (by decide) (c_X12_isForm E M x1 _ (zOk_bind hk)) rfl rfl (Nat.le_of_ble_eq_true rfl) dX12_tellsTwo_2 (fun r_2 hk => ?_)
  refine zr_if_eq (tgt := 45) h dX12_tellsTwo_5 (by decide) (fun c => ?_) (fun c => ?_)
  · have hk := zOk_t c hk
    refine zr_iconst (v := (zI 0)) h dX12_tellsTwo_45 rfl ?_
    have hk := zOk_some hk
    exact zr_zret h dX12_tellsTwo_46 (by decide) ⟨_, rfl, hk⟩
  · have hk := zOk_f c hk
    refine zr_aload_n h dX12_tellsTwo_8 0 rfl rfl ?_
    refine zr_iload_n h dX12_tellsTwo_9 2 rfl rfl ?_
    refine zr_callVp h lR_0 zcw_X12_224 (by decide) (c_X12_isForm E M x2 _ (zOk_bind hk)) rfl rfl (Nat.le_of_ble_eq_true rfl) dX12_tellsTwo_10 (fun r_10 hk => ?_)
    refine zr_if_eq (tgt := 45) h dX12_tellsTwo_13 (by decide) (fun c => ?_) (fun c => ?_)
    · have hk := zOk_t c hk
      refine zr_iconst (v := (zI 0)) h dX12_tellsTwo_45 rfl ?_
      have hk := zOk_some hk
      exact zr_zret h dX12_tellsTwo_46 (by decide) ⟨_, rfl, hk⟩
    · have hk := zOk_f c hk
      refine zr_iload_n h dX12_tellsTwo_16 1 rfl rfl ?_
      refine zr_iload_n h dX12_tellsTwo_17 2 rfl rfl ?_
      refine zr_icmp_eq (tgt := 45) h dX12_tellsTwo_18 (by decide) (fun c => ?_) (fun c => ?_)
      · have hk := zOk_t c hk
        refine zr_iconst (v := (zI 0)) h dX12_tellsTwo_45 rfl ?_
        have hk := zOk_some hk
        exact zr_zret h dX12_tellsTwo_46 (by decide) ⟨_, rfl, hk⟩
      · have hk := zOk_f c hk
        refine zr_aload_n h dX12_tellsTwo_21 0 rfl rfl ?_
        refine zr_getR h zfo_X12_35 lR_0 rfl dX12_tellsTwo_22 ?_
        refine zr_iload_n h dX12_tellsTwo_25 1 rfl rfl ?_
        refine zr_iload_n h dX12_tellsTwo_26 2 rfl rfl ?_
        refine zr_callSp h zcw_X12_228 (by decide) (c_X12_twoAt E M x1 x2 _ (zOk_bind hk)) rfl rfl (Nat.le_of_ble_eq_true rfl) dX12_tellsTwo_27 (fun r_27 hk => ?_)
        have hb := zOk_chk hk
        have hk := hb.2
        refine zr_iald h lR_9 hb.1 dX12_tellsTwo_30 ?_
        refine zr_iload_n h dX12_tellsTwo_31 3 rfl rfl ?_
        refine zr_icmp_ne (tgt := 39) h dX12_tellsTwo_32 (by decide) (fun c => ?_) (fun c => ?_)
        · have hk := zOk_t c hk
          refine zr_iconst (v := (zI 1)) h dX12_tellsTwo_35 rfl ?_
          refine zr_goto (tgt := 40) h dX12_tellsTwo_36 (by decide) ?_
          exact w_X12_tellsTwo_40 h M x1 x2 x3 x4 (zI 1) hk
        · have hk := zOk_f c hk
          refine zr_iconst (v := (zI 0)) h dX12_tellsTwo_39 rfl ?_
          exact w_X12_tellsTwo_40 h M x1 x2 x3 x4 (zI 0) hk
theorem dX12_alike_0 : decode cX12_alike 0 = .ok (.aload_n 0, 1) := by decide +kernel
theorem dX12_alike_1 : decode cX12_alike 1 = .ok (.iload_n 1, 1) := by decide +kernel
theorem dX12_alike_2 : decode cX12_alike 2 = .ok (.iload_n 2, 1) := by decide +kernel
theorem dX12_alike_3 : decode cX12_alike 3 = .ok (.iconst 1, 1) := by decide +kernel
theorem dX12_alike_4 : decode cX12_alike 4 = .ok (.iload_n 3, 1) := by decide +kernel
theorem dX12_alike_5 : decode cX12_alike 5 = .ok (.invokevirtual 231, 3) := by decide +kernel
theorem dX12_alike_8 : decode cX12_alike 8 = .ok (.ireturn, 1) := by decide +kernel
noncomputable def f_X12_alike (M : ZMem) (x1 : Int32) (x2 : Int32) (x3 : Int32) : Option (ZMem × Int32) := zbind (f_X12_tellsTwo M x1 x2 (zI 1) x3) (fun r_5 => zchk (zisB r_5.2) (some (r_5.1, r_5.2)))
set_option maxRecDepth 100000 in
set_option maxHeartbeats 4000000 in
theorem c_X12_alike (E : ZEv) (M : ZMem) (x1 : Int32) (x2 : Int32) (x3 : Int32) (K : ZMem × Int32 → Prop) (hk : zOk (f_X12_alike M x1 x2 x3) K) : zCon lyR E yX12_alike cX12_alike 4 (some .boolean) 3 [zrf E 0, .int x1, .int x2, .int x3] M (zRm K) := by
  refine zcon_of (L0 := [(0, zrf E 0), (1, .int x1), (2, .int x2), (3, .int x3)]) (by decide) rfl (Nat.le_of_ble_eq_true rfl) (fun G h => ?_)
  have h : zRu lyR E G (zRm K) cX12_alike RX12 4 (some .boolean) 3 := h
  unfold f_X12_alike at hk
  refine zr_aload_n h dX12_alike_0 0 rfl rfl ?_
  refine zr_iload_n h dX12_alike_1 1 rfl rfl ?_
  refine zr_iload_n h dX12_alike_2 2 rfl rfl ?_
  refine zr_iconst (v := (zI 1)) h dX12_alike_3 rfl ?_
  refine zr_iload_n h dX12_alike_4 3 rfl rfl ?_
  refine zr_callVm h lR_0 zcw_X12_231 (by decide) (c_X12_tellsTwo E M x1 x2 (zI 1) x3 _ (zOk_bind hk)) rfl rfl (Nat.le_of_ble_eq_true rfl) dX12_alike_5 (fun r_5 hk => ?_)
  have hb := zOk_chk hk
  have hk := hb.2
  have hk := zOk_some hk
  exact zr_zret h dX12_alike_8 hb.1 ⟨_, rfl, hk⟩
theorem dX12_apart_0 : decode cX12_apart 0 = .ok (.aload_n 0, 1) := by decide +kernel
theorem dX12_apart_1 : decode cX12_apart 1 = .ok (.iload_n 1, 1) := by decide +kernel
theorem dX12_apart_2 : decode cX12_apart 2 = .ok (.iload_n 2, 1) := by decide +kernel
theorem dX12_apart_3 : decode cX12_apart 3 = .ok (.iconst 2, 1) := by decide +kernel
theorem dX12_apart_4 : decode cX12_apart 4 = .ok (.iload_n 3, 1) := by decide +kernel
theorem dX12_apart_5 : decode cX12_apart 5 = .ok (.invokevirtual 231, 3) := by decide +kernel
theorem dX12_apart_8 : decode cX12_apart 8 = .ok (.ireturn, 1) := by decide +kernel
noncomputable def f_X12_apart (M : ZMem) (x1 : Int32) (x2 : Int32) (x3 : Int32) : Option (ZMem × Int32) := zbind (f_X12_tellsTwo M x1 x2 (zI 2) x3) (fun r_5 => zchk (zisB r_5.2) (some (r_5.1, r_5.2)))
set_option maxRecDepth 100000 in
set_option maxHeartbeats 4000000 in
theorem c_X12_apart (E : ZEv) (M : ZMem) (x1 : Int32) (x2 : Int32) (x3 : Int32) (K : ZMem × Int32 → Prop) (hk : zOk (f_X12_apart M x1 x2 x3) K) : zCon lyR E yX12_apart cX12_apart 4 (some .boolean) 3 [zrf E 0, .int x1, .int x2, .int x3] M (zRm K) := by
  refine zcon_of (L0 := [(0, zrf E 0), (1, .int x1), (2, .int x2), (3, .int x3)]) (by decide) rfl (Nat.le_of_ble_eq_true rfl) (fun G h => ?_)
  have h : zRu lyR E G (zRm K) cX12_apart RX12 4 (some .boolean) 3 := h
  unfold f_X12_apart at hk
  refine zr_aload_n h dX12_apart_0 0 rfl rfl ?_
  refine zr_iload_n h dX12_apart_1 1 rfl rfl ?_
  refine zr_iload_n h dX12_apart_2 2 rfl rfl ?_
  refine zr_iconst (v := (zI 2)) h dX12_apart_3 rfl ?_
  refine zr_iload_n h dX12_apart_4 3 rfl rfl ?_
  refine zr_callVm h lR_0 zcw_X12_231 (by decide) (c_X12_tellsTwo E M x1 x2 (zI 2) x3 _ (zOk_bind hk)) rfl rfl (Nat.le_of_ble_eq_true rfl) dX12_apart_5 (fun r_5 hk => ?_)
  have hb := zOk_chk hk
  have hk := hb.2
  have hk := zOk_some hk
  exact zr_zret h dX12_apart_8 hb.1 ⟨_, rfl, hk⟩
theorem dX12_isClueTold_0 : decode cX12_isClueTold 0 = .ok (.iconst 0, 1) := by decide +kernel
theorem dX12_isClueTold_1 : decode cX12_isClueTold 1 = .ok (.istore 4, 2) := by decide +kernel
theorem dX12_isClueTold_3 : decode cX12_isClueTold 3 = .ok (.iload 4, 2) := by decide +kernel
theorem dX12_isClueTold_5 : decode cX12_isClueTold 5 = .ok (.aload_n 0, 1) := by decide +kernel
theorem dX12_isClueTold_6 : decode cX12_isClueTold 6 = .ok (.getfield 35, 3) := by decide +kernel
theorem dX12_isClueTold_9 : decode cX12_isClueTold 9 = .ok (.iconst 3, 1) := by decide +kernel
theorem dX12_isClueTold_10 : decode cX12_isClueTold 10 = .ok (.iaload, 1) := by decide +kernel
theorem dX12_isClueTold_11 : decode cX12_isClueTold 11 = .ok (.if_icmp .ge 97, 3) := by decide +kernel
theorem dX12_isClueTold_14 : decode cX12_isClueTold 14 = .ok (.sipush 424, 3) := by decide +kernel
theorem dX12_isClueTold_17 : decode cX12_isClueTold 17 = .ok (.iconst 3, 1) := by decide +kernel
theorem dX12_isClueTold_18 : decode cX12_isClueTold 18 = .ok (.iload 4, 2) := by decide +kernel
theorem dX12_isClueTold_20 : decode cX12_isClueTold 20 = .ok (.imul, 1) := by decide +kernel
theorem dX12_isClueTold_21 : decode cX12_isClueTold 21 = .ok (.iadd, 1) := by decide +kernel
theorem dX12_isClueTold_22 : decode cX12_isClueTold 22 = .ok (.istore 5, 2) := by decide +kernel
theorem dX12_isClueTold_24 : decode cX12_isClueTold 24 = .ok (.aload_n 0, 1) := by decide +kernel
theorem dX12_isClueTold_25 : decode cX12_isClueTold 25 = .ok (.getfield 35, 3) := by decide +kernel
theorem dX12_isClueTold_28 : decode cX12_isClueTold 28 = .ok (.iload 5, 2) := by decide +kernel
theorem dX12_isClueTold_30 : decode cX12_isClueTold 30 = .ok (.iaload, 1) := by decide +kernel
theorem dX12_isClueTold_31 : decode cX12_isClueTold 31 = .ok (.iload_n 1, 1) := by decide +kernel
theorem dX12_isClueTold_32 : decode cX12_isClueTold 32 = .ok (.if_icmp .ne 16, 3) := by decide +kernel
theorem dX12_isClueTold_35 : decode cX12_isClueTold 35 = .ok (.aload_n 0, 1) := by decide +kernel
theorem dX12_isClueTold_36 : decode cX12_isClueTold 36 = .ok (.getfield 35, 3) := by decide +kernel
theorem dX12_isClueTold_39 : decode cX12_isClueTold 39 = .ok (.iload 5, 2) := by decide +kernel
theorem dX12_isClueTold_41 : decode cX12_isClueTold 41 = .ok (.iconst 1, 1) := by decide +kernel
theorem dX12_isClueTold_42 : decode cX12_isClueTold 42 = .ok (.iadd, 1) := by decide +kernel
theorem dX12_isClueTold_43 : decode cX12_isClueTold 43 = .ok (.iaload, 1) := by decide +kernel
theorem dX12_isClueTold_44 : decode cX12_isClueTold 44 = .ok (.iload_n 2, 1) := by decide +kernel
theorem dX12_isClueTold_45 : decode cX12_isClueTold 45 = .ok (.if_icmp .eq 27, 3) := by decide +kernel
theorem dX12_isClueTold_48 : decode cX12_isClueTold 48 = .ok (.aload_n 0, 1) := by decide +kernel
theorem dX12_isClueTold_49 : decode cX12_isClueTold 49 = .ok (.getfield 35, 3) := by decide +kernel
theorem dX12_isClueTold_52 : decode cX12_isClueTold 52 = .ok (.iload 5, 2) := by decide +kernel
theorem dX12_isClueTold_54 : decode cX12_isClueTold 54 = .ok (.iaload, 1) := by decide +kernel
theorem dX12_isClueTold_55 : decode cX12_isClueTold 55 = .ok (.iload_n 2, 1) := by decide +kernel
theorem dX12_isClueTold_56 : decode cX12_isClueTold 56 = .ok (.if_icmp .ne 20, 3) := by decide +kernel
theorem dX12_isClueTold_59 : decode cX12_isClueTold 59 = .ok (.aload_n 0, 1) := by decide +kernel
theorem dX12_isClueTold_60 : decode cX12_isClueTold 60 = .ok (.getfield 35, 3) := by decide +kernel
theorem dX12_isClueTold_63 : decode cX12_isClueTold 63 = .ok (.iload 5, 2) := by decide +kernel
theorem dX12_isClueTold_65 : decode cX12_isClueTold 65 = .ok (.iconst 1, 1) := by decide +kernel
theorem dX12_isClueTold_66 : decode cX12_isClueTold 66 = .ok (.iadd, 1) := by decide +kernel
theorem dX12_isClueTold_67 : decode cX12_isClueTold 67 = .ok (.iaload, 1) := by decide +kernel
theorem dX12_isClueTold_68 : decode cX12_isClueTold 68 = .ok (.iload_n 1, 1) := by decide +kernel
theorem dX12_isClueTold_69 : decode cX12_isClueTold 69 = .ok (.if_icmp .ne 7, 3) := by decide +kernel
theorem dX12_isClueTold_72 : decode cX12_isClueTold 72 = .ok (.iconst 1, 1) := by decide +kernel
theorem dX12_isClueTold_73 : decode cX12_isClueTold 73 = .ok (.goto 4, 3) := by decide +kernel
theorem dX12_isClueTold_76 : decode cX12_isClueTold 76 = .ok (.iconst 0, 1) := by decide +kernel
theorem dX12_isClueTold_77 : decode cX12_isClueTold 77 = .ok (.istore 6, 2) := by decide +kernel
theorem dX12_isClueTold_79 : decode cX12_isClueTold 79 = .ok (.iload 6, 2) := by decide +kernel
theorem dX12_isClueTold_81 : decode cX12_isClueTold 81 = .ok (.ifCond .eq 21, 3) := by decide +kernel
theorem dX12_isClueTold_84 : decode cX12_isClueTold 84 = .ok (.aload_n 0, 1) := by decide +kernel
theorem dX12_isClueTold_85 : decode cX12_isClueTold 85 = .ok (.getfield 35, 3) := by decide +kernel
theorem dX12_isClueTold_88 : decode cX12_isClueTold 88 = .ok (.iload 5, 2) := by decide +kernel
theorem dX12_isClueTold_90 : decode cX12_isClueTold 90 = .ok (.iconst 2, 1) := by decide +kernel
theorem dX12_isClueTold_91 : decode cX12_isClueTold 91 = .ok (.iadd, 1) := by decide +kernel
theorem dX12_isClueTold_92 : decode cX12_isClueTold 92 = .ok (.iaload, 1) := by decide +kernel
theorem dX12_isClueTold_93 : decode cX12_isClueTold 93 = .ok (.iload_n 3, 1) := by decide +kernel
theorem dX12_isClueTold_94 : decode cX12_isClueTold 94 = .ok (.invokestatic 177, 3) := by decide +kernel
theorem dX12_isClueTold_97 : decode cX12_isClueTold 97 = .ok (.if_icmp .ne 5, 3) := by decide +kernel
theorem dX12_isClueTold_100 : decode cX12_isClueTold 100 = .ok (.iconst 1, 1) := by decide +kernel
theorem dX12_isClueTold_101 : decode cX12_isClueTold 101 = .ok (.ireturn, 1) := by decide +kernel
theorem dX12_isClueTold_102 : decode cX12_isClueTold 102 = .ok (.iinc 4 1, 3) := by decide +kernel
theorem dX12_isClueTold_105 : decode cX12_isClueTold 105 = .ok (.goto (-102), 3) := by decide +kernel
theorem dX12_isClueTold_108 : decode cX12_isClueTold 108 = .ok (.iconst 0, 1) := by decide +kernel
theorem dX12_isClueTold_109 : decode cX12_isClueTold 109 = .ok (.ireturn, 1) := by decide +kernel
noncomputable def f_X12_isClueTold_77_L3 (M : ZMem) (x1 : Int32) (x2 : Int32) (x3 : Int32) (x4 : Int32) (x5 : Int32) (v0 : Int32) : Option ((Int32) ⊕ ((Unit) ⊕ Int32)) := if v0 = (zI 0) then zbnd (x4 + (zI 1)) (fun x4_102 => some (.inl x4_102)) else zchk (zin (x5 + (zI 2)) 460) (zbind (f_X12_truth M x3) (fun r_94 => if (M.1 9 (zix (x5 + (zI 2)))) = r_94 then some (.inr (.inr (zI 1))) else zbnd (x4 + (zI 1)) (fun x4_102 => some (.inl x4_102))))
set_option maxRecDepth 100000 in
set_option maxHeartbeats 4000000 in
theorem w_X12_isClueTold_77_L3 {E : ZEv} {G : ZG} {K : Int32 → Prop} (M : ZMem) (h : zRu lyR E G (zRp M K) cX12_isClueTold RX12 7 (some .boolean) 1) (x1 : Int32) (x2 : Int32) (x3 : Int32) (x4 : Int32) (x5 : Int32) (v0 : Int32) (hk : zOk (f_X12_isClueTold_77_L3 M x1 x2 x3 x4 x5 v0) (zlp (fun s => G M 3 [(0, zrf E 0), (1, .int x1), (2, .int x2), (3, .int x3), (4, .int s)] []) (fun e => zsel e (fun e0 => G M 108 [] []) (fun f0 => K f0)))) : G M 77 [(0, zrf E 0), (1, .int x1), (2, .int x2), (3, .int x3), (4, .int x4), (5, .int x5)] [.int v0] := by
  unfold f_X12_isClueTold_77_L3 at hk
  refine zr_istore (L' := [(0, zrf E 0), (1, .int x1), (2, .int x2), (3, .int x3), (4, .int x4), (5, .int x5), (6, .int v0)]) h [1, 2, 3, 4, 5, 6, 0] dX12_isClueTold_77 (by decide) rfl ?_
  refine zr_iload h dX12_isClueTold_79 6 rfl ?_
  refine zr_if_eq (tgt := 102) h dX12_isClueTold_81 (by decide) (fun c => ?_) (fun c => ?_)
  · have hk := zOk_t c hk
    obtain ⟨x4_102, ex⟩ : ∃ y : Int32, y = x4 + (zI 1) := ⟨_, rfl⟩
    have hk := zOk_bnd ex hk
    refine zr_iinc (v := x4_102) (L' := [(0, zrf E 0), (1, .int x1), (2, .int x2), (3, .int x3), (4, .int x4_102)]) h 4 [1, 2, 3, 4, 0] dX12_isClueTold_102 rfl (by rw [ex]; rfl) (by decide) rfl ?_
    refine zr_goto (tgt := 3) h dX12_isClueTold_105 (by decide) ?_
    have hk := zOk_some hk
    exact zr_weak h [0, 1, 2, 3, 4] rfl hk
  · have hk := zOk_f c hk
    refine zr_aload_n h dX12_isClueTold_84 0 rfl rfl ?_
    refine zr_getR h zfo_X12_35 lR_0 rfl dX12_isClueTold_85 ?_
    refine zr_iload h dX12_isClueTold_88 5 rfl ?_
    refine zr_iconst (v := (zI 2)) h dX12_isClueTold_90 rfl ?_
    refine zr_iadd h dX12_isClueTold_91 ?_
    have hb := zOk_chk hk
    have hk := hb.2
    refine zr_iald h lR_9 hb.1 dX12_isClueTold_92 ?_
    refine zr_iload_n h dX12_isClueTold_93 3 rfl rfl ?_
    refine zr_callSp h zcw_X12_177 (by decide) (c_X12_truth E M x3 _ (zOk_bind hk)) rfl rfl (Nat.le_of_ble_eq_true rfl) dX12_isClueTold_94 (fun r_94 hk => ?_)
    refine zr_icmp_ne (tgt := 102) h dX12_isClueTold_97 (by decide) (fun c => ?_) (fun c => ?_)
    · have hk := zOk_t c hk
      refine zr_iconst (v := (zI 1)) h dX12_isClueTold_100 rfl ?_
      have hk := zOk_some hk
      exact zr_zret h dX12_isClueTold_101 (by decide) ⟨rfl, _, rfl, hk⟩
    · have hk := zOk_f c hk
      obtain ⟨x4_102, ex⟩ : ∃ y : Int32, y = x4 + (zI 1) := ⟨_, rfl⟩
      have hk := zOk_bnd ex hk
      refine zr_iinc (v := x4_102) (L' := [(0, zrf E 0), (1, .int x1), (2, .int x2), (3, .int x3), (4, .int x4_102)]) h 4 [1, 2, 3, 4, 0] dX12_isClueTold_102 rfl (by rw [ex]; rfl) (by decide) rfl ?_
      refine zr_goto (tgt := 3) h dX12_isClueTold_105 (by decide) ?_
      have hk := zOk_some hk
      exact zr_weak h [0, 1, 2, 3, 4] rfl hk
noncomputable def f_X12_isClueTold_72_L3 (M : ZMem) (x1 : Int32) (x2 : Int32) (x3 : Int32) (x4 : Int32) (x5 : Int32) : Option ((Int32) ⊕ ((Unit) ⊕ Int32)) := f_X12_isClueTold_77_L3 M x1 x2 x3 x4 x5 (zI 1)
set_option maxRecDepth 100000 in
set_option maxHeartbeats 4000000 in
theorem w_X12_isClueTold_72_L3 {E : ZEv} {G : ZG} {K : Int32 → Prop} (M : ZMem) (h : zRu lyR E G (zRp M K) cX12_isClueTold RX12 7 (some .boolean) 1) (x1 : Int32) (x2 : Int32) (x3 : Int32) (x4 : Int32) (x5 : Int32) (hk : zOk (f_X12_isClueTold_72_L3 M x1 x2 x3 x4 x5) (zlp (fun s => G M 3 [(0, zrf E 0), (1, .int x1), (2, .int x2), (3, .int x3), (4, .int s)] []) (fun e => zsel e (fun e0 => G M 108 [] []) (fun f0 => K f0)))) : G M 72 [(0, zrf E 0), (1, .int x1), (2, .int x2), (3, .int x3), (4, .int x4), (5, .int x5)] [] := by
  unfold f_X12_isClueTold_72_L3 at hk
  refine zr_iconst (v := (zI 1)) h dX12_isClueTold_72 rfl ?_
  refine zr_goto (tgt := 77) h dX12_isClueTold_73 (by decide) ?_
  exact w_X12_isClueTold_77_L3 M h x1 x2 x3 x4 x5 (zI 1) hk
noncomputable def f_X12_isClueTold_76_L3 (M : ZMem) (x1 : Int32) (x2 : Int32) (x3 : Int32) (x4 : Int32) (x5 : Int32) : Option ((Int32) ⊕ ((Unit) ⊕ Int32)) := f_X12_isClueTold_77_L3 M x1 x2 x3 x4 x5 (zI 0)
set_option maxRecDepth 100000 in
set_option maxHeartbeats 4000000 in
theorem w_X12_isClueTold_76_L3 {E : ZEv} {G : ZG} {K : Int32 → Prop} (M : ZMem) (h : zRu lyR E G (zRp M K) cX12_isClueTold RX12 7 (some .boolean) 1) (x1 : Int32) (x2 : Int32) (x3 : Int32) (x4 : Int32) (x5 : Int32) (hk : zOk (f_X12_isClueTold_76_L3 M x1 x2 x3 x4 x5) (zlp (fun s => G M 3 [(0, zrf E 0), (1, .int x1), (2, .int x2), (3, .int x3), (4, .int s)] []) (fun e => zsel e (fun e0 => G M 108 [] []) (fun f0 => K f0)))) : G M 76 [(0, zrf E 0), (1, .int x1), (2, .int x2), (3, .int x3), (4, .int x4), (5, .int x5)] [] := by
  unfold f_X12_isClueTold_76_L3 at hk
  refine zr_iconst (v := (zI 0)) h dX12_isClueTold_76 rfl ?_
  exact w_X12_isClueTold_77_L3 M h x1 x2 x3 x4 x5 (zI 0) hk
noncomputable def f_X12_isClueTold_48_L3 (M : ZMem) (x1 : Int32) (x2 : Int32) (x3 : Int32) (x4 : Int32) (x5 : Int32) : Option ((Int32) ⊕ ((Unit) ⊕ Int32)) := zchk (zin x5 460) (if (M.1 9 (zix x5)) = x2 then zchk (zin (x5 + (zI 1)) 460) (if (M.1 9 (zix (x5 + (zI 1)))) = x1 then f_X12_isClueTold_72_L3 M x1 x2 x3 x4 x5 else f_X12_isClueTold_76_L3 M x1 x2 x3 x4 x5) else f_X12_isClueTold_76_L3 M x1 x2 x3 x4 x5)
set_option maxRecDepth 100000 in
set_option maxHeartbeats 4000000 in
theorem w_X12_isClueTold_48_L3 {E : ZEv} {G : ZG} {K : Int32 → Prop} (M : ZMem) (h : zRu lyR E G (zRp M K) cX12_isClueTold RX12 7 (some .boolean) 1) (x1 : Int32) (x2 : Int32) (x3 : Int32) (x4 : Int32) (x5 : Int32) (hk : zOk (f_X12_isClueTold_48_L3 M x1 x2 x3 x4 x5) (zlp (fun s => G M 3 [(0, zrf E 0), (1, .int x1), (2, .int x2), (3, .int x3), (4, .int s)] []) (fun e => zsel e (fun e0 => G M 108 [] []) (fun f0 => K f0)))) : G M 48 [(0, zrf E 0), (1, .int x1), (2, .int x2), (3, .int x3), (4, .int x4), (5, .int x5)] [] := by
  unfold f_X12_isClueTold_48_L3 at hk
  refine zr_aload_n h dX12_isClueTold_48 0 rfl rfl ?_
  refine zr_getR h zfo_X12_35 lR_0 rfl dX12_isClueTold_49 ?_
  refine zr_iload h dX12_isClueTold_52 5 rfl ?_
  have hb := zOk_chk hk
  have hk := hb.2
  refine zr_iald h lR_9 hb.1 dX12_isClueTold_54 ?_
  refine zr_iload_n h dX12_isClueTold_55 2 rfl rfl ?_
  refine zr_icmp_ne (tgt := 76) h dX12_isClueTold_56 (by decide) (fun c => ?_) (fun c => ?_)
  · have hk := zOk_t c hk
    refine zr_aload_n h dX12_isClueTold_59 0 rfl rfl ?_
    refine zr_getR h zfo_X12_35 lR_0 rfl dX12_isClueTold_60 ?_
    refine zr_iload h dX12_isClueTold_63 5 rfl ?_
    refine zr_iconst (v := (zI 1)) h dX12_isClueTold_65 rfl ?_
    refine zr_iadd h dX12_isClueTold_66 ?_
    have hb := zOk_chk hk
    have hk := hb.2
    refine zr_iald h lR_9 hb.1 dX12_isClueTold_67 ?_
    refine zr_iload_n h dX12_isClueTold_68 1 rfl rfl ?_
    refine zr_icmp_ne (tgt := 76) h dX12_isClueTold_69 (by decide) (fun c => ?_) (fun c => ?_)
    · have hk := zOk_t c hk
      exact w_X12_isClueTold_72_L3 M h x1 x2 x3 x4 x5 hk
    · have hk := zOk_f c hk
      exact w_X12_isClueTold_76_L3 M h x1 x2 x3 x4 x5 hk
  · have hk := zOk_f c hk
    exact w_X12_isClueTold_76_L3 M h x1 x2 x3 x4 x5 hk
noncomputable def f_X12_isClueTold_L3 (M : ZMem) (x1 : Int32) (x2 : Int32) (x3 : Int32) (s : (Int32)) : Option ((Int32) ⊕ ((Unit) ⊕ Int32)) := if (M.1 9 (zix (zI 3))) ≤ s then some (.inr (.inl ())) else zbnd ((zI 424) + ((zI 3) * s)) (fun x5_22 => zchk (zin x5_22 460) (if (M.1 9 (zix x5_22)) = x1 then zchk (zin (x5_22 + (zI 1)) 460) (if (M.1 9 (zix (x5_22 + (zI 1)))) = x2 then f_X12_isClueTold_72_L3 M x1 x2 x3 s x5_22 else f_X12_isClueTold_48_L3 M x1 x2 x3 s x5_22) else f_X12_isClueTold_48_L3 M x1 x2 x3 s x5_22))
set_option maxRecDepth 100000 in
set_option maxHeartbeats 4000000 in
theorem w_X12_isClueTold_L3 {E : ZEv} {G : ZG} {K : Int32 → Prop} (M : ZMem) (h : zRu lyR E G (zRp M K) cX12_isClueTold RX12 7 (some .boolean) 1) (x1 : Int32) (x2 : Int32) (x3 : Int32) (s : (Int32)) (hk : zOk (zloop (f_X12_isClueTold_L3 M x1 x2 x3) s) (fun e => zsel e (fun e0 => G M 108 [] []) (fun f0 => K f0))) : G M 3 [(0, zrf E 0), (1, .int x1), (2, .int x2), (3, .int x3), (4, .int s)] [] := by
  refine zloop_walk (P := fun s => G M 3 [(0, zrf E 0), (1, .int x1), (2, .int x2), (3, .int x3), (4, .int s)] []) hk (fun s hk => ?_)
  unfold f_X12_isClueTold_L3 at hk
  refine zr_iload h dX12_isClueTold_3 4 rfl ?_
  refine zr_aload_n h dX12_isClueTold_5 0 rfl rfl ?_
  refine zr_getR h zfo_X12_35 lR_0 rfl dX12_isClueTold_6 ?_
  refine zr_iconst (v := (zI 3)) h dX12_isClueTold_9 rfl ?_
  refine zr_iald h lR_9 (by decide) dX12_isClueTold_10 ?_
  refine zr_icmp_ge (tgt := 108) h dX12_isClueTold_11 (by decide) (fun c => ?_) (fun c => ?_)
  · have hk := zOk_t c hk
    have hk := zOk_some hk
    exact zr_weak h [] rfl hk
  · have hk := zOk_f c hk
    refine zr_sipush (v := (zI 424)) h dX12_isClueTold_14 (by decide) ?_
    refine zr_iconst (v := (zI 3)) h dX12_isClueTold_17 rfl ?_
    refine zr_iload h dX12_isClueTold_18 4 rfl ?_
    refine zr_imul h dX12_isClueTold_20 ?_
    refine zr_iadd h dX12_isClueTold_21 ?_
    refine zr_topi (fun x5_22 ex => ?_)
    have hk := zOk_bnd ex hk
    refine zr_istore (L' := [(0, zrf E 0), (1, .int x1), (2, .int x2), (3, .int x3), (4, .int s), (5, .int x5_22)]) h [1, 2, 3, 4, 5, 0] dX12_isClueTold_22 (by decide) rfl ?_
    refine zr_aload_n h dX12_isClueTold_24 0 rfl rfl ?_
    refine zr_getR h zfo_X12_35 lR_0 rfl dX12_isClueTold_25 ?_
    refine zr_iload h dX12_isClueTold_28 5 rfl ?_
    have hb := zOk_chk hk
    have hk := hb.2
    refine zr_iald h lR_9 hb.1 dX12_isClueTold_30 ?_
    refine zr_iload_n h dX12_isClueTold_31 1 rfl rfl ?_
    refine zr_icmp_ne (tgt := 48) h dX12_isClueTold_32 (by decide) (fun c => ?_) (fun c => ?_)
    · have hk := zOk_t c hk
      refine zr_aload_n h dX12_isClueTold_35 0 rfl rfl ?_
      refine zr_getR h zfo_X12_35 lR_0 rfl dX12_isClueTold_36 ?_
      refine zr_iload h dX12_isClueTold_39 5 rfl ?_
      refine zr_iconst (v := (zI 1)) h dX12_isClueTold_41 rfl ?_
      refine zr_iadd h dX12_isClueTold_42 ?_
      have hb := zOk_chk hk
      have hk := hb.2
      refine zr_iald h lR_9 hb.1 dX12_isClueTold_43 ?_
      refine zr_iload_n h dX12_isClueTold_44 2 rfl rfl ?_
      refine zr_icmp_eq (tgt := 72) h dX12_isClueTold_45 (by decide) (fun c => ?_) (fun c => ?_)
      · have hk := zOk_t c hk
        exact w_X12_isClueTold_72_L3 M h x1 x2 x3 s x5_22 hk
      · have hk := zOk_f c hk
        exact w_X12_isClueTold_48_L3 M h x1 x2 x3 s x5_22 hk
    · have hk := zOk_f c hk
      exact w_X12_isClueTold_48_L3 M h x1 x2 x3 s x5_22 hk
noncomputable def f_X12_isClueTold (M : ZMem) (x1 : Int32) (x2 : Int32) (x3 : Int32) : Option Int32 := zbind (zloop (f_X12_isClueTold_L3 M x1 x2 x3) (zI 0)) (fun e3 => zsel e3 (fun e3a => some (zI 0)) (fun e3b => some e3b))
set_option maxRecDepth 100000 in
set_option maxHeartbeats 4000000 in
theorem c_X12_isClueTold (E : ZEv) (M : ZMem) (x1 : Int32) (x2 : Int32) (x3 : Int32) (K : Int32 → Prop) (hk : zOk (f_X12_isClueTold M x1 x2 x3) K) : zCon lyR E yX12_isClueTold cX12_isClueTold 7 (some .boolean) 1 [zrf E 0, .int x1, .int x2, .int x3] M (zRp M K) := by
  refine zcon_of (L0 := [(0, zrf E 0), (1, .int x1), (2, .int x2), (3, .int x3)]) (by decide) rfl (Nat.le_of_ble_eq_true rfl) (fun G h => ?_)
  have h : zRu lyR E G (zRp M K) cX12_isClueTold RX12 7 (some .boolean) 1 := h
  unfold f_X12_isClueTold at hk
  refine zr_iconst (v := (zI 0)) h dX12_isClueTold_0 rfl ?_
  refine zr_istore (L' := [(0, zrf E 0), (1, .int x1), (2, .int x2), (3, .int x3), (4, .int (zI 0))]) h [1, 2, 3, 4, 0] dX12_isClueTold_1 (by decide) rfl ?_
  refine w_X12_isClueTold_L3 M h x1 x2 x3 (zI 0) (zOk_mono (zOk_bind hk) (fun e3 hk => ?_))
  cases e3 with
  | inl e3a =>
    have hk := zOk_selL hk
    refine zr_iconst (v := (zI 0)) h dX12_isClueTold_108 rfl ?_
    have hk := zOk_some hk
    exact zr_zret h dX12_isClueTold_109 (by decide) ⟨rfl, _, rfl, hk⟩
  | inr e3b =>
    have hk := zOk_selR hk
    have hk := zOk_some hk
    exact hk
theorem dX12_dotOf_0 : decode cX12_dotOf 0 = .ok (.aload_n 0, 1) := by decide +kernel
theorem dX12_dotOf_1 : decode cX12_dotOf 1 = .ok (.getfield 13, 3) := by decide +kernel
theorem dX12_dotOf_4 : decode cX12_dotOf 4 = .ok (.iconst 5, 1) := by decide +kernel
theorem dX12_dotOf_5 : decode cX12_dotOf 5 = .ok (.iload_n 1, 1) := by decide +kernel
theorem dX12_dotOf_6 : decode cX12_dotOf 6 = .ok (.imul, 1) := by decide +kernel
theorem dX12_dotOf_7 : decode cX12_dotOf 7 = .ok (.iload_n 3, 1) := by decide +kernel
theorem dX12_dotOf_8 : decode cX12_dotOf 8 = .ok (.iconst 5, 1) := by decide +kernel
theorem dX12_dotOf_9 : decode cX12_dotOf 9 = .ok (.iadd, 1) := by decide +kernel
theorem dX12_dotOf_10 : decode cX12_dotOf 10 = .ok (.iconst 5, 1) := by decide +kernel
theorem dX12_dotOf_11 : decode cX12_dotOf 11 = .ok (.irem, 1) := by decide +kernel
theorem dX12_dotOf_12 : decode cX12_dotOf 12 = .ok (.iadd, 1) := by decide +kernel
theorem dX12_dotOf_13 : decode cX12_dotOf 13 = .ok (.iaload, 1) := by decide +kernel
theorem dX12_dotOf_14 : decode cX12_dotOf 14 = .ok (.iload_n 2, 1) := by decide +kernel
theorem dX12_dotOf_15 : decode cX12_dotOf 15 = .ok (.iconst 5, 1) := by decide +kernel
theorem dX12_dotOf_16 : decode cX12_dotOf 16 = .ok (.iadd, 1) := by decide +kernel
theorem dX12_dotOf_17 : decode cX12_dotOf 17 = .ok (.iconst 5, 1) := by decide +kernel
theorem dX12_dotOf_18 : decode cX12_dotOf 18 = .ok (.irem, 1) := by decide +kernel
theorem dX12_dotOf_19 : decode cX12_dotOf 19 = .ok (.ishr, 1) := by decide +kernel
theorem dX12_dotOf_20 : decode cX12_dotOf 20 = .ok (.iconst 1, 1) := by decide +kernel
theorem dX12_dotOf_21 : decode cX12_dotOf 21 = .ok (.iand, 1) := by decide +kernel
theorem dX12_dotOf_22 : decode cX12_dotOf 22 = .ok (.ireturn, 1) := by decide +kernel
noncomputable def f_X12_dotOf (M : ZMem) (x1 : Int32) (x2 : Int32) (x3 : Int32) : Option Int32 := zchk (zin (((zI 5) * x1) + ((x3 + (zI 5)) - (x3 + (zI 5)) / (zI 5) * (zI 5))) 100) (some (((M.1 2 (zix (((zI 5) * x1) + ((x3 + (zI 5)) - (x3 + (zI 5)) / (zI 5) * (zI 5))))) >>> (((x2 + (zI 5)) - (x2 + (zI 5)) / (zI 5) * (zI 5)) &&& 31)) &&& (zI 1)))
set_option maxRecDepth 100000 in
set_option maxHeartbeats 4000000 in
theorem c_X12_dotOf (E : ZEv) (M : ZMem) (x1 : Int32) (x2 : Int32) (x3 : Int32) (K : Int32 → Prop) (hk : zOk (f_X12_dotOf M x1 x2 x3) K) : zCon lyR E yX12_dotOf cX12_dotOf 4 (some .int) 0 [zrf E 0, .int x1, .int x2, .int x3] M (zRp M K) := by
  refine zcon_of (L0 := [(0, zrf E 0), (1, .int x1), (2, .int x2), (3, .int x3)]) (by decide) rfl (Nat.le_of_ble_eq_true rfl) (fun G h => ?_)
  have h : zRu lyR E G (zRp M K) cX12_dotOf RX12 4 (some .int) 0 := h
  unfold f_X12_dotOf at hk
  refine zr_aload_n h dX12_dotOf_0 0 rfl rfl ?_
  refine zr_getR h zfo_X12_13 lR_0 rfl dX12_dotOf_1 ?_
  refine zr_iconst (v := (zI 5)) h dX12_dotOf_4 rfl ?_
  refine zr_iload_n h dX12_dotOf_5 1 rfl rfl ?_
  refine zr_imul h dX12_dotOf_6 ?_
  refine zr_iload_n h dX12_dotOf_7 3 rfl rfl ?_
  refine zr_iconst (v := (zI 5)) h dX12_dotOf_8 rfl ?_
  refine zr_iadd h dX12_dotOf_9 ?_
  refine zr_iconst (v := (zI 5)) h dX12_dotOf_10 rfl ?_
  refine zr_irem h dX12_dotOf_11 (by decide) ?_
  refine zr_iadd h dX12_dotOf_12 ?_
  have hb := zOk_chk hk
  have hk := hb.2
  refine zr_iald h lR_2 hb.1 dX12_dotOf_13 ?_
  refine zr_iload_n h dX12_dotOf_14 2 rfl rfl ?_
  refine zr_iconst (v := (zI 5)) h dX12_dotOf_15 rfl ?_
  refine zr_iadd h dX12_dotOf_16 ?_
  refine zr_iconst (v := (zI 5)) h dX12_dotOf_17 rfl ?_
  refine zr_irem h dX12_dotOf_18 (by decide) ?_
  refine zr_ishr h dX12_dotOf_19 ?_
  refine zr_iconst (v := (zI 1)) h dX12_dotOf_20 rfl ?_
  refine zr_iand h dX12_dotOf_21 ?_
  have hk := zOk_some hk
  exact zr_iret h dX12_dotOf_22 ⟨rfl, _, rfl, hk⟩
theorem dX12_unlikeBy_0 : decode cX12_unlikeBy 0 = .ok (.iconst 0, 1) := by decide +kernel
theorem dX12_unlikeBy_1 : decode cX12_unlikeBy 1 = .ok (.istore 5, 2) := by decide +kernel
theorem dX12_unlikeBy_3 : decode cX12_unlikeBy 3 = .ok (.iconst 0, 1) := by decide +kernel
theorem dX12_unlikeBy_4 : decode cX12_unlikeBy 4 = .ok (.istore 6, 2) := by decide +kernel
theorem dX12_unlikeBy_6 : decode cX12_unlikeBy 6 = .ok (.iload 6, 2) := by decide +kernel
theorem dX12_unlikeBy_8 : decode cX12_unlikeBy 8 = .ok (.iconst 5, 1) := by decide +kernel
theorem dX12_unlikeBy_9 : decode cX12_unlikeBy 9 = .ok (.if_icmp .ge 53, 3) := by decide +kernel
theorem dX12_unlikeBy_12 : decode cX12_unlikeBy 12 = .ok (.iconst 0, 1) := by decide +kernel
theorem dX12_unlikeBy_13 : decode cX12_unlikeBy 13 = .ok (.istore 7, 2) := by decide +kernel
theorem dX12_unlikeBy_15 : decode cX12_unlikeBy 15 = .ok (.iload 7, 2) := by decide +kernel
theorem dX12_unlikeBy_17 : decode cX12_unlikeBy 17 = .ok (.iconst 5, 1) := by decide +kernel
theorem dX12_unlikeBy_18 : decode cX12_unlikeBy 18 = .ok (.if_icmp .ge 38, 3) := by decide +kernel
theorem dX12_unlikeBy_21 : decode cX12_unlikeBy 21 = .ok (.iload 5, 2) := by decide +kernel
theorem dX12_unlikeBy_23 : decode cX12_unlikeBy 23 = .ok (.aload_n 0, 1) := by decide +kernel
theorem dX12_unlikeBy_24 : decode cX12_unlikeBy 24 = .ok (.iload_n 1, 1) := by decide +kernel
theorem dX12_unlikeBy_25 : decode cX12_unlikeBy 25 = .ok (.iload 7, 2) := by decide +kernel
theorem dX12_unlikeBy_27 : decode cX12_unlikeBy 27 = .ok (.iload 6, 2) := by decide +kernel
theorem dX12_unlikeBy_29 : decode cX12_unlikeBy 29 = .ok (.invokevirtual 245, 3) := by decide +kernel
theorem dX12_unlikeBy_32 : decode cX12_unlikeBy 32 = .ok (.aload_n 0, 1) := by decide +kernel
theorem dX12_unlikeBy_33 : decode cX12_unlikeBy 33 = .ok (.iload_n 2, 1) := by decide +kernel
theorem dX12_unlikeBy_34 : decode cX12_unlikeBy 34 = .ok (.iload 7, 2) := by decide +kernel
theorem dX12_unlikeBy_36 : decode cX12_unlikeBy 36 = .ok (.iload_n 3, 1) := by decide +kernel
theorem dX12_unlikeBy_37 : decode cX12_unlikeBy 37 = .ok (.iadd, 1) := by decide +kernel
theorem dX12_unlikeBy_38 : decode cX12_unlikeBy 38 = .ok (.iload 6, 2) := by decide +kernel
theorem dX12_unlikeBy_40 : decode cX12_unlikeBy 40 = .ok (.iload 4, 2) := by decide +kernel
theorem dX12_unlikeBy_42 : decode cX12_unlikeBy 42 = .ok (.iadd, 1) := by decide +kernel
theorem dX12_unlikeBy_43 : decode cX12_unlikeBy 43 = .ok (.invokevirtual 245, 3) := by decide +kernel
theorem dX12_unlikeBy_46 : decode cX12_unlikeBy 46 = .ok (.ixor, 1) := by decide +kernel
theorem dX12_unlikeBy_47 : decode cX12_unlikeBy 47 = .ok (.iadd, 1) := by decide +kernel
theorem dX12_unlikeBy_48 : decode cX12_unlikeBy 48 = .ok (.istore 5, 2) := by decide +kernel
theorem dX12_unlikeBy_50 : decode cX12_unlikeBy 50 = .ok (.iinc 7 1, 3) := by decide +kernel
theorem dX12_unlikeBy_53 : decode cX12_unlikeBy 53 = .ok (.goto (-38), 3) := by decide +kernel
theorem dX12_unlikeBy_56 : decode cX12_unlikeBy 56 = .ok (.iinc 6 1, 3) := by decide +kernel
theorem dX12_unlikeBy_59 : decode cX12_unlikeBy 59 = .ok (.goto (-53), 3) := by decide +kernel
theorem dX12_unlikeBy_62 : decode cX12_unlikeBy 62 = .ok (.iload 5, 2) := by decide +kernel
theorem dX12_unlikeBy_64 : decode cX12_unlikeBy 64 = .ok (.ireturn, 1) := by decide +kernel
noncomputable def f_X12_unlikeBy_L15 (M : ZMem) (x1 : Int32) (x2 : Int32) (x3 : Int32) (x4 : Int32) (x6 : Int32) (s : (Int32 × Int32)) : Option ((Int32 × Int32) ⊕ (Int32)) := if (zI 5) ≤ s.2 then some (.inr s.1) else zbind (f_X12_dotOf M x1 s.2 x6) (fun r_29 => zbind (f_X12_dotOf M x2 (s.2 + x3) (x6 + x4)) (fun r_43 => zbnd (s.1 + (r_29 ^^^ r_43)) (fun x5_48 => zbnd (s.2 + (zI 1)) (fun x7_50 => some (.inl (x5_48, x7_50))))))
set_option maxRecDepth 100000 in
set_option maxHeartbeats 4000000 in
theorem w_X12_unlikeBy_L15 {E : ZEv} {G : ZG} {K : Int32 → Prop} (M : ZMem) (h : zRu lyR E G (zRp M K) cX12_unlikeBy RX12 8 (some .int) 1) (x1 : Int32) (x2 : Int32) (x3 : Int32) (x4 : Int32) (x6 : Int32) (s : (Int32 × Int32)) (hk : zOk (zloop (f_X12_unlikeBy_L15 M x1 x2 x3 x4 x6) s) (fun e => G M 56 [(0, zrf E 0), (1, .int x1), (2, .int x2), (3, .int x3), (4, .int x4), (5, .int e), (6, .int x6)] [])) : G M 15 [(0, zrf E 0), (1, .int x1), (2, .int x2), (3, .int x3), (4, .int x4), (5, .int s.1), (6, .int x6), (7, .int s.2)] [] := by
  refine zloop_walk (P := fun s => G M 15 [(0, zrf E 0), (1, .int x1), (2, .int x2), (3, .int x3), (4, .int x4), (5, .int s.1), (6, .int x6), (7, .int s.2)] []) hk (fun s hk => ?_)
  unfold f_X12_unlikeBy_L15 at hk
  refine zr_iload h dX12_unlikeBy_15 7 rfl ?_
  refine zr_iconst (v := (zI 5)) h dX12_unlikeBy_17 rfl ?_
  refine zr_icmp_ge (tgt := 56) h dX12_unlikeBy_18 (by decide) (fun c => ?_) (fun c => ?_)
  · have hk := zOk_t c hk
    have hk := zOk_some hk
    exact zr_weak h [0, 1, 2, 3, 4, 5, 6] rfl hk
  · have hk := zOk_f c hk
    refine zr_iload h dX12_unlikeBy_21 5 rfl ?_
    refine zr_aload_n h dX12_unlikeBy_23 0 rfl rfl ?_
    refine zr_iload_n h dX12_unlikeBy_24 1 rfl rfl ?_
    refine zr_iload h dX12_unlikeBy_25 7 rfl ?_
    refine zr_iload h dX12_unlikeBy_27 6 rfl ?_
    refine zr_callVp h lR_0 zcw_X12_245 (by decide) (c_X12_dotOf E M x1 s.2 x6 _ (zOk_bind hk)) rfl rfl (Nat.le_of_ble_eq_true rfl) dX12_unlikeBy_29 (fun r_29 hk => ?_)
    refine zr_aload_n h dX12_unlikeBy_32 0 rfl rfl ?_
    refine zr_iload_n h dX12_unlikeBy_33 2 rfl rfl ?_
    refine zr_iload h dX12_unlikeBy_34 7 rfl ?_
    refine zr_iload_n h dX12_unlikeBy_36 3 rfl rfl ?_
    refine zr_iadd h dX12_unlikeBy_37 ?_
    refine zr_iload h dX12_unlikeBy_38 6 rfl ?_
    refine zr_iload h dX12_unlikeBy_40 4 rfl ?_
    refine zr_iadd h dX12_unlikeBy_42 ?_
    refine zr_callVp h lR_0 zcw_X12_245 (by decide) (c_X12_dotOf E M x2 (s.2 + x3) (x6 + x4) _ (zOk_bind hk)) rfl rfl (Nat.le_of_ble_eq_true rfl) dX12_unlikeBy_43 (fun r_43 hk => ?_)
    refine zr_ixor h dX12_unlikeBy_46 ?_
    refine zr_iadd h dX12_unlikeBy_47 ?_
    refine zr_topi (fun x5_48 ex => ?_)
    have hk := zOk_bnd ex hk
    refine zr_istore (L' := [(0, zrf E 0), (1, .int x1), (2, .int x2), (3, .int x3), (4, .int x4), (5, .int x5_48), (6, .int x6), (7, .int s.2)]) h [1, 2, 3, 4, 5, 0, 6, 7] dX12_unlikeBy_48 (by decide) rfl ?_
    obtain ⟨x7_50, ex⟩ : ∃ y : Int32, y = s.2 + (zI 1) := ⟨_, rfl⟩
    have hk := zOk_bnd ex hk
    refine zr_iinc (v := x7_50) (L' := [(0, zrf E 0), (1, .int x1), (2, .int x2), (3, .int x3), (4, .int x4), (5, .int x5_48), (6, .int x6), (7, .int x7_50)]) h 7 [1, 2, 3, 4, 5, 6, 7, 0] dX12_unlikeBy_50 rfl (by rw [ex]; rfl) (by decide) rfl ?_
    refine zr_goto (tgt := 15) h dX12_unlikeBy_53 (by decide) ?_
    have hk := zOk_some hk
    exact zr_weak h [0, 1, 2, 3, 4, 5, 6, 7] rfl hk
noncomputable def f_X12_unlikeBy_L6 (M : ZMem) (x1 : Int32) (x2 : Int32) (x3 : Int32) (x4 : Int32) (s : (Int32 × Int32)) : Option ((Int32 × Int32) ⊕ (Int32)) := if (zI 5) ≤ s.2 then some (.inr s.1) else zbind (zloop (f_X12_unlikeBy_L15 M x1 x2 x3 x4 s.2) (s.1, (zI 0))) (fun e15 => zbnd (s.2 + (zI 1)) (fun x6_56 => some (.inl (e15, x6_56))))
set_option maxRecDepth 100000 in
set_option maxHeartbeats 4000000 in
theorem w_X12_unlikeBy_L6 {E : ZEv} {G : ZG} {K : Int32 → Prop} (M : ZMem) (h : zRu lyR E G (zRp M K) cX12_unlikeBy RX12 8 (some .int) 1) (x1 : Int32) (x2 : Int32) (x3 : Int32) (x4 : Int32) (s : (Int32 × Int32)) (hk : zOk (zloop (f_X12_unlikeBy_L6 M x1 x2 x3 x4) s) (fun e => G M 62 [(5, .int e)] [])) : G M 6 [(0, zrf E 0), (1, .int x1), (2, .int x2), (3, .int x3), (4, .int x4), (5, .int s.1), (6, .int s.2)] [] := by
  refine zloop_walk (P := fun s => G M 6 [(0, zrf E 0), (1, .int x1), (2, .int x2), (3, .int x3), (4, .int x4), (5, .int s.1), (6, .int s.2)] []) hk (fun s hk => ?_)
  unfold f_X12_unlikeBy_L6 at hk
  refine zr_iload h dX12_unlikeBy_6 6 rfl ?_
  refine zr_iconst (v := (zI 5)) h dX12_unlikeBy_8 rfl ?_
  refine zr_icmp_ge (tgt := 62) h dX12_unlikeBy_9 (by decide) (fun c => ?_) (fun c => ?_)
  · have hk := zOk_t c hk
    have hk := zOk_some hk
    exact zr_weak h [5] rfl hk
  · have hk := zOk_f c hk
    refine zr_iconst (v := (zI 0)) h dX12_unlikeBy_12 rfl ?_
    refine zr_istore (L' := [(0, zrf E 0), (1, .int x1), (2, .int x2), (3, .int x3), (4, .int x4), (5, .int s.1), (6, .int s.2), (7, .int (zI 0))]) h [1, 2, 3, 4, 5, 6, 7, 0] dX12_unlikeBy_13 (by decide) rfl ?_
    refine w_X12_unlikeBy_L15 M h x1 x2 x3 x4 s.2 (s.1, (zI 0)) (zOk_mono (zOk_bind hk) (fun e15 hk => ?_))
    obtain ⟨x6_56, ex⟩ : ∃ y : Int32, y = s.2 + (zI 1) := ⟨_, rfl⟩
    have hk := zOk_bnd ex hk
    refine zr_iinc (v := x6_56) (L' := [(0, zrf E 0), (1, .int x1), (2, .int x2), (3, .int x3), (4, .int x4), (5, .int e15), (6, .int x6_56)]) h 6 [1, 2, 3, 4, 5, 6, 0] dX12_unlikeBy_56 rfl (by rw [ex]; rfl) (by decide) rfl ?_
    refine zr_goto (tgt := 6) h dX12_unlikeBy_59 (by decide) ?_
    have hk := zOk_some hk
    exact zr_weak h [0, 1, 2, 3, 4, 5, 6] rfl hk
noncomputable def f_X12_unlikeBy (M : ZMem) (x1 : Int32) (x2 : Int32) (x3 : Int32) (x4 : Int32) : Option Int32 := zbind (zloop (f_X12_unlikeBy_L6 M x1 x2 x3 x4) ((zI 0), (zI 0))) (fun e6 => some e6)
set_option maxRecDepth 100000 in
set_option maxHeartbeats 4000000 in
theorem c_X12_unlikeBy (E : ZEv) (M : ZMem) (x1 : Int32) (x2 : Int32) (x3 : Int32) (x4 : Int32) (K : Int32 → Prop) (hk : zOk (f_X12_unlikeBy M x1 x2 x3 x4) K) : zCon lyR E yX12_unlikeBy cX12_unlikeBy 8 (some .int) 1 [zrf E 0, .int x1, .int x2, .int x3, .int x4] M (zRp M K) := by
  refine zcon_of (L0 := [(0, zrf E 0), (1, .int x1), (2, .int x2), (3, .int x3), (4, .int x4)]) (by decide) rfl (Nat.le_of_ble_eq_true rfl) (fun G h => ?_)
  have h : zRu lyR E G (zRp M K) cX12_unlikeBy RX12 8 (some .int) 1 := h
  unfold f_X12_unlikeBy at hk
  refine zr_iconst (v := (zI 0)) h dX12_unlikeBy_0 rfl ?_
  refine zr_istore (L' := [(0, zrf E 0), (1, .int x1), (2, .int x2), (3, .int x3), (4, .int x4), (5, .int (zI 0))]) h [1, 2, 3, 4, 5, 0] dX12_unlikeBy_1 (by decide) rfl ?_
  refine zr_iconst (v := (zI 0)) h dX12_unlikeBy_3 rfl ?_
  refine zr_istore (L' := [(0, zrf E 0), (1, .int x1), (2, .int x2), (3, .int x3), (4, .int x4), (5, .int (zI 0)), (6, .int (zI 0))]) h [1, 2, 3, 4, 5, 6, 0] dX12_unlikeBy_4 (by decide) rfl ?_
  refine w_X12_unlikeBy_L6 M h x1 x2 x3 x4 ((zI 0), (zI 0)) (zOk_mono (zOk_bind hk) (fun e6 hk => ?_))
  refine zr_iload h dX12_unlikeBy_62 0 rfl ?_
  have hk := zOk_some hk
  exact zr_iret h dX12_unlikeBy_64 ⟨rfl, _, rfl, hk⟩
theorem dX12_unlikeOf_0 : decode cX12_unlikeOf 0 = .ok (.bipush 25, 2) := by decide +kernel
theorem dX12_unlikeOf_2 : decode cX12_unlikeOf 2 = .ok (.istore_n 3, 1) := by decide +kernel
theorem dX12_unlikeOf_3 : decode cX12_unlikeOf 3 = .ok (.iconst (-1), 1) := by decide +kernel
theorem dX12_unlikeOf_4 : decode cX12_unlikeOf 4 = .ok (.istore 4, 2) := by decide +kernel
theorem dX12_unlikeOf_6 : decode cX12_unlikeOf 6 = .ok (.iload 4, 2) := by decide +kernel
theorem dX12_unlikeOf_8 : decode cX12_unlikeOf 8 = .ok (.iconst 1, 1) := by decide +kernel
theorem dX12_unlikeOf_9 : decode cX12_unlikeOf 9 = .ok (.if_icmp .gt 39, 3) := by decide +kernel
theorem dX12_unlikeOf_12 : decode cX12_unlikeOf 12 = .ok (.iconst (-1), 1) := by decide +kernel
theorem dX12_unlikeOf_13 : decode cX12_unlikeOf 13 = .ok (.istore 5, 2) := by decide +kernel
theorem dX12_unlikeOf_15 : decode cX12_unlikeOf 15 = .ok (.iload 5, 2) := by decide +kernel
theorem dX12_unlikeOf_17 : decode cX12_unlikeOf 17 = .ok (.iconst 1, 1) := by decide +kernel
theorem dX12_unlikeOf_18 : decode cX12_unlikeOf 18 = .ok (.if_icmp .gt 24, 3) := by decide +kernel
theorem dX12_unlikeOf_21 : decode cX12_unlikeOf 21 = .ok (.iload_n 3, 1) := by decide +kernel
theorem dX12_unlikeOf_22 : decode cX12_unlikeOf 22 = .ok (.aload_n 0, 1) := by decide +kernel
theorem dX12_unlikeOf_23 : decode cX12_unlikeOf 23 = .ok (.iload_n 1, 1) := by decide +kernel
theorem dX12_unlikeOf_24 : decode cX12_unlikeOf 24 = .ok (.iload_n 2, 1) := by decide +kernel
theorem dX12_unlikeOf_25 : decode cX12_unlikeOf 25 = .ok (.iload 4, 2) := by decide +kernel
theorem dX12_unlikeOf_27 : decode cX12_unlikeOf 27 = .ok (.iload 5, 2) := by decide +kernel
theorem dX12_unlikeOf_29 : decode cX12_unlikeOf 29 = .ok (.invokevirtual 249, 3) := by decide +kernel
theorem dX12_unlikeOf_32 : decode cX12_unlikeOf 32 = .ok (.invokestatic 138, 3) := by decide +kernel
theorem dX12_unlikeOf_35 : decode cX12_unlikeOf 35 = .ok (.istore_n 3, 1) := by decide +kernel
theorem dX12_unlikeOf_36 : decode cX12_unlikeOf 36 = .ok (.iinc 5 1, 3) := by decide +kernel
theorem dX12_unlikeOf_39 : decode cX12_unlikeOf 39 = .ok (.goto (-24), 3) := by decide +kernel
theorem dX12_unlikeOf_42 : decode cX12_unlikeOf 42 = .ok (.iinc 4 1, 3) := by decide +kernel
theorem dX12_unlikeOf_45 : decode cX12_unlikeOf 45 = .ok (.goto (-39), 3) := by decide +kernel
theorem dX12_unlikeOf_48 : decode cX12_unlikeOf 48 = .ok (.iload_n 3, 1) := by decide +kernel
theorem dX12_unlikeOf_49 : decode cX12_unlikeOf 49 = .ok (.ireturn, 1) := by decide +kernel
noncomputable def f_X12_unlikeOf_L15 (M : ZMem) (x1 : Int32) (x2 : Int32) (x4 : Int32) (s : (Int32 × Int32)) : Option ((Int32 × Int32) ⊕ (Int32)) := if (zI 1) < s.2 then some (.inr s.1) else zbind (f_X12_unlikeBy M x1 x2 x4 s.2) (fun r_29 => zbnd (if r_29 < s.1 then r_29 else s.1) (fun x3_35 => zbnd (s.2 + (zI 1)) (fun x5_36 => some (.inl (x3_35, x5_36)))))
set_option maxRecDepth 100000 in
set_option maxHeartbeats 4000000 in
theorem w_X12_unlikeOf_L15 {E : ZEv} {G : ZG} {K : Int32 → Prop} (M : ZMem) (h : zRu lyR E G (zRp M K) cX12_unlikeOf RX12 6 (some .int) 2) (x1 : Int32) (x2 : Int32) (x4 : Int32) (s : (Int32 × Int32)) (hk : zOk (zloop (f_X12_unlikeOf_L15 M x1 x2 x4) s) (fun e => G M 42 [(0, zrf E 0), (1, .int x1), (2, .int x2), (3, .int e), (4, .int x4)] [])) : G M 15 [(0, zrf E 0), (1, .int x1), (2, .int x2), (3, .int s.1), (4, .int x4), (5, .int s.2)] [] := by
  refine zloop_walk (P := fun s => G M 15 [(0, zrf E 0), (1, .int x1), (2, .int x2), (3, .int s.1), (4, .int x4), (5, .int s.2)] []) hk (fun s hk => ?_)
  unfold f_X12_unlikeOf_L15 at hk
  refine zr_iload h dX12_unlikeOf_15 5 rfl ?_
  refine zr_iconst (v := (zI 1)) h dX12_unlikeOf_17 rfl ?_
  refine zr_icmp_gt (tgt := 42) h dX12_unlikeOf_18 (by decide) (fun c => ?_) (fun c => ?_)
  · have hk := zOk_t c hk
    have hk := zOk_some hk
    exact zr_weak h [0, 1, 2, 3, 4] rfl hk
  · have hk := zOk_f c hk
    refine zr_iload_n h dX12_unlikeOf_21 3 rfl rfl ?_
    refine zr_aload_n h dX12_unlikeOf_22 0 rfl rfl ?_
    refine zr_iload_n h dX12_unlikeOf_23 1 rfl rfl ?_
    refine zr_iload_n h dX12_unlikeOf_24 2 rfl rfl ?_
    refine zr_iload h dX12_unlikeOf_25 4 rfl ?_
    refine zr_iload h dX12_unlikeOf_27 5 rfl ?_
    refine zr_callVp h lR_0 zcw_X12_249 (by decide) (c_X12_unlikeBy E M x1 x2 x4 s.2 _ (zOk_bind hk)) rfl rfl (Nat.le_of_ble_eq_true rfl) dX12_unlikeOf_29 (fun r_29 hk => ?_)
    refine zr_mmin h (zm_15 _ (List.mem_of_getElem? (i := 21) rfl)) (zm_12 _ (List.mem_of_getElem? (i := 11) rfl)) (zm_12 _ (List.mem_of_getElem? (i := 12) rfl)) (zm_12 _ (List.mem_of_getElem? (i := 13) rfl)) (Nat.le_of_ble_eq_true rfl) dX12_unlikeOf_32 ?_
    refine zr_topi (fun x3_35 ex => ?_)
    have hk := zOk_bnd ex hk
    refine zr_istore_n (L' := [(0, zrf E 0), (1, .int x1), (2, .int x2), (3, .int x3_35), (4, .int x4), (5, .int s.2)]) h [1, 2, 3, 0, 4, 5] dX12_unlikeOf_35 rfl (by decide) rfl ?_
    obtain ⟨x5_36, ex⟩ : ∃ y : Int32, y = s.2 + (zI 1) := ⟨_, rfl⟩
    have hk := zOk_bnd ex hk
    refine zr_iinc (v := x5_36) (L' := [(0, zrf E 0), (1, .int x1), (2, .int x2), (3, .int x3_35), (4, .int x4), (5, .int x5_36)]) h 5 [1, 2, 3, 4, 5, 0] dX12_unlikeOf_36 rfl (by rw [ex]; rfl) (by decide) rfl ?_
    refine zr_goto (tgt := 15) h dX12_unlikeOf_39 (by decide) ?_
    have hk := zOk_some hk
    exact zr_weak h [0, 1, 2, 3, 4, 5] rfl hk
noncomputable def f_X12_unlikeOf_L6 (M : ZMem) (x1 : Int32) (x2 : Int32) (s : (Int32 × Int32)) : Option ((Int32 × Int32) ⊕ (Int32)) := if (zI 1) < s.2 then some (.inr s.1) else zbind (zloop (f_X12_unlikeOf_L15 M x1 x2 s.2) (s.1, (zI (-1)))) (fun e15 => zbnd (s.2 + (zI 1)) (fun x4_42 => some (.inl (e15, x4_42))))
set_option maxRecDepth 100000 in
set_option maxHeartbeats 4000000 in
theorem w_X12_unlikeOf_L6 {E : ZEv} {G : ZG} {K : Int32 → Prop} (M : ZMem) (h : zRu lyR E G (zRp M K) cX12_unlikeOf RX12 6 (some .int) 2) (x1 : Int32) (x2 : Int32) (s : (Int32 × Int32)) (hk : zOk (zloop (f_X12_unlikeOf_L6 M x1 x2) s) (fun e => G M 48 [(3, .int e)] [])) : G M 6 [(0, zrf E 0), (1, .int x1), (2, .int x2), (3, .int s.1), (4, .int s.2)] [] := by
  refine zloop_walk (P := fun s => G M 6 [(0, zrf E 0), (1, .int x1), (2, .int x2), (3, .int s.1), (4, .int s.2)] []) hk (fun s hk => ?_)
  unfold f_X12_unlikeOf_L6 at hk
  refine zr_iload h dX12_unlikeOf_6 4 rfl ?_
  refine zr_iconst (v := (zI 1)) h dX12_unlikeOf_8 rfl ?_
  refine zr_icmp_gt (tgt := 48) h dX12_unlikeOf_9 (by decide) (fun c => ?_) (fun c => ?_)
  · have hk := zOk_t c hk
    have hk := zOk_some hk
    exact zr_weak h [3] rfl hk
  · have hk := zOk_f c hk
    refine zr_iconst (v := (zI (-1))) h dX12_unlikeOf_12 rfl ?_
    refine zr_istore (L' := [(0, zrf E 0), (1, .int x1), (2, .int x2), (3, .int s.1), (4, .int s.2), (5, .int (zI (-1)))]) h [1, 2, 3, 4, 5, 0] dX12_unlikeOf_13 (by decide) rfl ?_
    refine w_X12_unlikeOf_L15 M h x1 x2 s.2 (s.1, (zI (-1))) (zOk_mono (zOk_bind hk) (fun e15 hk => ?_))
    obtain ⟨x4_42, ex⟩ : ∃ y : Int32, y = s.2 + (zI 1) := ⟨_, rfl⟩
    have hk := zOk_bnd ex hk
    refine zr_iinc (v := x4_42) (L' := [(0, zrf E 0), (1, .int x1), (2, .int x2), (3, .int e15), (4, .int x4_42)]) h 4 [1, 2, 3, 4, 0] dX12_unlikeOf_42 rfl (by rw [ex]; rfl) (by decide) rfl ?_
    refine zr_goto (tgt := 6) h dX12_unlikeOf_45 (by decide) ?_
    have hk := zOk_some hk
    exact zr_weak h [0, 1, 2, 3, 4] rfl hk
noncomputable def f_X12_unlikeOf (M : ZMem) (x1 : Int32) (x2 : Int32) : Option Int32 := zbind (zloop (f_X12_unlikeOf_L6 M x1 x2) ((zI 25), (zI (-1)))) (fun e6 => some e6)
set_option maxRecDepth 100000 in
set_option maxHeartbeats 4000000 in
theorem c_X12_unlikeOf (E : ZEv) (M : ZMem) (x1 : Int32) (x2 : Int32) (K : Int32 → Prop) (hk : zOk (f_X12_unlikeOf M x1 x2) K) : zCon lyR E yX12_unlikeOf cX12_unlikeOf 6 (some .int) 2 [zrf E 0, .int x1, .int x2] M (zRp M K) := by
  refine zcon_of (L0 := [(0, zrf E 0), (1, .int x1), (2, .int x2)]) (by decide) rfl (Nat.le_of_ble_eq_true rfl) (fun G h => ?_)
  have h : zRu lyR E G (zRp M K) cX12_unlikeOf RX12 6 (some .int) 2 := h
  unfold f_X12_unlikeOf at hk
  refine zr_bipush (v := (zI 25)) h dX12_unlikeOf_0 (by decide) ?_
  refine zr_istore_n (L' := [(0, zrf E 0), (1, .int x1), (2, .int x2), (3, .int (zI 25))]) h [1, 2, 3, 0] dX12_unlikeOf_2 rfl (by decide) rfl ?_
  refine zr_iconst (v := (zI (-1))) h dX12_unlikeOf_3 rfl ?_
  refine zr_istore (L' := [(0, zrf E 0), (1, .int x1), (2, .int x2), (3, .int (zI 25)), (4, .int (zI (-1)))]) h [1, 2, 3, 4, 0] dX12_unlikeOf_4 (by decide) rfl ?_
  refine w_X12_unlikeOf_L6 M h x1 x2 ((zI 25), (zI (-1))) (zOk_mono (zOk_bind hk) (fun e6 hk => ?_))
  refine zr_iload_n h dX12_unlikeOf_48 0 rfl rfl ?_
  have hk := zOk_some hk
  exact zr_iret h dX12_unlikeOf_49 ⟨rfl, _, rfl, hk⟩
theorem dX12_areLinked_0 : decode cX12_areLinked 0 = .ok (.aload_n 0, 1) := by decide +kernel
theorem dX12_areLinked_1 : decode cX12_areLinked 1 = .ok (.getfield 35, 3) := by decide +kernel
theorem dX12_areLinked_4 : decode cX12_areLinked 4 = .ok (.iload_n 1, 1) := by decide +kernel
theorem dX12_areLinked_5 : decode cX12_areLinked 5 = .ok (.iload_n 2, 1) := by decide +kernel
theorem dX12_areLinked_6 : decode cX12_areLinked 6 = .ok (.invokestatic 228, 3) := by decide +kernel
theorem dX12_areLinked_9 : decode cX12_areLinked 9 = .ok (.iaload, 1) := by decide +kernel
theorem dX12_areLinked_10 : decode cX12_areLinked 10 = .ok (.istore_n 3, 1) := by decide +kernel
theorem dX12_areLinked_11 : decode cX12_areLinked 11 = .ok (.iload_n 3, 1) := by decide +kernel
theorem dX12_areLinked_12 : decode cX12_areLinked 12 = .ok (.iconst 1, 1) := by decide +kernel
theorem dX12_areLinked_13 : decode cX12_areLinked 13 = .ok (.if_icmp .eq 23, 3) := by decide +kernel
theorem dX12_areLinked_16 : decode cX12_areLinked 16 = .ok (.iload_n 3, 1) := by decide +kernel
theorem dX12_areLinked_17 : decode cX12_areLinked 17 = .ok (.iconst 2, 1) := by decide +kernel
theorem dX12_areLinked_18 : decode cX12_areLinked 18 = .ok (.if_icmp .eq 22, 3) := by decide +kernel
theorem dX12_areLinked_21 : decode cX12_areLinked 21 = .ok (.aload_n 0, 1) := by decide +kernel
theorem dX12_areLinked_22 : decode cX12_areLinked 22 = .ok (.iload_n 1, 1) := by decide +kernel
theorem dX12_areLinked_23 : decode cX12_areLinked 23 = .ok (.iload_n 2, 1) := by decide +kernel
theorem dX12_areLinked_24 : decode cX12_areLinked 24 = .ok (.invokevirtual 252, 3) := by decide +kernel
theorem dX12_areLinked_27 : decode cX12_areLinked 27 = .ok (.aload_n 0, 1) := by decide +kernel
theorem dX12_areLinked_28 : decode cX12_areLinked 28 = .ok (.getfield 35, 3) := by decide +kernel
theorem dX12_areLinked_31 : decode cX12_areLinked 31 = .ok (.iconst 0, 1) := by decide +kernel
theorem dX12_areLinked_32 : decode cX12_areLinked 32 = .ok (.iaload, 1) := by decide +kernel
theorem dX12_areLinked_33 : decode cX12_areLinked 33 = .ok (.if_icmp .gt 7, 3) := by decide +kernel
theorem dX12_areLinked_36 : decode cX12_areLinked 36 = .ok (.iconst 1, 1) := by decide +kernel
theorem dX12_areLinked_37 : decode cX12_areLinked 37 = .ok (.goto 4, 3) := by decide +kernel
theorem dX12_areLinked_40 : decode cX12_areLinked 40 = .ok (.iconst 0, 1) := by decide +kernel
theorem dX12_areLinked_41 : decode cX12_areLinked 41 = .ok (.ireturn, 1) := by decide +kernel
noncomputable def f_X12_areLinked (M : ZMem) (x1 : Int32) (x2 : Int32) : Option Int32 := zbind (f_X12_twoAt M x1 x2) (fun r_6 => zchk (zin r_6 460) (zbnd (M.1 9 (zix r_6)) (fun x3_10 => if x3_10 = (zI 1) then some (zI 1) else if x3_10 = (zI 2) then some (zI 0) else zbind (f_X12_unlikeOf M x1 x2) (fun r_24 => if (M.1 9 (zix (zI 0))) < r_24 then some (zI 0) else some (zI 1)))))
set_option maxRecDepth 100000 in
set_option maxHeartbeats 4000000 in
theorem c_X12_areLinked (E : ZEv) (M : ZMem) (x1 : Int32) (x2 : Int32) (K : Int32 → Prop) (hk : zOk (f_X12_areLinked M x1 x2) K) : zCon lyR E yX12_areLinked cX12_areLinked 4 (some .boolean) 3 [zrf E 0, .int x1, .int x2] M (zRp M K) := by
  refine zcon_of (L0 := [(0, zrf E 0), (1, .int x1), (2, .int x2)]) (by decide) rfl (Nat.le_of_ble_eq_true rfl) (fun G h => ?_)
  have h : zRu lyR E G (zRp M K) cX12_areLinked RX12 4 (some .boolean) 3 := h
  unfold f_X12_areLinked at hk
  refine zr_aload_n h dX12_areLinked_0 0 rfl rfl ?_
  refine zr_getR h zfo_X12_35 lR_0 rfl dX12_areLinked_1 ?_
  refine zr_iload_n h dX12_areLinked_4 1 rfl rfl ?_
  refine zr_iload_n h dX12_areLinked_5 2 rfl rfl ?_
  refine zr_callSp h zcw_X12_228 (by decide) (c_X12_twoAt E M x1 x2 _ (zOk_bind hk)) rfl rfl (Nat.le_of_ble_eq_true rfl) dX12_areLinked_6 (fun r_6 hk => ?_)
  have hb := zOk_chk hk
  have hk := hb.2
  refine zr_iald h lR_9 hb.1 dX12_areLinked_9 ?_
  refine zr_topi (fun x3_10 ex => ?_)
  have hk := zOk_bnd ex hk
  refine zr_istore_n (L' := [(0, zrf E 0), (1, .int x1), (2, .int x2), (3, .int x3_10)]) h [1, 2, 3, 0] dX12_areLinked_10 rfl (by decide) rfl ?_
  refine zr_iload_n h dX12_areLinked_11 3 rfl rfl ?_
  refine zr_iconst (v := (zI 1)) h dX12_areLinked_12 rfl ?_
  refine zr_icmp_eq (tgt := 36) h dX12_areLinked_13 (by decide) (fun c => ?_) (fun c => ?_)
  · have hk := zOk_t c hk
    refine zr_iconst (v := (zI 1)) h dX12_areLinked_36 rfl ?_
    refine zr_goto (tgt := 41) h dX12_areLinked_37 (by decide) ?_
    have hk := zOk_some hk
    exact zr_zret h dX12_areLinked_41 (by decide) ⟨rfl, _, rfl, hk⟩
  · have hk := zOk_f c hk
    refine zr_iload_n h dX12_areLinked_16 3 rfl rfl ?_
    refine zr_iconst (v := (zI 2)) h dX12_areLinked_17 rfl ?_
    refine zr_icmp_eq (tgt := 40) h dX12_areLinked_18 (by decide) (fun c => ?_) (fun c => ?_)
    · have hk := zOk_t c hk
      refine zr_iconst (v := (zI 0)) h dX12_areLinked_40 rfl ?_
      have hk := zOk_some hk
      exact zr_zret h dX12_areLinked_41 (by decide) ⟨rfl, _, rfl, hk⟩
    · have hk := zOk_f c hk
      refine zr_aload_n h dX12_areLinked_21 0 rfl rfl ?_
      refine zr_iload_n h dX12_areLinked_22 1 rfl rfl ?_
      refine zr_iload_n h dX12_areLinked_23 2 rfl rfl ?_
      refine zr_callVp h lR_0 zcw_X12_252 (by decide) (c_X12_unlikeOf E M x1 x2 _ (zOk_bind hk)) rfl rfl (Nat.le_of_ble_eq_true rfl) dX12_areLinked_24 (fun r_24 hk => ?_)
      refine zr_aload_n h dX12_areLinked_27 0 rfl rfl ?_
      refine zr_getR h zfo_X12_35 lR_0 rfl dX12_areLinked_28 ?_
      refine zr_iconst (v := (zI 0)) h dX12_areLinked_31 rfl ?_
      refine zr_iald h lR_9 (by decide) dX12_areLinked_32 ?_
      refine zr_icmp_gt (tgt := 40) h dX12_areLinked_33 (by decide) (fun c => ?_) (fun c => ?_)
      · have hk := zOk_t c hk
        refine zr_iconst (v := (zI 0)) h dX12_areLinked_40 rfl ?_
        have hk := zOk_some hk
        exact zr_zret h dX12_areLinked_41 (by decide) ⟨rfl, _, rfl, hk⟩
      · have hk := zOk_f c hk
        refine zr_iconst (v := (zI 1)) h dX12_areLinked_36 rfl ?_
        refine zr_goto (tgt := 41) h dX12_areLinked_37 (by decide) ?_
        have hk := zOk_some hk
        exact zr_zret h dX12_areLinked_41 (by decide) ⟨rfl, _, rfl, hk⟩
theorem dX12_laysSigns_0 : decode cX12_laysSigns 0 = .ok (.iconst 0, 1) := by decide +kernel
theorem dX12_laysSigns_1 : decode cX12_laysSigns 1 = .ok (.istore_n 1, 1) := by decide +kernel
theorem dX12_laysSigns_2 : decode cX12_laysSigns 2 = .ok (.iload_n 1, 1) := by decide +kernel
theorem dX12_laysSigns_3 : decode cX12_laysSigns 3 = .ok (.aload_n 0, 1) := by decide +kernel
theorem dX12_laysSigns_4 : decode cX12_laysSigns 4 = .ok (.getfield 162, 3) := by decide +kernel
theorem dX12_laysSigns_7 : decode cX12_laysSigns 7 = .ok (.if_icmp .ge 16, 3) := by decide +kernel
theorem dX12_laysSigns_10 : decode cX12_laysSigns 10 = .ok (.aload_n 0, 1) := by decide +kernel
theorem dX12_laysSigns_11 : decode cX12_laysSigns 11 = .ok (.getfield 41, 3) := by decide +kernel
theorem dX12_laysSigns_14 : decode cX12_laysSigns 14 = .ok (.iload_n 1, 1) := by decide +kernel
theorem dX12_laysSigns_15 : decode cX12_laysSigns 15 = .ok (.iload_n 1, 1) := by decide +kernel
theorem dX12_laysSigns_16 : decode cX12_laysSigns 16 = .ok (.iastore, 1) := by decide +kernel
theorem dX12_laysSigns_17 : decode cX12_laysSigns 17 = .ok (.iinc 1 1, 3) := by decide +kernel
theorem dX12_laysSigns_20 : decode cX12_laysSigns 20 = .ok (.goto (-18), 3) := by decide +kernel
theorem dX12_laysSigns_23 : decode cX12_laysSigns 23 = .ok (.iconst 1, 1) := by decide +kernel
theorem dX12_laysSigns_24 : decode cX12_laysSigns 24 = .ok (.istore_n 1, 1) := by decide +kernel
theorem dX12_laysSigns_25 : decode cX12_laysSigns 25 = .ok (.iload_n 1, 1) := by decide +kernel
theorem dX12_laysSigns_26 : decode cX12_laysSigns 26 = .ok (.ifCond .eq 83, 3) := by decide +kernel
theorem dX12_laysSigns_29 : decode cX12_laysSigns 29 = .ok (.iconst 0, 1) := by decide +kernel
theorem dX12_laysSigns_30 : decode cX12_laysSigns 30 = .ok (.istore_n 1, 1) := by decide +kernel
theorem dX12_laysSigns_31 : decode cX12_laysSigns 31 = .ok (.iconst 0, 1) := by decide +kernel
theorem dX12_laysSigns_32 : decode cX12_laysSigns 32 = .ok (.istore_n 2, 1) := by decide +kernel
theorem dX12_laysSigns_33 : decode cX12_laysSigns 33 = .ok (.iload_n 2, 1) := by decide +kernel
theorem dX12_laysSigns_34 : decode cX12_laysSigns 34 = .ok (.aload_n 0, 1) := by decide +kernel
theorem dX12_laysSigns_35 : decode cX12_laysSigns 35 = .ok (.getfield 162, 3) := by decide +kernel
theorem dX12_laysSigns_38 : decode cX12_laysSigns 38 = .ok (.if_icmp .ge 68, 3) := by decide +kernel
theorem dX12_laysSigns_41 : decode cX12_laysSigns 41 = .ok (.iconst 0, 1) := by decide +kernel
theorem dX12_laysSigns_42 : decode cX12_laysSigns 42 = .ok (.istore_n 3, 1) := by decide +kernel
theorem dX12_laysSigns_43 : decode cX12_laysSigns 43 = .ok (.iload_n 3, 1) := by decide +kernel
theorem dX12_laysSigns_44 : decode cX12_laysSigns 44 = .ok (.aload_n 0, 1) := by decide +kernel
theorem dX12_laysSigns_45 : decode cX12_laysSigns 45 = .ok (.getfield 162, 3) := by decide +kernel
theorem dX12_laysSigns_48 : decode cX12_laysSigns 48 = .ok (.if_icmp .ge 52, 3) := by decide +kernel
theorem dX12_laysSigns_51 : decode cX12_laysSigns 51 = .ok (.iload_n 2, 1) := by decide +kernel
theorem dX12_laysSigns_52 : decode cX12_laysSigns 52 = .ok (.iload_n 3, 1) := by decide +kernel
theorem dX12_laysSigns_53 : decode cX12_laysSigns 53 = .ok (.if_icmp .eq 41, 3) := by decide +kernel
theorem dX12_laysSigns_56 : decode cX12_laysSigns 56 = .ok (.aload_n 0, 1) := by decide +kernel
theorem dX12_laysSigns_57 : decode cX12_laysSigns 57 = .ok (.getfield 41, 3) := by decide +kernel
theorem dX12_laysSigns_60 : decode cX12_laysSigns 60 = .ok (.iload_n 2, 1) := by decide +kernel
theorem dX12_laysSigns_61 : decode cX12_laysSigns 61 = .ok (.iaload, 1) := by decide +kernel
theorem dX12_laysSigns_62 : decode cX12_laysSigns 62 = .ok (.aload_n 0, 1) := by decide +kernel
theorem dX12_laysSigns_63 : decode cX12_laysSigns 63 = .ok (.getfield 41, 3) := by decide +kernel
theorem dX12_laysSigns_66 : decode cX12_laysSigns 66 = .ok (.iload_n 3, 1) := by decide +kernel
theorem dX12_laysSigns_67 : decode cX12_laysSigns 67 = .ok (.iaload, 1) := by decide +kernel
theorem dX12_laysSigns_68 : decode cX12_laysSigns 68 = .ok (.if_icmp .ge 26, 3) := by decide +kernel
theorem dX12_laysSigns_71 : decode cX12_laysSigns 71 = .ok (.aload_n 0, 1) := by decide +kernel
theorem dX12_laysSigns_72 : decode cX12_laysSigns 72 = .ok (.iload_n 2, 1) := by decide +kernel
theorem dX12_laysSigns_73 : decode cX12_laysSigns 73 = .ok (.iload_n 3, 1) := by decide +kernel
theorem dX12_laysSigns_74 : decode cX12_laysSigns 74 = .ok (.invokevirtual 255, 3) := by decide +kernel
theorem dX12_laysSigns_77 : decode cX12_laysSigns 77 = .ok (.ifCond .eq 17, 3) := by decide +kernel
theorem dX12_laysSigns_80 : decode cX12_laysSigns 80 = .ok (.aload_n 0, 1) := by decide +kernel
theorem dX12_laysSigns_81 : decode cX12_laysSigns 81 = .ok (.getfield 41, 3) := by decide +kernel
theorem dX12_laysSigns_84 : decode cX12_laysSigns 84 = .ok (.iload_n 3, 1) := by decide +kernel
theorem dX12_laysSigns_85 : decode cX12_laysSigns 85 = .ok (.aload_n 0, 1) := by decide +kernel
theorem dX12_laysSigns_86 : decode cX12_laysSigns 86 = .ok (.getfield 41, 3) := by decide +kernel
theorem dX12_laysSigns_89 : decode cX12_laysSigns 89 = .ok (.iload_n 2, 1) := by decide +kernel
theorem dX12_laysSigns_90 : decode cX12_laysSigns 90 = .ok (.iaload, 1) := by decide +kernel
theorem dX12_laysSigns_91 : decode cX12_laysSigns 91 = .ok (.iastore, 1) := by decide +kernel
theorem dX12_laysSigns_92 : decode cX12_laysSigns 92 = .ok (.iconst 1, 1) := by decide +kernel
theorem dX12_laysSigns_93 : decode cX12_laysSigns 93 = .ok (.istore_n 1, 1) := by decide +kernel
theorem dX12_laysSigns_94 : decode cX12_laysSigns 94 = .ok (.iinc 3 1, 3) := by decide +kernel
theorem dX12_laysSigns_97 : decode cX12_laysSigns 97 = .ok (.goto (-54), 3) := by decide +kernel
theorem dX12_laysSigns_100 : decode cX12_laysSigns 100 = .ok (.iinc 2 1, 3) := by decide +kernel
theorem dX12_laysSigns_103 : decode cX12_laysSigns 103 = .ok (.goto (-70), 3) := by decide +kernel
theorem dX12_laysSigns_106 : decode cX12_laysSigns 106 = .ok (.goto (-81), 3) := by decide +kernel
theorem dX12_laysSigns_109 : decode cX12_laysSigns 109 = .ok (.aload_n 0, 1) := by decide +kernel
theorem dX12_laysSigns_110 : decode cX12_laysSigns 110 = .ok (.iconst 0, 1) := by decide +kernel
theorem dX12_laysSigns_111 : decode cX12_laysSigns 111 = .ok (.putfield 259, 3) := by decide +kernel
theorem dX12_laysSigns_114 : decode cX12_laysSigns 114 = .ok (.iconst 0, 1) := by decide +kernel
theorem dX12_laysSigns_115 : decode cX12_laysSigns 115 = .ok (.istore_n 2, 1) := by decide +kernel
theorem dX12_laysSigns_116 : decode cX12_laysSigns 116 = .ok (.iload_n 2, 1) := by decide +kernel
theorem dX12_laysSigns_117 : decode cX12_laysSigns 117 = .ok (.aload_n 0, 1) := by decide +kernel
theorem dX12_laysSigns_118 : decode cX12_laysSigns 118 = .ok (.getfield 162, 3) := by decide +kernel
theorem dX12_laysSigns_121 : decode cX12_laysSigns 121 = .ok (.if_icmp .ge 36, 3) := by decide +kernel
theorem dX12_laysSigns_124 : decode cX12_laysSigns 124 = .ok (.aload_n 0, 1) := by decide +kernel
theorem dX12_laysSigns_125 : decode cX12_laysSigns 125 = .ok (.dup, 1) := by decide +kernel
theorem dX12_laysSigns_126 : decode cX12_laysSigns 126 = .ok (.getfield 259, 3) := by decide +kernel
theorem dX12_laysSigns_129 : decode cX12_laysSigns 129 = .ok (.aload_n 0, 1) := by decide +kernel
theorem dX12_laysSigns_130 : decode cX12_laysSigns 130 = .ok (.getfield 41, 3) := by decide +kernel
theorem dX12_laysSigns_133 : decode cX12_laysSigns 133 = .ok (.iload_n 2, 1) := by decide +kernel
theorem dX12_laysSigns_134 : decode cX12_laysSigns 134 = .ok (.iaload, 1) := by decide +kernel
theorem dX12_laysSigns_135 : decode cX12_laysSigns 135 = .ok (.iload_n 2, 1) := by decide +kernel
theorem dX12_laysSigns_136 : decode cX12_laysSigns 136 = .ok (.if_icmp .ne 7, 3) := by decide +kernel
theorem dX12_laysSigns_139 : decode cX12_laysSigns 139 = .ok (.iconst 1, 1) := by decide +kernel
theorem dX12_laysSigns_140 : decode cX12_laysSigns 140 = .ok (.goto 4, 3) := by decide +kernel
theorem dX12_laysSigns_143 : decode cX12_laysSigns 143 = .ok (.iconst 0, 1) := by decide +kernel
theorem dX12_laysSigns_144 : decode cX12_laysSigns 144 = .ok (.invokestatic 177, 3) := by decide +kernel
theorem dX12_laysSigns_147 : decode cX12_laysSigns 147 = .ok (.iadd, 1) := by decide +kernel
theorem dX12_laysSigns_148 : decode cX12_laysSigns 148 = .ok (.putfield 259, 3) := by decide +kernel
theorem dX12_laysSigns_151 : decode cX12_laysSigns 151 = .ok (.iinc 2 1, 3) := by decide +kernel
theorem dX12_laysSigns_154 : decode cX12_laysSigns 154 = .ok (.goto (-38), 3) := by decide +kernel
theorem dX12_laysSigns_157 : decode cX12_laysSigns 157 = .ok (.return_, 1) := by decide +kernel
noncomputable def f_X12_laysSigns_L2 (s : (ZMem × Int32)) : Option ((ZMem × Int32) ⊕ (ZMem)) := if (s.1.1 0 4) ≤ s.2 then some (.inr s.1) else zchk (zin s.2 20) (zbnd (zstI s.1 11 (zix s.2) s.2) (fun M_16 => zbnd (s.2 + (zI 1)) (fun x1_17 => some (.inl (M_16, x1_17)))))
set_option maxRecDepth 100000 in
set_option maxHeartbeats 4000000 in
theorem w_X12_laysSigns_L2 {E : ZEv} {G : ZG} {K : ZMem → Prop} (h : zRu lyR E G (zRv K) cX12_laysSigns RX12 4 none 4) (s : (ZMem × Int32)) (hk : zOk (zloop (f_X12_laysSigns_L2) s) (fun e => G e 23 [(0, zrf E 0)] [])) : G s.1 2 [(0, zrf E 0), (1, .int s.2)] [] := by
  refine zloop_walk (P := fun s => G s.1 2 [(0, zrf E 0), (1, .int s.2)] []) hk (fun s hk => ?_)
  unfold f_X12_laysSigns_L2 at hk
  refine zr_iload_n h dX12_laysSigns_2 1 rfl rfl ?_
  refine zr_aload_n h dX12_laysSigns_3 0 rfl rfl ?_
  refine zr_getI h zfo_X12_162 lR_0 rfl dX12_laysSigns_4 ?_
  refine zr_icmp_ge (tgt := 23) h dX12_laysSigns_7 (by decide) (fun c => ?_) (fun c => ?_)
  · have hk := zOk_t c hk
    have hk := zOk_some hk
    exact zr_weak h [0] rfl hk
  · have hk := zOk_f c hk
    refine zr_aload_n h dX12_laysSigns_10 0 rfl rfl ?_
    refine zr_getR h zfo_X12_41 lR_0 rfl dX12_laysSigns_11 ?_
    refine zr_iload_n h dX12_laysSigns_14 1 rfl rfl ?_
    refine zr_iload_n h dX12_laysSigns_15 1 rfl rfl ?_
    have hb := zOk_chk hk
    have hk := hb.2
    refine zr_iast h lR_11 hb.1 dX12_laysSigns_16 ?_
    refine zr_mem (fun M_16 eM => ?_)
    have hk := zOk_bnd eM hk
    obtain ⟨x1_17, ex⟩ : ∃ y : Int32, y = s.2 + (zI 1) := ⟨_, rfl⟩
    have hk := zOk_bnd ex hk
    refine zr_iinc (v := x1_17) (L' := [(0, zrf E 0), (1, .int x1_17)]) h 1 [1, 0] dX12_laysSigns_17 rfl (by rw [ex]; rfl) (by decide) rfl ?_
    refine zr_goto (tgt := 2) h dX12_laysSigns_20 (by decide) ?_
    have hk := zOk_some hk
    exact zr_weak h [0, 1] rfl hk
noncomputable def f_X12_laysSigns_L43 (x2 : Int32) (s : (ZMem × Int32 × Int32)) : Option ((ZMem × Int32 × Int32) ⊕ (ZMem × Int32)) := if (s.1.1 0 4) ≤ s.2.2 then some (.inr (s.1, s.2.1)) else if x2 = s.2.2 then zbnd (s.2.2 + (zI 1)) (fun x3_94 => some (.inl (s.1, s.2.1, x3_94))) else zchk (zin x2 20) (zchk (zin s.2.2 20) (if (s.1.1 11 (zix s.2.2)) ≤ (s.1.1 11 (zix x2)) then zbnd (s.2.2 + (zI 1)) (fun x3_94 => some (.inl (s.1, s.2.1, x3_94))) else zbind (f_X12_areLinked s.1 x2 s.2.2) (fun r_74 => if r_74 = (zI 0) then zbnd (s.2.2 + (zI 1)) (fun x3_94 => some (.inl (s.1, s.2.1, x3_94))) else zchk (zin x2 20) (zchk (zin s.2.2 20) (zbnd (zstI s.1 11 (zix s.2.2) (s.1.1 11 (zix x2))) (fun M_91 => zbnd (s.2.2 + (zI 1)) (fun x3_94 => some (.inl (M_91, (zI 1), x3_94)))))))))
set_option maxRecDepth 100000 in
set_option maxHeartbeats 4000000 in
theorem w_X12_laysSigns_L43 {E : ZEv} {G : ZG} {K : ZMem → Prop} (h : zRu lyR E G (zRv K) cX12_laysSigns RX12 4 none 4) (x2 : Int32) (s : (ZMem × Int32 × Int32)) (hk : zOk (zloop (f_X12_laysSigns_L43 x2) s) (fun e => G e.1 100 [(0, zrf E 0), (1, .int e.2), (2, .int x2)] [])) : G s.1 43 [(0, zrf E 0), (1, .int s.2.1), (2, .int x2), (3, .int s.2.2)] [] := by
  refine zloop_walk (P := fun s => G s.1 43 [(0, zrf E 0), (1, .int s.2.1), (2, .int x2), (3, .int s.2.2)] []) hk (fun s hk => ?_)
  unfold f_X12_laysSigns_L43 at hk
  refine zr_iload_n h dX12_laysSigns_43 3 rfl rfl ?_
  refine zr_aload_n h dX12_laysSigns_44 0 rfl rfl ?_
  refine zr_getI h zfo_X12_162 lR_0 rfl dX12_laysSigns_45 ?_
  refine zr_icmp_ge (tgt := 100) h dX12_laysSigns_48 (by decide) (fun c => ?_) (fun c => ?_)
  · have hk := zOk_t c hk
    have hk := zOk_some hk
    exact zr_weak h [0, 1, 2] rfl hk
  · have hk := zOk_f c hk
    refine zr_iload_n h dX12_laysSigns_51 2 rfl rfl ?_
    refine zr_iload_n h dX12_laysSigns_52 3 rfl rfl ?_
    refine zr_icmp_eq (tgt := 94) h dX12_laysSigns_53 (by decide) (fun c => ?_) (fun c => ?_)
    · have hk := zOk_t c hk
      obtain ⟨x3_94, ex⟩ : ∃ y : Int32, y = s.2.2 + (zI 1) := ⟨_, rfl⟩
      have hk := zOk_bnd ex hk
      refine zr_iinc (v := x3_94) (L' := [(0, zrf E 0), (1, .int s.2.1), (2, .int x2), (3, .int x3_94)]) h 3 [1, 2, 3, 0] dX12_laysSigns_94 rfl (by rw [ex]; rfl) (by decide) rfl ?_
      refine zr_goto (tgt := 43) h dX12_laysSigns_97 (by decide) ?_
      have hk := zOk_some hk
      exact zr_weak h [0, 1, 2, 3] rfl hk
    · have hk := zOk_f c hk
      refine zr_aload_n h dX12_laysSigns_56 0 rfl rfl ?_
      refine zr_getR h zfo_X12_41 lR_0 rfl dX12_laysSigns_57 ?_
      refine zr_iload_n h dX12_laysSigns_60 2 rfl rfl ?_
      have hb := zOk_chk hk
      have hk := hb.2
      refine zr_iald h lR_11 hb.1 dX12_laysSigns_61 ?_
      refine zr_aload_n h dX12_laysSigns_62 0 rfl rfl ?_
      refine zr_getR h zfo_X12_41 lR_0 rfl dX12_laysSigns_63 ?_
      refine zr_iload_n h dX12_laysSigns_66 3 rfl rfl ?_
      have hb := zOk_chk hk
      have hk := hb.2
      refine zr_iald h lR_11 hb.1 dX12_laysSigns_67 ?_
      refine zr_icmp_ge (tgt := 94) h dX12_laysSigns_68 (by decide) (fun c => ?_) (fun c => ?_)
      · have hk := zOk_t c hk
        obtain ⟨x3_94, ex⟩ : ∃ y : Int32, y = s.2.2 + (zI 1) := ⟨_, rfl⟩
        have hk := zOk_bnd ex hk
        refine zr_iinc (v := x3_94) (L' := [(0, zrf E 0), (1, .int s.2.1), (2, .int x2), (3, .int x3_94)]) h 3 [1, 2, 3, 0] dX12_laysSigns_94 rfl (by rw [ex]; rfl) (by decide) rfl ?_
        refine zr_goto (tgt := 43) h dX12_laysSigns_97 (by decide) ?_
        have hk := zOk_some hk
        exact zr_weak h [0, 1, 2, 3] rfl hk
      · have hk := zOk_f c hk
        refine zr_aload_n h dX12_laysSigns_71 0 rfl rfl ?_
        refine zr_iload_n h dX12_laysSigns_72 2 rfl rfl ?_
        refine zr_iload_n h dX12_laysSigns_73 3 rfl rfl ?_
        refine zr_callVp h lR_0 zcw_X12_255 (by decide) (c_X12_areLinked E s.1 x2 s.2.2 _ (zOk_bind hk)) rfl rfl (Nat.le_of_ble_eq_true rfl) dX12_laysSigns_74 (fun r_74 hk => ?_)
        refine zr_if_eq (tgt := 94) h dX12_laysSigns_77 (by decide) (fun c => ?_) (fun c => ?_)
        · have hk := zOk_t c hk
          obtain ⟨x3_94, ex⟩ : ∃ y : Int32, y = s.2.2 + (zI 1) := ⟨_, rfl⟩
          have hk := zOk_bnd ex hk
          refine zr_iinc (v := x3_94) (L' := [(0, zrf E 0), (1, .int s.2.1), (2, .int x2), (3, .int x3_94)]) h 3 [1, 2, 3, 0] dX12_laysSigns_94 rfl (by rw [ex]; rfl) (by decide) rfl ?_
          refine zr_goto (tgt := 43) h dX12_laysSigns_97 (by decide) ?_
          have hk := zOk_some hk
          exact zr_weak h [0, 1, 2, 3] rfl hk
        · have hk := zOk_f c hk
          refine zr_aload_n h dX12_laysSigns_80 0 rfl rfl ?_
          refine zr_getR h zfo_X12_41 lR_0 rfl dX12_laysSigns_81 ?_
          refine zr_iload_n h dX12_laysSigns_84 3 rfl rfl ?_
          refine zr_aload_n h dX12_laysSigns_85 0 rfl rfl ?_
          refine zr_getR h zfo_X12_41 lR_0 rfl dX12_laysSigns_86 ?_
          refine zr_iload_n h dX12_laysSigns_89 2 rfl rfl ?_
          have hb := zOk_chk hk
          have hk := hb.2
          refine zr_iald h lR_11 hb.1 dX12_laysSigns_90 ?_
          have hb := zOk_chk hk
          have hk := hb.2
          refine zr_iast h lR_11 hb.1 dX12_laysSigns_91 ?_
          refine zr_mem (fun M_91 eM => ?_)
          have hk := zOk_bnd eM hk
          refine zr_iconst (v := (zI 1)) h dX12_laysSigns_92 rfl ?_
          refine zr_istore_n (L' := [(0, zrf E 0), (1, .int (zI 1)), (2, .int x2), (3, .int s.2.2)]) h [1, 0, 2, 3] dX12_laysSigns_93 rfl (by decide) rfl ?_
          obtain ⟨x3_94, ex⟩ : ∃ y : Int32, y = s.2.2 + (zI 1) := ⟨_, rfl⟩
          have hk := zOk_bnd ex hk
          refine zr_iinc (v := x3_94) (L' := [(0, zrf E 0), (1, .int (zI 1)), (2, .int x2), (3, .int x3_94)]) h 3 [1, 2, 3, 0] dX12_laysSigns_94 rfl (by rw [ex]; rfl) (by decide) rfl ?_
          refine zr_goto (tgt := 43) h dX12_laysSigns_97 (by decide) ?_
          have hk := zOk_some hk
          exact zr_weak h [0, 1, 2, 3] rfl hk
noncomputable def f_X12_laysSigns_L33 (s : (ZMem × Int32 × Int32)) : Option ((ZMem × Int32 × Int32) ⊕ (ZMem × Int32)) := if (s.1.1 0 4) ≤ s.2.2 then some (.inr (s.1, s.2.1)) else zbind (zloop (f_X12_laysSigns_L43 s.2.2) (s.1, s.2.1, (zI 0))) (fun e43 => zbnd (s.2.2 + (zI 1)) (fun x2_100 => some (.inl (e43.1, e43.2, x2_100))))
set_option maxRecDepth 100000 in
set_option maxHeartbeats 4000000 in
theorem w_X12_laysSigns_L33 {E : ZEv} {G : ZG} {K : ZMem → Prop} (h : zRu lyR E G (zRv K) cX12_laysSigns RX12 4 none 4) (s : (ZMem × Int32 × Int32)) (hk : zOk (zloop (f_X12_laysSigns_L33) s) (fun e => G e.1 106 [(0, zrf E 0), (1, .int e.2)] [])) : G s.1 33 [(0, zrf E 0), (1, .int s.2.1), (2, .int s.2.2)] [] := by
  refine zloop_walk (P := fun s => G s.1 33 [(0, zrf E 0), (1, .int s.2.1), (2, .int s.2.2)] []) hk (fun s hk => ?_)
  unfold f_X12_laysSigns_L33 at hk
  refine zr_iload_n h dX12_laysSigns_33 2 rfl rfl ?_
  refine zr_aload_n h dX12_laysSigns_34 0 rfl rfl ?_
  refine zr_getI h zfo_X12_162 lR_0 rfl dX12_laysSigns_35 ?_
  refine zr_icmp_ge (tgt := 106) h dX12_laysSigns_38 (by decide) (fun c => ?_) (fun c => ?_)
  · have hk := zOk_t c hk
    have hk := zOk_some hk
    exact zr_weak h [0, 1] rfl hk
  · have hk := zOk_f c hk
    refine zr_iconst (v := (zI 0)) h dX12_laysSigns_41 rfl ?_
    refine zr_istore_n (L' := [(0, zrf E 0), (1, .int s.2.1), (2, .int s.2.2), (3, .int (zI 0))]) h [1, 2, 3, 0] dX12_laysSigns_42 rfl (by decide) rfl ?_
    refine w_X12_laysSigns_L43 h s.2.2 (s.1, s.2.1, (zI 0)) (zOk_mono (zOk_bind hk) (fun e43 hk => ?_))
    obtain ⟨x2_100, ex⟩ : ∃ y : Int32, y = s.2.2 + (zI 1) := ⟨_, rfl⟩
    have hk := zOk_bnd ex hk
    refine zr_iinc (v := x2_100) (L' := [(0, zrf E 0), (1, .int e43.2), (2, .int x2_100)]) h 2 [1, 2, 0] dX12_laysSigns_100 rfl (by rw [ex]; rfl) (by decide) rfl ?_
    refine zr_goto (tgt := 33) h dX12_laysSigns_103 (by decide) ?_
    have hk := zOk_some hk
    exact zr_weak h [0, 1, 2] rfl hk
noncomputable def f_X12_laysSigns_L25 (s : (ZMem × Int32)) : Option ((ZMem × Int32) ⊕ (ZMem)) := if s.2 = (zI 0) then some (.inr s.1) else zbind (zloop (f_X12_laysSigns_L33) (s.1, (zI 0), (zI 0))) (fun e33 => some (.inl (e33.1, e33.2)))
set_option maxRecDepth 100000 in
set_option maxHeartbeats 4000000 in
theorem w_X12_laysSigns_L25 {E : ZEv} {G : ZG} {K : ZMem → Prop} (h : zRu lyR E G (zRv K) cX12_laysSigns RX12 4 none 4) (s : (ZMem × Int32)) (hk : zOk (zloop (f_X12_laysSigns_L25) s) (fun e => G e 109 [(0, zrf E 0)] [])) : G s.1 25 [(0, zrf E 0), (1, .int s.2)] [] := by
  refine zloop_walk (P := fun s => G s.1 25 [(0, zrf E 0), (1, .int s.2)] []) hk (fun s hk => ?_)
  unfold f_X12_laysSigns_L25 at hk
  refine zr_iload_n h dX12_laysSigns_25 1 rfl rfl ?_
  refine zr_if_eq (tgt := 109) h dX12_laysSigns_26 (by decide) (fun c => ?_) (fun c => ?_)
  · have hk := zOk_t c hk
    have hk := zOk_some hk
    exact zr_weak h [0] rfl hk
  · have hk := zOk_f c hk
    refine zr_iconst (v := (zI 0)) h dX12_laysSigns_29 rfl ?_
    refine zr_istore_n (L' := [(0, zrf E 0), (1, .int (zI 0))]) h [1, 0] dX12_laysSigns_30 rfl (by decide) rfl ?_
    refine zr_iconst (v := (zI 0)) h dX12_laysSigns_31 rfl ?_
    refine zr_istore_n (L' := [(0, zrf E 0), (1, .int (zI 0)), (2, .int (zI 0))]) h [1, 2, 0] dX12_laysSigns_32 rfl (by decide) rfl ?_
    refine w_X12_laysSigns_L33 h (s.1, (zI 0), (zI 0)) (zOk_mono (zOk_bind hk) (fun e33 hk => ?_))
    refine zr_goto (tgt := 25) h dX12_laysSigns_106 (by decide) ?_
    have hk := zOk_some hk
    exact zr_weak h [0, 1] rfl hk
noncomputable def f_X12_laysSigns_144_L116 (M : ZMem) (x2 : Int32) (v1 : Int32) (v2 : Int32) : Option ((ZMem × Int32) ⊕ (ZMem)) := zbind (f_X12_truth M v2) (fun r_144 => zbnd (zstI M 0 19 (v1 + r_144)) (fun M_148 => zbnd (x2 + (zI 1)) (fun x2_151 => some (.inl (M_148, x2_151)))))
set_option maxRecDepth 100000 in
set_option maxHeartbeats 4000000 in
theorem w_X12_laysSigns_144_L116 {E : ZEv} {G : ZG} {K : ZMem → Prop} (h : zRu lyR E G (zRv K) cX12_laysSigns RX12 4 none 4) (M : ZMem) (x2 : Int32) (v1 : Int32) (v2 : Int32) (hk : zOk (f_X12_laysSigns_144_L116 M x2 v1 v2) (zlp (fun s => G s.1 116 [(0, zrf E 0), (2, .int s.2)] []) (fun e => G e 157 [] []))) : G M 144 [(0, zrf E 0), (2, .int x2)] [.int v2, .int v1, zrf E 0] := by
  unfold f_X12_laysSigns_144_L116 at hk
  refine zr_callSp h zcw_X12_177 (by decide) (c_X12_truth E M v2 _ (zOk_bind hk)) rfl rfl (Nat.le_of_ble_eq_true rfl) dX12_laysSigns_144 (fun r_144 hk => ?_)
  refine zr_iadd h dX12_laysSigns_147 ?_
  refine zr_putI h zfp_X12_259 lR_0 rfl dX12_laysSigns_148 ?_
  refine zr_mem (fun M_148 eM => ?_)
  have hk := zOk_bnd eM hk
  obtain ⟨x2_151, ex⟩ : ∃ y : Int32, y = x2 + (zI 1) := ⟨_, rfl⟩
  have hk := zOk_bnd ex hk
  refine zr_iinc (v := x2_151) (L' := [(0, zrf E 0), (2, .int x2_151)]) h 1 [1, 0] dX12_laysSigns_151 rfl (by rw [ex]; rfl) (by decide) rfl ?_
  refine zr_goto (tgt := 116) h dX12_laysSigns_154 (by decide) ?_
  have hk := zOk_some hk
  exact zr_weak h [0, 1] rfl hk
noncomputable def f_X12_laysSigns_L116 (s : (ZMem × Int32)) : Option ((ZMem × Int32) ⊕ (ZMem)) := if (s.1.1 0 4) ≤ s.2 then some (.inr s.1) else zchk (zin s.2 20) (if (s.1.1 11 (zix s.2)) = s.2 then f_X12_laysSigns_144_L116 s.1 s.2 (s.1.1 0 19) (zI 1) else f_X12_laysSigns_144_L116 s.1 s.2 (s.1.1 0 19) (zI 0))
set_option maxRecDepth 100000 in
set_option maxHeartbeats 4000000 in
theorem w_X12_laysSigns_L116 {E : ZEv} {G : ZG} {K : ZMem → Prop} (h : zRu lyR E G (zRv K) cX12_laysSigns RX12 4 none 4) (s : (ZMem × Int32)) (hk : zOk (zloop (f_X12_laysSigns_L116) s) (fun e => G e 157 [] [])) : G s.1 116 [(0, zrf E 0), (2, .int s.2)] [] := by
  refine zloop_walk (P := fun s => G s.1 116 [(0, zrf E 0), (2, .int s.2)] []) hk (fun s hk => ?_)
  unfold f_X12_laysSigns_L116 at hk
  refine zr_iload_n h dX12_laysSigns_116 1 rfl rfl ?_
  refine zr_aload_n h dX12_laysSigns_117 0 rfl rfl ?_
  refine zr_getI h zfo_X12_162 lR_0 rfl dX12_laysSigns_118 ?_
  refine zr_icmp_ge (tgt := 157) h dX12_laysSigns_121 (by decide) (fun c => ?_) (fun c => ?_)
  · have hk := zOk_t c hk
    have hk := zOk_some hk
    exact zr_weak h [] rfl hk
  · have hk := zOk_f c hk
    refine zr_aload_n h dX12_laysSigns_124 0 rfl rfl ?_
    refine zr_dup h dX12_laysSigns_125 rfl ?_
    refine zr_getI h zfo_X12_259 lR_0 rfl dX12_laysSigns_126 ?_
    refine zr_aload_n h dX12_laysSigns_129 0 rfl rfl ?_
    refine zr_getR h zfo_X12_41 lR_0 rfl dX12_laysSigns_130 ?_
    refine zr_iload_n h dX12_laysSigns_133 1 rfl rfl ?_
    have hb := zOk_chk hk
    have hk := hb.2
    refine zr_iald h lR_11 hb.1 dX12_laysSigns_134 ?_
    refine zr_iload_n h dX12_laysSigns_135 1 rfl rfl ?_
    refine zr_icmp_ne (tgt := 143) h dX12_laysSigns_136 (by decide) (fun c => ?_) (fun c => ?_)
    · have hk := zOk_t c hk
      refine zr_iconst (v := (zI 1)) h dX12_laysSigns_139 rfl ?_
      refine zr_goto (tgt := 144) h dX12_laysSigns_140 (by decide) ?_
      exact w_X12_laysSigns_144_L116 h s.1 s.2 (s.1.1 0 19) (zI 1) hk
    · have hk := zOk_f c hk
      refine zr_iconst (v := (zI 0)) h dX12_laysSigns_143 rfl ?_
      exact w_X12_laysSigns_144_L116 h s.1 s.2 (s.1.1 0 19) (zI 0) hk
noncomputable def f_X12_laysSigns (M : ZMem) : Option ZMem := zbind (zloop (f_X12_laysSigns_L2) (M, (zI 0))) (fun e2 => zbind (zloop (f_X12_laysSigns_L25) (e2, (zI 1))) (fun e25 => zbnd (zstI e25 0 19 (zI 0)) (fun M_111 => zbind (zloop (f_X12_laysSigns_L116) (M_111, (zI 0))) (fun e116 => some e116))))
set_option maxRecDepth 100000 in
set_option maxHeartbeats 4000000 in
theorem c_X12_laysSigns (E : ZEv) (M : ZMem) (K : ZMem → Prop) (hk : zOk (f_X12_laysSigns M) K) : zCon lyR E yX12_laysSigns cX12_laysSigns 4 none 4 [zrf E 0] M (zRv K) := by
  refine zcon_of (L0 := [(0, zrf E 0)]) (by decide) rfl (Nat.le_of_ble_eq_true rfl) (fun G h => ?_)
  have h : zRu lyR E G (zRv K) cX12_laysSigns RX12 4 none 4 := h
  unfold f_X12_laysSigns at hk
  refine zr_iconst (v := (zI 0)) h dX12_laysSigns_0 rfl ?_
  refine zr_istore_n (L' := [(0, zrf E 0), (1, .int (zI 0))]) h [1, 0] dX12_laysSigns_1 rfl (by decide) rfl ?_
  refine w_X12_laysSigns_L2 h (M, (zI 0)) (zOk_mono (zOk_bind hk) (fun e2 hk => ?_))
  refine zr_iconst (v := (zI 1)) h dX12_laysSigns_23 rfl ?_
  refine zr_istore_n (L' := [(0, zrf E 0), (1, .int (zI 1))]) h [1, 0] dX12_laysSigns_24 rfl (by decide) rfl ?_
  refine w_X12_laysSigns_L25 h (e2, (zI 1)) (zOk_mono (zOk_bind hk) (fun e25 hk => ?_))
  refine zr_aload_n h dX12_laysSigns_109 0 rfl rfl ?_
  refine zr_iconst (v := (zI 0)) h dX12_laysSigns_110 rfl ?_
  refine zr_putI h zfp_X12_259 lR_0 rfl dX12_laysSigns_111 ?_
  refine zr_mem (fun M_111 eM => ?_)
  have hk := zOk_bnd eM hk
  refine zr_iconst (v := (zI 0)) h dX12_laysSigns_114 rfl ?_
  refine zr_istore_n (L' := [(0, zrf E 0), (2, .int (zI 0))]) h [1, 0] dX12_laysSigns_115 rfl (by decide) rfl ?_
  refine w_X12_laysSigns_L116 h (M_111, (zI 0)) (zOk_mono (zOk_bind hk) (fun e116 hk => ?_))
  have hk := zOk_some hk
  exact zr_vret h dX12_laysSigns_157 ⟨rfl, hk⟩
theorem dX12_ragged_0 : decode cX12_ragged 0 = .ok (.iconst 0, 1) := by decide +kernel
theorem dX12_ragged_1 : decode cX12_ragged 1 = .ok (.istore_n 2, 1) := by decide +kernel
theorem dX12_ragged_2 : decode cX12_ragged 2 = .ok (.iconst 0, 1) := by decide +kernel
theorem dX12_ragged_3 : decode cX12_ragged 3 = .ok (.istore_n 3, 1) := by decide +kernel
theorem dX12_ragged_4 : decode cX12_ragged 4 = .ok (.iload_n 3, 1) := by decide +kernel
theorem dX12_ragged_5 : decode cX12_ragged 5 = .ok (.aload_n 0, 1) := by decide +kernel
theorem dX12_ragged_6 : decode cX12_ragged 6 = .ok (.getfield 165, 3) := by decide +kernel
theorem dX12_ragged_9 : decode cX12_ragged 9 = .ok (.if_icmp .ge 127, 3) := by decide +kernel
theorem dX12_ragged_12 : decode cX12_ragged 12 = .ok (.iconst 4, 1) := by decide +kernel
theorem dX12_ragged_13 : decode cX12_ragged 13 = .ok (.iload_n 3, 1) := by decide +kernel
theorem dX12_ragged_14 : decode cX12_ragged 14 = .ok (.imul, 1) := by decide +kernel
theorem dX12_ragged_15 : decode cX12_ragged 15 = .ok (.aload_n 0, 1) := by decide +kernel
theorem dX12_ragged_16 : decode cX12_ragged 16 = .ok (.getfield 20, 3) := by decide +kernel
theorem dX12_ragged_19 : decode cX12_ragged 19 = .ok (.iload_n 3, 1) := by decide +kernel
theorem dX12_ragged_20 : decode cX12_ragged 20 = .ok (.iaload, 1) := by decide +kernel
theorem dX12_ragged_21 : decode cX12_ragged 21 = .ok (.iadd, 1) := by decide +kernel
theorem dX12_ragged_22 : decode cX12_ragged 22 = .ok (.iconst 1, 1) := by decide +kernel
theorem dX12_ragged_23 : decode cX12_ragged 23 = .ok (.isub, 1) := by decide +kernel
theorem dX12_ragged_24 : decode cX12_ragged 24 = .ok (.istore 4, 2) := by decide +kernel
theorem dX12_ragged_26 : decode cX12_ragged 26 = .ok (.iconst 0, 1) := by decide +kernel
theorem dX12_ragged_27 : decode cX12_ragged 27 = .ok (.istore 5, 2) := by decide +kernel
theorem dX12_ragged_29 : decode cX12_ragged 29 = .ok (.aload_n 0, 1) := by decide +kernel
theorem dX12_ragged_30 : decode cX12_ragged 30 = .ok (.getfield 26, 3) := by decide +kernel
theorem dX12_ragged_33 : decode cX12_ragged 33 = .ok (.bipush 10, 2) := by decide +kernel
theorem dX12_ragged_35 : decode cX12_ragged 35 = .ok (.iload 4, 2) := by decide +kernel
theorem dX12_ragged_37 : decode cX12_ragged 37 = .ok (.imul, 1) := by decide +kernel
theorem dX12_ragged_38 : decode cX12_ragged 38 = .ok (.iload 5, 2) := by decide +kernel
theorem dX12_ragged_40 : decode cX12_ragged 40 = .ok (.iadd, 1) := by decide +kernel
theorem dX12_ragged_41 : decode cX12_ragged 41 = .ok (.iaload, 1) := by decide +kernel
theorem dX12_ragged_42 : decode cX12_ragged 42 = .ok (.iconst (-1), 1) := by decide +kernel
theorem dX12_ragged_43 : decode cX12_ragged 43 = .ok (.if_icmp .ne 9, 3) := by decide +kernel
theorem dX12_ragged_46 : decode cX12_ragged 46 = .ok (.iinc 5 1, 3) := by decide +kernel
theorem dX12_ragged_49 : decode cX12_ragged 49 = .ok (.goto (-20), 3) := by decide +kernel
theorem dX12_ragged_52 : decode cX12_ragged 52 = .ok (.iconst 0, 1) := by decide +kernel
theorem dX12_ragged_53 : decode cX12_ragged 53 = .ok (.istore 6, 2) := by decide +kernel
theorem dX12_ragged_55 : decode cX12_ragged 55 = .ok (.aload_n 0, 1) := by decide +kernel
theorem dX12_ragged_56 : decode cX12_ragged 56 = .ok (.getfield 26, 3) := by decide +kernel
theorem dX12_ragged_59 : decode cX12_ragged 59 = .ok (.bipush 10, 2) := by decide +kernel
theorem dX12_ragged_61 : decode cX12_ragged 61 = .ok (.iload 4, 2) := by decide +kernel
theorem dX12_ragged_63 : decode cX12_ragged 63 = .ok (.imul, 1) := by decide +kernel
theorem dX12_ragged_64 : decode cX12_ragged 64 = .ok (.aload_n 0, 1) := by decide +kernel
theorem dX12_ragged_65 : decode cX12_ragged 65 = .ok (.getfield 23, 3) := by decide +kernel
theorem dX12_ragged_68 : decode cX12_ragged 68 = .ok (.iload 4, 2) := by decide +kernel
theorem dX12_ragged_70 : decode cX12_ragged 70 = .ok (.iaload, 1) := by decide +kernel
theorem dX12_ragged_71 : decode cX12_ragged 71 = .ok (.iadd, 1) := by decide +kernel
theorem dX12_ragged_72 : decode cX12_ragged 72 = .ok (.iconst 1, 1) := by decide +kernel
theorem dX12_ragged_73 : decode cX12_ragged 73 = .ok (.isub, 1) := by decide +kernel
theorem dX12_ragged_74 : decode cX12_ragged 74 = .ok (.iload 6, 2) := by decide +kernel
theorem dX12_ragged_76 : decode cX12_ragged 76 = .ok (.isub, 1) := by decide +kernel
theorem dX12_ragged_77 : decode cX12_ragged 77 = .ok (.iaload, 1) := by decide +kernel
theorem dX12_ragged_78 : decode cX12_ragged 78 = .ok (.iconst (-1), 1) := by decide +kernel
theorem dX12_ragged_79 : decode cX12_ragged 79 = .ok (.if_icmp .ne 9, 3) := by decide +kernel
theorem dX12_ragged_82 : decode cX12_ragged 82 = .ok (.iinc 6 1, 3) := by decide +kernel
theorem dX12_ragged_85 : decode cX12_ragged 85 = .ok (.goto (-30), 3) := by decide +kernel
theorem dX12_ragged_88 : decode cX12_ragged 88 = .ok (.iload_n 2, 1) := by decide +kernel
theorem dX12_ragged_89 : decode cX12_ragged 89 = .ok (.aload_n 0, 1) := by decide +kernel
theorem dX12_ragged_90 : decode cX12_ragged 90 = .ok (.getfield 20, 3) := by decide +kernel
theorem dX12_ragged_93 : decode cX12_ragged 93 = .ok (.iload_n 3, 1) := by decide +kernel
theorem dX12_ragged_94 : decode cX12_ragged 94 = .ok (.iaload, 1) := by decide +kernel
theorem dX12_ragged_95 : decode cX12_ragged 95 = .ok (.iconst 1, 1) := by decide +kernel
theorem dX12_ragged_96 : decode cX12_ragged 96 = .ok (.if_icmp .le 28, 3) := by decide +kernel
theorem dX12_ragged_99 : decode cX12_ragged 99 = .ok (.iload_n 1, 1) := by decide +kernel
theorem dX12_ragged_100 : decode cX12_ragged 100 = .ok (.ifCond .ne 13, 3) := by decide +kernel
theorem dX12_ragged_103 : decode cX12_ragged 103 = .ok (.iload 6, 2) := by decide +kernel
theorem dX12_ragged_105 : decode cX12_ragged 105 = .ok (.iload 5, 2) := by decide +kernel
theorem dX12_ragged_107 : decode cX12_ragged 107 = .ok (.if_icmp .le 17, 3) := by decide +kernel
theorem dX12_ragged_110 : decode cX12_ragged 110 = .ok (.goto 10, 3) := by decide +kernel
theorem dX12_ragged_113 : decode cX12_ragged 113 = .ok (.iload 5, 2) := by decide +kernel
theorem dX12_ragged_115 : decode cX12_ragged 115 = .ok (.iload 6, 2) := by decide +kernel
theorem dX12_ragged_117 : decode cX12_ragged 117 = .ok (.if_icmp .le 7, 3) := by decide +kernel
theorem dX12_ragged_120 : decode cX12_ragged 120 = .ok (.iconst 1, 1) := by decide +kernel
theorem dX12_ragged_121 : decode cX12_ragged 121 = .ok (.goto 4, 3) := by decide +kernel
theorem dX12_ragged_124 : decode cX12_ragged 124 = .ok (.iconst 0, 1) := by decide +kernel
theorem dX12_ragged_125 : decode cX12_ragged 125 = .ok (.invokestatic 177, 3) := by decide +kernel
theorem dX12_ragged_128 : decode cX12_ragged 128 = .ok (.iadd, 1) := by decide +kernel
theorem dX12_ragged_129 : decode cX12_ragged 129 = .ok (.istore_n 2, 1) := by decide +kernel
theorem dX12_ragged_130 : decode cX12_ragged 130 = .ok (.iinc 3 1, 3) := by decide +kernel
theorem dX12_ragged_133 : decode cX12_ragged 133 = .ok (.goto (-129), 3) := by decide +kernel
theorem dX12_ragged_136 : decode cX12_ragged 136 = .ok (.iload_n 2, 1) := by decide +kernel
theorem dX12_ragged_137 : decode cX12_ragged 137 = .ok (.ireturn, 1) := by decide +kernel
noncomputable def f_X12_ragged_L29 (M : ZMem) (x1 : Int32) (x2 : Int32) (x3 : Int32) (x4 : Int32) (s : (Int32)) : Option ((Int32) ⊕ (Int32)) := zchk (zin (((zI 10) * x4) + s) 280) (if (M.1 6 (zix (((zI 10) * x4) + s))) = (zI (-1)) then zbnd (s + (zI 1)) (fun x5_46 => some (.inl x5_46)) else some (.inr s))
set_option maxRecDepth 100000 in
set_option maxHeartbeats 4000000 in
theorem w_X12_ragged_L29 {E : ZEv} {G : ZG} {K : Int32 → Prop} (M : ZMem) (h : zRu lyR E G (zRp M K) cX12_ragged RX12 7 (some .int) 1) (x1 : Int32) (x2 : Int32) (x3 : Int32) (x4 : Int32) (s : (Int32)) (hk : zOk (zloop (f_X12_ragged_L29 M x1 x2 x3 x4) s) (fun e => G M 52 [(0, zrf E 0), (1, .int x1), (2, .int x2), (3, .int x3), (4, .int x4), (5, .int e)] [])) : G M 29 [(0, zrf E 0), (1, .int x1), (2, .int x2), (3, .int x3), (4, .int x4), (5, .int s)] [] := by
  refine zloop_walk (P := fun s => G M 29 [(0, zrf E 0), (1, .int x1), (2, .int x2), (3, .int x3), (4, .int x4), (5, .int s)] []) hk (fun s hk => ?_)
  unfold f_X12_ragged_L29 at hk
  refine zr_aload_n h dX12_ragged_29 0 rfl rfl ?_
  refine zr_getR h zfo_X12_26 lR_0 rfl dX12_ragged_30 ?_
  refine zr_bipush (v := (zI 10)) h dX12_ragged_33 (by decide) ?_
  refine zr_iload h dX12_ragged_35 4 rfl ?_
  refine zr_imul h dX12_ragged_37 ?_
  refine zr_iload h dX12_ragged_38 5 rfl ?_
  refine zr_iadd h dX12_ragged_40 ?_
  have hb := zOk_chk hk
  have hk := hb.2
  refine zr_iald h lR_6 hb.1 dX12_ragged_41 ?_
  refine zr_iconst (v := (zI (-1))) h dX12_ragged_42 rfl ?_
  refine zr_icmp_ne (tgt := 52) h dX12_ragged_43 (by decide) (fun c => ?_) (fun c => ?_)
  · have hk := zOk_t c hk
    obtain ⟨x5_46, ex⟩ : ∃ y : Int32, y = s + (zI 1) := ⟨_, rfl⟩
    have hk := zOk_bnd ex hk
    refine zr_iinc (v := x5_46) (L' := [(0, zrf E 0), (1, .int x1), (2, .int x2), (3, .int x3), (4, .int x4), (5, .int x5_46)]) h 5 [1, 2, 3, 4, 5, 0] dX12_ragged_46 rfl (by rw [ex]; rfl) (by decide) rfl ?_
    refine zr_goto (tgt := 29) h dX12_ragged_49 (by decide) ?_
    have hk := zOk_some hk
    exact zr_weak h [0, 1, 2, 3, 4, 5] rfl hk
  · have hk := zOk_f c hk
    have hk := zOk_some hk
    exact zr_weak h [0, 1, 2, 3, 4, 5] rfl hk
noncomputable def f_X12_ragged_L55 (M : ZMem) (x1 : Int32) (x2 : Int32) (x3 : Int32) (x4 : Int32) (x5 : Int32) (s : (Int32)) : Option ((Int32) ⊕ (Int32)) := zchk (zin x4 28) (zchk (zin (((((zI 10) * x4) + (M.1 5 (zix x4))) - (zI 1)) - s) 280) (if (M.1 6 (zix (((((zI 10) * x4) + (M.1 5 (zix x4))) - (zI 1)) - s))) = (zI (-1)) then zbnd (s + (zI 1)) (fun x6_82 => some (.inl x6_82)) else some (.inr s)))
set_option maxRecDepth 100000 in
set_option maxHeartbeats 4000000 in
theorem w_X12_ragged_L55 {E : ZEv} {G : ZG} {K : Int32 → Prop} (M : ZMem) (h : zRu lyR E G (zRp M K) cX12_ragged RX12 7 (some .int) 1) (x1 : Int32) (x2 : Int32) (x3 : Int32) (x4 : Int32) (x5 : Int32) (s : (Int32)) (hk : zOk (zloop (f_X12_ragged_L55 M x1 x2 x3 x4 x5) s) (fun e => G M 88 [(0, zrf E 0), (1, .int x1), (2, .int x2), (3, .int x3), (5, .int x5), (6, .int e)] [])) : G M 55 [(0, zrf E 0), (1, .int x1), (2, .int x2), (3, .int x3), (4, .int x4), (5, .int x5), (6, .int s)] [] := by
  refine zloop_walk (P := fun s => G M 55 [(0, zrf E 0), (1, .int x1), (2, .int x2), (3, .int x3), (4, .int x4), (5, .int x5), (6, .int s)] []) hk (fun s hk => ?_)
  unfold f_X12_ragged_L55 at hk
  refine zr_aload_n h dX12_ragged_55 0 rfl rfl ?_
  refine zr_getR h zfo_X12_26 lR_0 rfl dX12_ragged_56 ?_
  refine zr_bipush (v := (zI 10)) h dX12_ragged_59 (by decide) ?_
  refine zr_iload h dX12_ragged_61 4 rfl ?_
  refine zr_imul h dX12_ragged_63 ?_
  refine zr_aload_n h dX12_ragged_64 0 rfl rfl ?_
  refine zr_getR h zfo_X12_23 lR_0 rfl dX12_ragged_65 ?_
  refine zr_iload h dX12_ragged_68 4 rfl ?_
  have hb := zOk_chk hk
  have hk := hb.2
  refine zr_iald h lR_5 hb.1 dX12_ragged_70 ?_
  refine zr_iadd h dX12_ragged_71 ?_
  refine zr_iconst (v := (zI 1)) h dX12_ragged_72 rfl ?_
  refine zr_isub h dX12_ragged_73 ?_
  refine zr_iload h dX12_ragged_74 6 rfl ?_
  refine zr_isub h dX12_ragged_76 ?_
  have hb := zOk_chk hk
  have hk := hb.2
  refine zr_iald h lR_6 hb.1 dX12_ragged_77 ?_
  refine zr_iconst (v := (zI (-1))) h dX12_ragged_78 rfl ?_
  refine zr_icmp_ne (tgt := 88) h dX12_ragged_79 (by decide) (fun c => ?_) (fun c => ?_)
  · have hk := zOk_t c hk
    obtain ⟨x6_82, ex⟩ : ∃ y : Int32, y = s + (zI 1) := ⟨_, rfl⟩
    have hk := zOk_bnd ex hk
    refine zr_iinc (v := x6_82) (L' := [(0, zrf E 0), (1, .int x1), (2, .int x2), (3, .int x3), (4, .int x4), (5, .int x5), (6, .int x6_82)]) h 6 [1, 2, 3, 4, 5, 6, 0] dX12_ragged_82 rfl (by rw [ex]; rfl) (by decide) rfl ?_
    refine zr_goto (tgt := 55) h dX12_ragged_85 (by decide) ?_
    have hk := zOk_some hk
    exact zr_weak h [0, 1, 2, 3, 4, 5, 6] rfl hk
  · have hk := zOk_f c hk
    have hk := zOk_some hk
    exact zr_weak h [0, 1, 2, 3, 5, 6] rfl hk
noncomputable def f_X12_ragged_125_L4 (M : ZMem) (x1 : Int32) (x3 : Int32) (v0 : Int32) (v1 : Int32) : Option ((Int32 × Int32) ⊕ (Int32)) := zbind (f_X12_truth M v1) (fun r_125 => zbnd (v0 + r_125) (fun x2_129 => zbnd (x3 + (zI 1)) (fun x3_130 => some (.inl (x2_129, x3_130)))))
set_option maxRecDepth 100000 in
set_option maxHeartbeats 4000000 in
theorem w_X12_ragged_125_L4 {E : ZEv} {G : ZG} {K : Int32 → Prop} (M : ZMem) (h : zRu lyR E G (zRp M K) cX12_ragged RX12 7 (some .int) 1) (x1 : Int32) (x3 : Int32) (v0 : Int32) (v1 : Int32) (hk : zOk (f_X12_ragged_125_L4 M x1 x3 v0 v1) (zlp (fun s => G M 4 [(0, zrf E 0), (1, .int x1), (2, .int s.1), (3, .int s.2)] []) (fun e => G M 136 [(2, .int e)] []))) : G M 125 [(0, zrf E 0), (1, .int x1), (3, .int x3)] [.int v1, .int v0] := by
  unfold f_X12_ragged_125_L4 at hk
  refine zr_callSp h zcw_X12_177 (by decide) (c_X12_truth E M v1 _ (zOk_bind hk)) rfl rfl (Nat.le_of_ble_eq_true rfl) dX12_ragged_125 (fun r_125 hk => ?_)
  refine zr_iadd h dX12_ragged_128 ?_
  refine zr_topi (fun x2_129 ex => ?_)
  have hk := zOk_bnd ex hk
  refine zr_istore_n (L' := [(0, zrf E 0), (1, .int x1), (2, .int x2_129), (3, .int x3)]) h [1, 2, 0, 3] dX12_ragged_129 rfl (by decide) rfl ?_
  obtain ⟨x3_130, ex⟩ : ∃ y : Int32, y = x3 + (zI 1) := ⟨_, rfl⟩
  have hk := zOk_bnd ex hk
  refine zr_iinc (v := x3_130) (L' := [(0, zrf E 0), (1, .int x1), (2, .int x2_129), (3, .int x3_130)]) h 3 [1, 2, 3, 0] dX12_ragged_130 rfl (by rw [ex]; rfl) (by decide) rfl ?_
  refine zr_goto (tgt := 4) h dX12_ragged_133 (by decide) ?_
  have hk := zOk_some hk
  exact zr_weak h [0, 1, 2, 3] rfl hk
noncomputable def f_X12_ragged_124_L4 (M : ZMem) (x1 : Int32) (x3 : Int32) (v0 : Int32) : Option ((Int32 × Int32) ⊕ (Int32)) := f_X12_ragged_125_L4 M x1 x3 v0 (zI 0)
set_option maxRecDepth 100000 in
set_option maxHeartbeats 4000000 in
theorem w_X12_ragged_124_L4 {E : ZEv} {G : ZG} {K : Int32 → Prop} (M : ZMem) (h : zRu lyR E G (zRp M K) cX12_ragged RX12 7 (some .int) 1) (x1 : Int32) (x3 : Int32) (v0 : Int32) (hk : zOk (f_X12_ragged_124_L4 M x1 x3 v0) (zlp (fun s => G M 4 [(0, zrf E 0), (1, .int x1), (2, .int s.1), (3, .int s.2)] []) (fun e => G M 136 [(2, .int e)] []))) : G M 124 [(0, zrf E 0), (1, .int x1), (3, .int x3)] [.int v0] := by
  unfold f_X12_ragged_124_L4 at hk
  refine zr_iconst (v := (zI 0)) h dX12_ragged_124 rfl ?_
  exact w_X12_ragged_125_L4 M h x1 x3 v0 (zI 0) hk
noncomputable def f_X12_ragged_120_L4 (M : ZMem) (x1 : Int32) (x3 : Int32) (v0 : Int32) : Option ((Int32 × Int32) ⊕ (Int32)) := f_X12_ragged_125_L4 M x1 x3 v0 (zI 1)
set_option maxRecDepth 100000 in
set_option maxHeartbeats 4000000 in
theorem w_X12_ragged_120_L4 {E : ZEv} {G : ZG} {K : Int32 → Prop} (M : ZMem) (h : zRu lyR E G (zRp M K) cX12_ragged RX12 7 (some .int) 1) (x1 : Int32) (x3 : Int32) (v0 : Int32) (hk : zOk (f_X12_ragged_120_L4 M x1 x3 v0) (zlp (fun s => G M 4 [(0, zrf E 0), (1, .int x1), (2, .int s.1), (3, .int s.2)] []) (fun e => G M 136 [(2, .int e)] []))) : G M 120 [(0, zrf E 0), (1, .int x1), (3, .int x3)] [.int v0] := by
  unfold f_X12_ragged_120_L4 at hk
  refine zr_iconst (v := (zI 1)) h dX12_ragged_120 rfl ?_
  refine zr_goto (tgt := 125) h dX12_ragged_121 (by decide) ?_
  exact w_X12_ragged_125_L4 M h x1 x3 v0 (zI 1) hk
noncomputable def f_X12_ragged_L4 (M : ZMem) (x1 : Int32) (s : (Int32 × Int32)) : Option ((Int32 × Int32) ⊕ (Int32)) := if (M.1 0 8) ≤ s.2 then some (.inr s.1) else zchk (zin s.2 7) (zbnd ((((zI 4) * s.2) + (M.1 4 (zix s.2))) - (zI 1)) (fun x4_24 => zbind (zloop (f_X12_ragged_L29 M x1 s.1 s.2 x4_24) (zI 0)) (fun e29 => zbind (zloop (f_X12_ragged_L55 M x1 s.1 s.2 x4_24 e29) (zI 0)) (fun e55 => zchk (zin s.2 7) (if (M.1 4 (zix s.2)) ≤ (zI 1) then f_X12_ragged_124_L4 M x1 s.2 s.1 else if x1 = (zI 0) then if e55 ≤ e29 then f_X12_ragged_124_L4 M x1 s.2 s.1 else f_X12_ragged_120_L4 M x1 s.2 s.1 else if e29 ≤ e55 then f_X12_ragged_124_L4 M x1 s.2 s.1 else f_X12_ragged_120_L4 M x1 s.2 s.1)))))
set_option maxRecDepth 100000 in
set_option maxHeartbeats 4000000 in
theorem w_X12_ragged_L4 {E : ZEv} {G : ZG} {K : Int32 → Prop} (M : ZMem) (h : zRu lyR E G (zRp M K) cX12_ragged RX12 7 (some .int) 1) (x1 : Int32) (s : (Int32 × Int32)) (hk : zOk (zloop (f_X12_ragged_L4 M x1) s) (fun e => G M 136 [(2, .int e)] [])) : G M 4 [(0, zrf E 0), (1, .int x1), (2, .int s.1), (3, .int s.2)] [] := by
  refine zloop_walk (P := fun s => G M 4 [(0, zrf E 0), (1, .int x1), (2, .int s.1), (3, .int s.2)] []) hk (fun s hk => ?_)
  unfold f_X12_ragged_L4 at hk
  refine zr_iload_n h dX12_ragged_4 3 rfl rfl ?_
  refine zr_aload_n h dX12_ragged_5 0 rfl rfl ?_
  refine zr_getI h zfo_X12_165 lR_0 rfl dX12_ragged_6 ?_
  refine zr_icmp_ge (tgt := 136) h dX12_ragged_9 (by decide) (fun c => ?_) (fun c => ?_)
  · have hk := zOk_t c hk
    have hk := zOk_some hk
    exact zr_weak h [2] rfl hk
  · have hk := zOk_f c hk
    refine zr_iconst (v := (zI 4)) h dX12_ragged_12 rfl ?_
    refine zr_iload_n h dX12_ragged_13 3 rfl rfl ?_
    refine zr_imul h dX12_ragged_14 ?_
    refine zr_aload_n h dX12_ragged_15 0 rfl rfl ?_
    refine zr_getR h zfo_X12_20 lR_0 rfl dX12_ragged_16 ?_
    refine zr_iload_n h dX12_ragged_19 3 rfl rfl ?_
    have hb := zOk_chk hk
    have hk := hb.2
    refine zr_iald h lR_4 hb.1 dX12_ragged_20 ?_
    refine zr_iadd h dX12_ragged_21 ?_
    refine zr_iconst (v := (zI 1)) h dX12_ragged_22 rfl ?_
    refine zr_isub h dX12_ragged_23 ?_
    refine zr_topi (fun x4_24 ex => ?_)
    have hk := zOk_bnd ex hk
    refine zr_istore (L' := [(0, zrf E 0), (1, .int x1), (2, .int s.1), (3, .int s.2), (4, .int x4_24)]) h [1, 2, 3, 4, 0] dX12_ragged_24 (by decide) rfl ?_
    refine zr_iconst (v := (zI 0)) h dX12_ragged_26 rfl ?_
    refine zr_istore (L' := [(0, zrf E 0), (1, .int x1), (2, .int s.1), (3, .int s.2), (4, .int x4_24), (5, .int (zI 0))]) h [1, 2, 3, 4, 5, 0] dX12_ragged_27 (by decide) rfl ?_
    refine w_X12_ragged_L29 M h x1 s.1 s.2 x4_24 (zI 0) (zOk_mono (zOk_bind hk) (fun e29 hk => ?_))
    refine zr_iconst (v := (zI 0)) h dX12_ragged_52 rfl ?_
    refine zr_istore (L' := [(0, zrf E 0), (1, .int x1), (2, .int s.1), (3, .int s.2), (4, .int x4_24), (5, .int e29), (6, .int (zI 0))]) h [1, 2, 3, 4, 5, 6, 0] dX12_ragged_53 (by decide) rfl ?_
    refine w_X12_ragged_L55 M h x1 s.1 s.2 x4_24 e29 (zI 0) (zOk_mono (zOk_bind hk) (fun e55 hk => ?_))
    refine zr_iload_n h dX12_ragged_88 2 rfl rfl ?_
    refine zr_aload_n h dX12_ragged_89 0 rfl rfl ?_
    refine zr_getR h zfo_X12_20 lR_0 rfl dX12_ragged_90 ?_
    refine zr_iload_n h dX12_ragged_93 3 rfl rfl ?_
    have hb := zOk_chk hk
    have hk := hb.2
    refine zr_iald h lR_4 hb.1 dX12_ragged_94 ?_
    refine zr_iconst (v := (zI 1)) h dX12_ragged_95 rfl ?_
    refine zr_icmp_le (tgt := 124) h dX12_ragged_96 (by decide) (fun c => ?_) (fun c => ?_)
    · have hk := zOk_t c hk
      exact zr_weak h [0, 1, 3] rfl (w_X12_ragged_124_L4 M h x1 s.2 s.1 hk)
    · have hk := zOk_f c hk
      refine zr_iload_n h dX12_ragged_99 1 rfl rfl ?_
      refine zr_if_ne (tgt := 113) h dX12_ragged_100 (by decide) (fun c => ?_) (fun c => ?_)
      · have hk := zOk_t c hk
        refine zr_iload h dX12_ragged_103 5 rfl ?_
        refine zr_iload h dX12_ragged_105 4 rfl ?_
        refine zr_icmp_le (tgt := 124) h dX12_ragged_107 (by decide) (fun c => ?_) (fun c => ?_)
        · have hk := zOk_t c hk
          exact zr_weak h [0, 1, 3] rfl (w_X12_ragged_124_L4 M h x1 s.2 s.1 hk)
        · have hk := zOk_f c hk
          refine zr_goto (tgt := 120) h dX12_ragged_110 (by decide) ?_
          exact zr_weak h [0, 1, 3] rfl (w_X12_ragged_120_L4 M h x1 s.2 s.1 hk)
      · have hk := zOk_f c hk
        refine zr_iload h dX12_ragged_113 4 rfl ?_
        refine zr_iload h dX12_ragged_115 5 rfl ?_
        refine zr_icmp_le (tgt := 124) h dX12_ragged_117 (by decide) (fun c => ?_) (fun c => ?_)
        · have hk := zOk_t c hk
          exact zr_weak h [0, 1, 3] rfl (w_X12_ragged_124_L4 M h x1 s.2 s.1 hk)
        · have hk := zOk_f c hk
          exact zr_weak h [0, 1, 3] rfl (w_X12_ragged_120_L4 M h x1 s.2 s.1 hk)
noncomputable def f_X12_ragged (M : ZMem) (x1 : Int32) : Option Int32 := zbind (zloop (f_X12_ragged_L4 M x1) ((zI 0), (zI 0))) (fun e4 => some e4)
set_option maxRecDepth 100000 in
set_option maxHeartbeats 4000000 in
theorem c_X12_ragged (E : ZEv) (M : ZMem) (x1 : Int32) (K : Int32 → Prop) (hk : zOk (f_X12_ragged M x1) K) : zCon lyR E yX12_ragged cX12_ragged 7 (some .int) 1 [zrf E 0, .int x1] M (zRp M K) := by
  refine zcon_of (L0 := [(0, zrf E 0), (1, .int x1)]) (by decide) rfl (Nat.le_of_ble_eq_true rfl) (fun G h => ?_)
  have h : zRu lyR E G (zRp M K) cX12_ragged RX12 7 (some .int) 1 := h
  unfold f_X12_ragged at hk
  refine zr_iconst (v := (zI 0)) h dX12_ragged_0 rfl ?_
  refine zr_istore_n (L' := [(0, zrf E 0), (1, .int x1), (2, .int (zI 0))]) h [1, 2, 0] dX12_ragged_1 rfl (by decide) rfl ?_
  refine zr_iconst (v := (zI 0)) h dX12_ragged_2 rfl ?_
  refine zr_istore_n (L' := [(0, zrf E 0), (1, .int x1), (2, .int (zI 0)), (3, .int (zI 0))]) h [1, 2, 3, 0] dX12_ragged_3 rfl (by decide) rfl ?_
  refine w_X12_ragged_L4 M h x1 ((zI 0), (zI 0)) (zOk_mono (zOk_bind hk) (fun e4 hk => ?_))
  refine zr_iload_n h dX12_ragged_136 0 rfl rfl ?_
  have hk := zOk_some hk
  exact zr_iret h dX12_ragged_137 ⟨rfl, _, rfl, hk⟩
theorem dX12_endOf_0 : decode cX12_endOf 0 = .ok (.iload_n 2, 1) := by decide +kernel
theorem dX12_endOf_1 : decode cX12_endOf 1 = .ok (.ifCond .ne 14, 3) := by decide +kernel
theorem dX12_endOf_4 : decode cX12_endOf 4 = .ok (.aload_n 0, 1) := by decide +kernel
theorem dX12_endOf_5 : decode cX12_endOf 5 = .ok (.getfield 23, 3) := by decide +kernel
theorem dX12_endOf_8 : decode cX12_endOf 8 = .ok (.iload_n 1, 1) := by decide +kernel
theorem dX12_endOf_9 : decode cX12_endOf 9 = .ok (.iaload, 1) := by decide +kernel
theorem dX12_endOf_10 : decode cX12_endOf 10 = .ok (.iconst 1, 1) := by decide +kernel
theorem dX12_endOf_11 : decode cX12_endOf 11 = .ok (.isub, 1) := by decide +kernel
theorem dX12_endOf_12 : decode cX12_endOf 12 = .ok (.goto 4, 3) := by decide +kernel
theorem dX12_endOf_15 : decode cX12_endOf 15 = .ok (.iconst 0, 1) := by decide +kernel
theorem dX12_endOf_16 : decode cX12_endOf 16 = .ok (.istore_n 3, 1) := by decide +kernel
theorem dX12_endOf_17 : decode cX12_endOf 17 = .ok (.aload_n 0, 1) := by decide +kernel
theorem dX12_endOf_18 : decode cX12_endOf 18 = .ok (.getfield 26, 3) := by decide +kernel
theorem dX12_endOf_21 : decode cX12_endOf 21 = .ok (.bipush 10, 2) := by decide +kernel
theorem dX12_endOf_23 : decode cX12_endOf 23 = .ok (.iload_n 1, 1) := by decide +kernel
theorem dX12_endOf_24 : decode cX12_endOf 24 = .ok (.imul, 1) := by decide +kernel
theorem dX12_endOf_25 : decode cX12_endOf 25 = .ok (.iload_n 3, 1) := by decide +kernel
theorem dX12_endOf_26 : decode cX12_endOf 26 = .ok (.iadd, 1) := by decide +kernel
theorem dX12_endOf_27 : decode cX12_endOf 27 = .ok (.iaload, 1) := by decide +kernel
theorem dX12_endOf_28 : decode cX12_endOf 28 = .ok (.iconst (-1), 1) := by decide +kernel
theorem dX12_endOf_29 : decode cX12_endOf 29 = .ok (.if_icmp .ne 18, 3) := by decide +kernel
theorem dX12_endOf_32 : decode cX12_endOf 32 = .ok (.iload_n 3, 1) := by decide +kernel
theorem dX12_endOf_33 : decode cX12_endOf 33 = .ok (.iload_n 2, 1) := by decide +kernel
theorem dX12_endOf_34 : decode cX12_endOf 34 = .ok (.ifCond .ne 7, 3) := by decide +kernel
theorem dX12_endOf_37 : decode cX12_endOf 37 = .ok (.iconst (-1), 1) := by decide +kernel
theorem dX12_endOf_38 : decode cX12_endOf 38 = .ok (.goto 4, 3) := by decide +kernel
theorem dX12_endOf_41 : decode cX12_endOf 41 = .ok (.iconst 1, 1) := by decide +kernel
theorem dX12_endOf_42 : decode cX12_endOf 42 = .ok (.iadd, 1) := by decide +kernel
theorem dX12_endOf_43 : decode cX12_endOf 43 = .ok (.istore_n 3, 1) := by decide +kernel
theorem dX12_endOf_44 : decode cX12_endOf 44 = .ok (.goto (-27), 3) := by decide +kernel
theorem dX12_endOf_47 : decode cX12_endOf 47 = .ok (.aload_n 0, 1) := by decide +kernel
theorem dX12_endOf_48 : decode cX12_endOf 48 = .ok (.getfield 41, 3) := by decide +kernel
theorem dX12_endOf_51 : decode cX12_endOf 51 = .ok (.aload_n 0, 1) := by decide +kernel
theorem dX12_endOf_52 : decode cX12_endOf 52 = .ok (.getfield 26, 3) := by decide +kernel
theorem dX12_endOf_55 : decode cX12_endOf 55 = .ok (.bipush 10, 2) := by decide +kernel
theorem dX12_endOf_57 : decode cX12_endOf 57 = .ok (.iload_n 1, 1) := by decide +kernel
theorem dX12_endOf_58 : decode cX12_endOf 58 = .ok (.imul, 1) := by decide +kernel
theorem dX12_endOf_59 : decode cX12_endOf 59 = .ok (.iload_n 3, 1) := by decide +kernel
theorem dX12_endOf_60 : decode cX12_endOf 60 = .ok (.iadd, 1) := by decide +kernel
theorem dX12_endOf_61 : decode cX12_endOf 61 = .ok (.iaload, 1) := by decide +kernel
theorem dX12_endOf_62 : decode cX12_endOf 62 = .ok (.iaload, 1) := by decide +kernel
theorem dX12_endOf_63 : decode cX12_endOf 63 = .ok (.ireturn, 1) := by decide +kernel
noncomputable def f_X12_endOf_L17 (M : ZMem) (x1 : Int32) (x2 : Int32) (s : (Int32)) : Option ((Int32) ⊕ (Int32)) := zchk (zin (((zI 10) * x1) + s) 280) (if (M.1 6 (zix (((zI 10) * x1) + s))) = (zI (-1)) then if x2 = (zI 0) then zbnd (s + (zI (-1))) (fun x3_43 => some (.inl x3_43)) else zbnd (s + (zI 1)) (fun x3_43 => some (.inl x3_43)) else some (.inr s))
set_option maxRecDepth 100000 in
set_option maxHeartbeats 4000000 in
theorem w_X12_endOf_L17 {E : ZEv} {G : ZG} {K : Int32 → Prop} (M : ZMem) (h : zRu lyR E G (zRp M K) cX12_endOf RX12 4 (some .int) 0) (x1 : Int32) (x2 : Int32) (s : (Int32)) (hk : zOk (zloop (f_X12_endOf_L17 M x1 x2) s) (fun e => G M 47 [(0, zrf E 0), (1, .int x1), (3, .int e)] [])) : G M 17 [(0, zrf E 0), (1, .int x1), (2, .int x2), (3, .int s)] [] := by
  refine zloop_walk (P := fun s => G M 17 [(0, zrf E 0), (1, .int x1), (2, .int x2), (3, .int s)] []) hk (fun s hk => ?_)
  unfold f_X12_endOf_L17 at hk
  refine zr_aload_n h dX12_endOf_17 0 rfl rfl ?_
  refine zr_getR h zfo_X12_26 lR_0 rfl dX12_endOf_18 ?_
  refine zr_bipush (v := (zI 10)) h dX12_endOf_21 (by decide) ?_
  refine zr_iload_n h dX12_endOf_23 1 rfl rfl ?_
  refine zr_imul h dX12_endOf_24 ?_
  refine zr_iload_n h dX12_endOf_25 3 rfl rfl ?_
  refine zr_iadd h dX12_endOf_26 ?_
  have hb := zOk_chk hk
  have hk := hb.2
  refine zr_iald h lR_6 hb.1 dX12_endOf_27 ?_
  refine zr_iconst (v := (zI (-1))) h dX12_endOf_28 rfl ?_
  refine zr_icmp_ne (tgt := 47) h dX12_endOf_29 (by decide) (fun c => ?_) (fun c => ?_)
  · have hk := zOk_t c hk
    refine zr_iload_n h dX12_endOf_32 3 rfl rfl ?_
    refine zr_iload_n h dX12_endOf_33 2 rfl rfl ?_
    refine zr_if_ne (tgt := 41) h dX12_endOf_34 (by decide) (fun c => ?_) (fun c => ?_)
    · have hk := zOk_t c hk
      refine zr_iconst (v := (zI (-1))) h dX12_endOf_37 rfl ?_
      refine zr_goto (tgt := 42) h dX12_endOf_38 (by decide) ?_
      refine zr_iadd h dX12_endOf_42 ?_
      refine zr_topi (fun x3_43 ex => ?_)
      have hk := zOk_bnd ex hk
      refine zr_istore_n (L' := [(0, zrf E 0), (1, .int x1), (2, .int x2), (3, .int x3_43)]) h [1, 2, 3, 0] dX12_endOf_43 rfl (by decide) rfl ?_
      refine zr_goto (tgt := 17) h dX12_endOf_44 (by decide) ?_
      have hk := zOk_some hk
      exact zr_weak h [0, 1, 2, 3] rfl hk
    · have hk := zOk_f c hk
      refine zr_iconst (v := (zI 1)) h dX12_endOf_41 rfl ?_
      refine zr_iadd h dX12_endOf_42 ?_
      refine zr_topi (fun x3_43 ex => ?_)
      have hk := zOk_bnd ex hk
      refine zr_istore_n (L' := [(0, zrf E 0), (1, .int x1), (2, .int x2), (3, .int x3_43)]) h [1, 2, 3, 0] dX12_endOf_43 rfl (by decide) rfl ?_
      refine zr_goto (tgt := 17) h dX12_endOf_44 (by decide) ?_
      have hk := zOk_some hk
      exact zr_weak h [0, 1, 2, 3] rfl hk
  · have hk := zOk_f c hk
    have hk := zOk_some hk
    exact zr_weak h [0, 1, 3] rfl hk
noncomputable def f_X12_endOf_16 (M : ZMem) (x1 : Int32) (x2 : Int32) (v0 : Int32) : Option Int32 := zbind (zloop (f_X12_endOf_L17 M x1 x2) v0) (fun e17 => zchk (zin (((zI 10) * x1) + e17) 280) (zchk (zin (M.1 6 (zix (((zI 10) * x1) + e17))) 20) (some (M.1 11 (zix (M.1 6 (zix (((zI 10) * x1) + e17))))))))
set_option maxRecDepth 100000 in
set_option maxHeartbeats 4000000 in
theorem w_X12_endOf_16 {E : ZEv} {G : ZG} {K : Int32 → Prop} (M : ZMem) (h : zRu lyR E G (zRp M K) cX12_endOf RX12 4 (some .int) 0) (x1 : Int32) (x2 : Int32) (v0 : Int32) (hk : zOk (f_X12_endOf_16 M x1 x2 v0) K) : G M 16 [(0, zrf E 0), (1, .int x1), (2, .int x2)] [.int v0] := by
  unfold f_X12_endOf_16 at hk
  refine zr_istore_n (L' := [(0, zrf E 0), (1, .int x1), (2, .int x2), (3, .int v0)]) h [1, 2, 3, 0] dX12_endOf_16 rfl (by decide) rfl ?_
  refine w_X12_endOf_L17 M h x1 x2 v0 (zOk_mono (zOk_bind hk) (fun e17 hk => ?_))
  refine zr_aload_n h dX12_endOf_47 0 rfl rfl ?_
  refine zr_getR h zfo_X12_41 lR_0 rfl dX12_endOf_48 ?_
  refine zr_aload_n h dX12_endOf_51 0 rfl rfl ?_
  refine zr_getR h zfo_X12_26 lR_0 rfl dX12_endOf_52 ?_
  refine zr_bipush (v := (zI 10)) h dX12_endOf_55 (by decide) ?_
  refine zr_iload_n h dX12_endOf_57 1 rfl rfl ?_
  refine zr_imul h dX12_endOf_58 ?_
  refine zr_iload_n h dX12_endOf_59 2 rfl rfl ?_
  refine zr_iadd h dX12_endOf_60 ?_
  have hb := zOk_chk hk
  have hk := hb.2
  refine zr_iald h lR_6 hb.1 dX12_endOf_61 ?_
  have hb := zOk_chk hk
  have hk := hb.2
  refine zr_iald h lR_11 hb.1 dX12_endOf_62 ?_
  have hk := zOk_some hk
  exact zr_iret h dX12_endOf_63 ⟨rfl, _, rfl, hk⟩
noncomputable def f_X12_endOf (M : ZMem) (x1 : Int32) (x2 : Int32) : Option Int32 := if x2 = (zI 0) then zchk (zin x1 28) (f_X12_endOf_16 M x1 x2 ((M.1 5 (zix x1)) - (zI 1))) else f_X12_endOf_16 M x1 x2 (zI 0)
set_option maxRecDepth 100000 in
set_option maxHeartbeats 4000000 in
theorem c_X12_endOf (E : ZEv) (M : ZMem) (x1 : Int32) (x2 : Int32) (K : Int32 → Prop) (hk : zOk (f_X12_endOf M x1 x2) K) : zCon lyR E yX12_endOf cX12_endOf 4 (some .int) 0 [zrf E 0, .int x1, .int x2] M (zRp M K) := by
  refine zcon_of (L0 := [(0, zrf E 0), (1, .int x1), (2, .int x2)]) (by decide) rfl (Nat.le_of_ble_eq_true rfl) (fun G h => ?_)
  have h : zRu lyR E G (zRp M K) cX12_endOf RX12 4 (some .int) 0 := h
  unfold f_X12_endOf at hk
  refine zr_iload_n h dX12_endOf_0 2 rfl rfl ?_
  refine zr_if_ne (tgt := 15) h dX12_endOf_1 (by decide) (fun c => ?_) (fun c => ?_)
  · have hk := zOk_t c hk
    refine zr_aload_n h dX12_endOf_4 0 rfl rfl ?_
    refine zr_getR h zfo_X12_23 lR_0 rfl dX12_endOf_5 ?_
    refine zr_iload_n h dX12_endOf_8 1 rfl rfl ?_
    have hb := zOk_chk hk
    have hk := hb.2
    refine zr_iald h lR_5 hb.1 dX12_endOf_9 ?_
    refine zr_iconst (v := (zI 1)) h dX12_endOf_10 rfl ?_
    refine zr_isub h dX12_endOf_11 ?_
    refine zr_goto (tgt := 16) h dX12_endOf_12 (by decide) ?_
    exact w_X12_endOf_16 M h x1 x2 ((M.1 5 (zix x1)) - (zI 1)) hk
  · have hk := zOk_f c hk
    refine zr_iconst (v := (zI 0)) h dX12_endOf_15 rfl ?_
    exact w_X12_endOf_16 M h x1 x2 (zI 0) hk
theorem dX12_ends_0 : decode cX12_ends 0 = .ok (.iconst 0, 1) := by decide +kernel
theorem dX12_ends_1 : decode cX12_ends 1 = .ok (.istore_n 2, 1) := by decide +kernel
theorem dX12_ends_2 : decode cX12_ends 2 = .ok (.iconst 0, 1) := by decide +kernel
theorem dX12_ends_3 : decode cX12_ends 3 = .ok (.istore_n 3, 1) := by decide +kernel
theorem dX12_ends_4 : decode cX12_ends 4 = .ok (.iload_n 3, 1) := by decide +kernel
theorem dX12_ends_5 : decode cX12_ends 5 = .ok (.aload_n 0, 1) := by decide +kernel
theorem dX12_ends_6 : decode cX12_ends 6 = .ok (.getfield 165, 3) := by decide +kernel
theorem dX12_ends_9 : decode cX12_ends 9 = .ok (.if_icmp .ge 45, 3) := by decide +kernel
theorem dX12_ends_12 : decode cX12_ends 12 = .ok (.iconst 0, 1) := by decide +kernel
theorem dX12_ends_13 : decode cX12_ends 13 = .ok (.istore 4, 2) := by decide +kernel
theorem dX12_ends_15 : decode cX12_ends 15 = .ok (.iload 4, 2) := by decide +kernel
theorem dX12_ends_17 : decode cX12_ends 17 = .ok (.aload_n 0, 1) := by decide +kernel
theorem dX12_ends_18 : decode cX12_ends 18 = .ok (.getfield 20, 3) := by decide +kernel
theorem dX12_ends_21 : decode cX12_ends 21 = .ok (.iload_n 3, 1) := by decide +kernel
theorem dX12_ends_22 : decode cX12_ends 22 = .ok (.iaload, 1) := by decide +kernel
theorem dX12_ends_23 : decode cX12_ends 23 = .ok (.if_icmp .ge 25, 3) := by decide +kernel
theorem dX12_ends_26 : decode cX12_ends 26 = .ok (.iload_n 2, 1) := by decide +kernel
theorem dX12_ends_27 : decode cX12_ends 27 = .ok (.iconst 1, 1) := by decide +kernel
theorem dX12_ends_28 : decode cX12_ends 28 = .ok (.aload_n 0, 1) := by decide +kernel
theorem dX12_ends_29 : decode cX12_ends 29 = .ok (.iconst 4, 1) := by decide +kernel
theorem dX12_ends_30 : decode cX12_ends 30 = .ok (.iload_n 3, 1) := by decide +kernel
theorem dX12_ends_31 : decode cX12_ends 31 = .ok (.imul, 1) := by decide +kernel
theorem dX12_ends_32 : decode cX12_ends 32 = .ok (.iload 4, 2) := by decide +kernel
theorem dX12_ends_34 : decode cX12_ends 34 = .ok (.iadd, 1) := by decide +kernel
theorem dX12_ends_35 : decode cX12_ends 35 = .ok (.iload_n 1, 1) := by decide +kernel
theorem dX12_ends_36 : decode cX12_ends 36 = .ok (.invokevirtual 265, 3) := by decide +kernel
theorem dX12_ends_39 : decode cX12_ends 39 = .ok (.ishl, 1) := by decide +kernel
theorem dX12_ends_40 : decode cX12_ends 40 = .ok (.ior, 1) := by decide +kernel
theorem dX12_ends_41 : decode cX12_ends 41 = .ok (.istore_n 2, 1) := by decide +kernel
theorem dX12_ends_42 : decode cX12_ends 42 = .ok (.iinc 4 1, 3) := by decide +kernel
theorem dX12_ends_45 : decode cX12_ends 45 = .ok (.goto (-30), 3) := by decide +kernel
theorem dX12_ends_48 : decode cX12_ends 48 = .ok (.iinc 3 1, 3) := by decide +kernel
theorem dX12_ends_51 : decode cX12_ends 51 = .ok (.goto (-47), 3) := by decide +kernel
theorem dX12_ends_54 : decode cX12_ends 54 = .ok (.iload_n 2, 1) := by decide +kernel
theorem dX12_ends_55 : decode cX12_ends 55 = .ok (.invokestatic 268, 3) := by decide +kernel
theorem dX12_ends_58 : decode cX12_ends 58 = .ok (.ireturn, 1) := by decide +kernel
noncomputable def f_X12_ends_L15 (M : ZMem) (x1 : Int32) (x3 : Int32) (s : (Int32 × Int32)) : Option ((Int32 × Int32) ⊕ (Int32)) := zchk (zin x3 7) (if (M.1 4 (zix x3)) ≤ s.2 then some (.inr s.1) else zbind (f_X12_endOf M (((zI 4) * x3) + s.2) x1) (fun r_36 => zbnd (s.1 ||| ((zI 1) <<< (r_36 &&& 31))) (fun x2_41 => zbnd (s.2 + (zI 1)) (fun x4_42 => some (.inl (x2_41, x4_42))))))
set_option maxRecDepth 100000 in
set_option maxHeartbeats 4000000 in
theorem w_X12_ends_L15 {E : ZEv} {G : ZG} {K : Int32 → Prop} (M : ZMem) (h : zRu lyR E G (zRp M K) cX12_ends RX12 5 (some .int) 1) (x1 : Int32) (x3 : Int32) (s : (Int32 × Int32)) (hk : zOk (zloop (f_X12_ends_L15 M x1 x3) s) (fun e => G M 48 [(0, zrf E 0), (1, .int x1), (2, .int e), (3, .int x3)] [])) : G M 15 [(0, zrf E 0), (1, .int x1), (2, .int s.1), (3, .int x3), (4, .int s.2)] [] := by
  refine zloop_walk (P := fun s => G M 15 [(0, zrf E 0), (1, .int x1), (2, .int s.1), (3, .int x3), (4, .int s.2)] []) hk (fun s hk => ?_)
  unfold f_X12_ends_L15 at hk
  refine zr_iload h dX12_ends_15 4 rfl ?_
  refine zr_aload_n h dX12_ends_17 0 rfl rfl ?_
  refine zr_getR h zfo_X12_20 lR_0 rfl dX12_ends_18 ?_
  refine zr_iload_n h dX12_ends_21 3 rfl rfl ?_
  have hb := zOk_chk hk
  have hk := hb.2
  refine zr_iald h lR_4 hb.1 dX12_ends_22 ?_
  refine zr_icmp_ge (tgt := 48) h dX12_ends_23 (by decide) (fun c => ?_) (fun c => ?_)
  · have hk := zOk_t c hk
    have hk := zOk_some hk
    exact zr_weak h [0, 1, 2, 3] rfl hk
  · have hk := zOk_f c hk
    refine zr_iload_n h dX12_ends_26 2 rfl rfl ?_
    refine zr_iconst (v := (zI 1)) h dX12_ends_27 rfl ?_
    refine zr_aload_n h dX12_ends_28 0 rfl rfl ?_
    refine zr_iconst (v := (zI 4)) h dX12_ends_29 rfl ?_
    refine zr_iload_n h dX12_ends_30 3 rfl rfl ?_
    refine zr_imul h dX12_ends_31 ?_
    refine zr_iload h dX12_ends_32 4 rfl ?_
    refine zr_iadd h dX12_ends_34 ?_
    refine zr_iload_n h dX12_ends_35 1 rfl rfl ?_
    refine zr_callVp h lR_0 zcw_X12_265 (by decide) (c_X12_endOf E M (((zI 4) * x3) + s.2) x1 _ (zOk_bind hk)) rfl rfl (Nat.le_of_ble_eq_true rfl) dX12_ends_36 (fun r_36 hk => ?_)
    refine zr_ishl h dX12_ends_39 ?_
    refine zr_ior h dX12_ends_40 ?_
    refine zr_topi (fun x2_41 ex => ?_)
    have hk := zOk_bnd ex hk
    refine zr_istore_n (L' := [(0, zrf E 0), (1, .int x1), (2, .int x2_41), (3, .int x3), (4, .int s.2)]) h [1, 2, 0, 3, 4] dX12_ends_41 rfl (by decide) rfl ?_
    obtain ⟨x4_42, ex⟩ : ∃ y : Int32, y = s.2 + (zI 1) := ⟨_, rfl⟩
    have hk := zOk_bnd ex hk
    refine zr_iinc (v := x4_42) (L' := [(0, zrf E 0), (1, .int x1), (2, .int x2_41), (3, .int x3), (4, .int x4_42)]) h 4 [1, 2, 3, 4, 0] dX12_ends_42 rfl (by rw [ex]; rfl) (by decide) rfl ?_
    refine zr_goto (tgt := 15) h dX12_ends_45 (by decide) ?_
    have hk := zOk_some hk
    exact zr_weak h [0, 1, 2, 3, 4] rfl hk
noncomputable def f_X12_ends_L4 (M : ZMem) (x1 : Int32) (s : (Int32 × Int32)) : Option ((Int32 × Int32) ⊕ (Int32)) := if (M.1 0 8) ≤ s.2 then some (.inr s.1) else zbind (zloop (f_X12_ends_L15 M x1 s.2) (s.1, (zI 0))) (fun e15 => zbnd (s.2 + (zI 1)) (fun x3_48 => some (.inl (e15, x3_48))))
set_option maxRecDepth 100000 in
set_option maxHeartbeats 4000000 in
theorem w_X12_ends_L4 {E : ZEv} {G : ZG} {K : Int32 → Prop} (M : ZMem) (h : zRu lyR E G (zRp M K) cX12_ends RX12 5 (some .int) 1) (x1 : Int32) (s : (Int32 × Int32)) (hk : zOk (zloop (f_X12_ends_L4 M x1) s) (fun e => G M 54 [(2, .int e)] [])) : G M 4 [(0, zrf E 0), (1, .int x1), (2, .int s.1), (3, .int s.2)] [] := by
  refine zloop_walk (P := fun s => G M 4 [(0, zrf E 0), (1, .int x1), (2, .int s.1), (3, .int s.2)] []) hk (fun s hk => ?_)
  unfold f_X12_ends_L4 at hk
  refine zr_iload_n h dX12_ends_4 3 rfl rfl ?_
  refine zr_aload_n h dX12_ends_5 0 rfl rfl ?_
  refine zr_getI h zfo_X12_165 lR_0 rfl dX12_ends_6 ?_
  refine zr_icmp_ge (tgt := 54) h dX12_ends_9 (by decide) (fun c => ?_) (fun c => ?_)
  · have hk := zOk_t c hk
    have hk := zOk_some hk
    exact zr_weak h [2] rfl hk
  · have hk := zOk_f c hk
    refine zr_iconst (v := (zI 0)) h dX12_ends_12 rfl ?_
    refine zr_istore (L' := [(0, zrf E 0), (1, .int x1), (2, .int s.1), (3, .int s.2), (4, .int (zI 0))]) h [1, 2, 3, 4, 0] dX12_ends_13 (by decide) rfl ?_
    refine w_X12_ends_L15 M h x1 s.2 (s.1, (zI 0)) (zOk_mono (zOk_bind hk) (fun e15 hk => ?_))
    obtain ⟨x3_48, ex⟩ : ∃ y : Int32, y = s.2 + (zI 1) := ⟨_, rfl⟩
    have hk := zOk_bnd ex hk
    refine zr_iinc (v := x3_48) (L' := [(0, zrf E 0), (1, .int x1), (2, .int e15), (3, .int x3_48)]) h 3 [1, 2, 3, 0] dX12_ends_48 rfl (by rw [ex]; rfl) (by decide) rfl ?_
    refine zr_goto (tgt := 4) h dX12_ends_51 (by decide) ?_
    have hk := zOk_some hk
    exact zr_weak h [0, 1, 2, 3] rfl hk
noncomputable def f_X12_ends (M : ZMem) (x1 : Int32) : Option Int32 := zbind (zloop (f_X12_ends_L4 M x1) ((zI 0), (zI 0))) (fun e4 => zbind (f_J6_bitCount_0f7a4 M e4) (fun r_55 => some r_55))
set_option maxRecDepth 100000 in
set_option maxHeartbeats 4000000 in
theorem c_X12_ends (E : ZEv) (M : ZMem) (x1 : Int32) (K : Int32 → Prop) (hk : zOk (f_X12_ends M x1) K) : zCon lyR E yX12_ends cX12_ends 5 (some .int) 1 [zrf E 0, .int x1] M (zRp M K) := by
  refine zcon_of (L0 := [(0, zrf E 0), (1, .int x1)]) (by decide) rfl (Nat.le_of_ble_eq_true rfl) (fun G h => ?_)
  have h : zRu lyR E G (zRp M K) cX12_ends RX12 5 (some .int) 1 := h
  unfold f_X12_ends at hk
  refine zr_iconst (v := (zI 0)) h dX12_ends_0 rfl ?_
  refine zr_istore_n (L' := [(0, zrf E 0), (1, .int x1), (2, .int (zI 0))]) h [1, 2, 0] dX12_ends_1 rfl (by decide) rfl ?_
  refine zr_iconst (v := (zI 0)) h dX12_ends_2 rfl ?_
  refine zr_istore_n (L' := [(0, zrf E 0), (1, .int x1), (2, .int (zI 0)), (3, .int (zI 0))]) h [1, 2, 3, 0] dX12_ends_3 rfl (by decide) rfl ?_
  refine w_X12_ends_L4 M h x1 ((zI 0), (zI 0)) (zOk_mono (zOk_bind hk) (fun e4 hk => ?_))
  refine zr_iload_n h dX12_ends_54 0 rfl rfl ?_
  refine zr_callSp h zcw_X12_268 (by decide) (c_J6_bitCount_0f7a4 E M e4 _ (zOk_bind hk)) rfl rfl (Nat.le_of_ble_eq_true rfl) dX12_ends_55 (fun r_55 hk => ?_)
  have hk := zOk_some hk
  exact zr_iret h dX12_ends_58 ⟨rfl, _, rfl, hk⟩
theorem dX12_judgedWay_0 : decode cX12_judgedWay 0 = .ok (.aload_n 0, 1) := by decide +kernel
theorem dX12_judgedWay_1 : decode cX12_judgedWay 1 = .ok (.iconst 0, 1) := by decide +kernel
theorem dX12_judgedWay_2 : decode cX12_judgedWay 2 = .ok (.invokevirtual 274, 3) := by decide +kernel
theorem dX12_judgedWay_5 : decode cX12_judgedWay 5 = .ok (.aload_n 0, 1) := by decide +kernel
theorem dX12_judgedWay_6 : decode cX12_judgedWay 6 = .ok (.iconst 1, 1) := by decide +kernel
theorem dX12_judgedWay_7 : decode cX12_judgedWay 7 = .ok (.invokevirtual 274, 3) := by decide +kernel
theorem dX12_judgedWay_10 : decode cX12_judgedWay 10 = .ok (.if_icmp .eq 22, 3) := by decide +kernel
theorem dX12_judgedWay_13 : decode cX12_judgedWay 13 = .ok (.aload_n 0, 1) := by decide +kernel
theorem dX12_judgedWay_14 : decode cX12_judgedWay 14 = .ok (.iconst 0, 1) := by decide +kernel
theorem dX12_judgedWay_15 : decode cX12_judgedWay 15 = .ok (.invokevirtual 274, 3) := by decide +kernel
theorem dX12_judgedWay_18 : decode cX12_judgedWay 18 = .ok (.aload_n 0, 1) := by decide +kernel
theorem dX12_judgedWay_19 : decode cX12_judgedWay 19 = .ok (.iconst 1, 1) := by decide +kernel
theorem dX12_judgedWay_20 : decode cX12_judgedWay 20 = .ok (.invokevirtual 274, 3) := by decide +kernel
theorem dX12_judgedWay_23 : decode cX12_judgedWay 23 = .ok (.if_icmp .le 7, 3) := by decide +kernel
theorem dX12_judgedWay_26 : decode cX12_judgedWay 26 = .ok (.iconst 0, 1) := by decide +kernel
theorem dX12_judgedWay_27 : decode cX12_judgedWay 27 = .ok (.goto 4, 3) := by decide +kernel
theorem dX12_judgedWay_30 : decode cX12_judgedWay 30 = .ok (.iconst 1, 1) := by decide +kernel
theorem dX12_judgedWay_31 : decode cX12_judgedWay 31 = .ok (.ireturn, 1) := by decide +kernel
theorem dX12_judgedWay_32 : decode cX12_judgedWay 32 = .ok (.aload_n 0, 1) := by decide +kernel
theorem dX12_judgedWay_33 : decode cX12_judgedWay 33 = .ok (.iconst 1, 1) := by decide +kernel
theorem dX12_judgedWay_34 : decode cX12_judgedWay 34 = .ok (.invokevirtual 277, 3) := by decide +kernel
theorem dX12_judgedWay_37 : decode cX12_judgedWay 37 = .ok (.aload_n 0, 1) := by decide +kernel
theorem dX12_judgedWay_38 : decode cX12_judgedWay 38 = .ok (.iconst 0, 1) := by decide +kernel
theorem dX12_judgedWay_39 : decode cX12_judgedWay 39 = .ok (.invokevirtual 277, 3) := by decide +kernel
theorem dX12_judgedWay_42 : decode cX12_judgedWay 42 = .ok (.if_icmp .ge 7, 3) := by decide +kernel
theorem dX12_judgedWay_45 : decode cX12_judgedWay 45 = .ok (.iconst 1, 1) := by decide +kernel
theorem dX12_judgedWay_46 : decode cX12_judgedWay 46 = .ok (.goto 4, 3) := by decide +kernel
theorem dX12_judgedWay_49 : decode cX12_judgedWay 49 = .ok (.iconst 0, 1) := by decide +kernel
theorem dX12_judgedWay_50 : decode cX12_judgedWay 50 = .ok (.ireturn, 1) := by decide +kernel
noncomputable def f_X12_judgedWay (M : ZMem) : Option Int32 := zbind (f_X12_ragged M (zI 0)) (fun r_2 => zbind (f_X12_ragged M (zI 1)) (fun r_7 => if r_2 = r_7 then zbind (f_X12_ends M (zI 1)) (fun r_34 => zbind (f_X12_ends M (zI 0)) (fun r_39 => if r_39 ≤ r_34 then some (zI 0) else some (zI 1))) else zbind (f_X12_ragged M (zI 0)) (fun r_15 => zbind (f_X12_ragged M (zI 1)) (fun r_20 => if r_15 ≤ r_20 then some (zI 1) else some (zI 0)))))
set_option maxRecDepth 100000 in
set_option maxHeartbeats 4000000 in
theorem c_X12_judgedWay (E : ZEv) (M : ZMem) (K : Int32 → Prop) (hk : zOk (f_X12_judgedWay M) K) : zCon lyR E yX12_judgedWay cX12_judgedWay 1 (some .int) 2 [zrf E 0] M (zRp M K) := by
  refine zcon_of (L0 := [(0, zrf E 0)]) (by decide) rfl (Nat.le_of_ble_eq_true rfl) (fun G h => ?_)
  have h : zRu lyR E G (zRp M K) cX12_judgedWay RX12 1 (some .int) 2 := h
  unfold f_X12_judgedWay at hk
  refine zr_aload_n h dX12_judgedWay_0 0 rfl rfl ?_
  refine zr_iconst (v := (zI 0)) h dX12_judgedWay_1 rfl ?_
  refine zr_callVp h lR_0 zcw_X12_274 (by decide) (c_X12_ragged E M (zI 0) _ (zOk_bind hk)) rfl rfl (Nat.le_of_ble_eq_true rfl) dX12_judgedWay_2 (fun r_2 hk => ?_)
  refine zr_aload_n h dX12_judgedWay_5 0 rfl rfl ?_
  refine zr_iconst (v := (zI 1)) h dX12_judgedWay_6 rfl ?_
  refine zr_callVp h lR_0 zcw_X12_274 (by decide) (c_X12_ragged E M (zI 1) _ (zOk_bind hk)) rfl rfl (Nat.le_of_ble_eq_true rfl) dX12_judgedWay_7 (fun r_7 hk => ?_)
  refine zr_icmp_eq (tgt := 32) h dX12_judgedWay_10 (by decide) (fun c => ?_) (fun c => ?_)
  · have hk := zOk_t c hk
    refine zr_aload_n h dX12_judgedWay_32 0 rfl rfl ?_
    refine zr_iconst (v := (zI 1)) h dX12_judgedWay_33 rfl ?_
    refine zr_callVp h lR_0 zcw_X12_277 (by decide) (c_X12_ends E M (zI 1) _ (zOk_bind hk)) rfl rfl (Nat.le_of_ble_eq_true rfl) dX12_judgedWay_34 (fun r_34 hk => ?_)
    refine zr_aload_n h dX12_judgedWay_37 0 rfl rfl ?_
    refine zr_iconst (v := (zI 0)) h dX12_judgedWay_38 rfl ?_
    refine zr_callVp h lR_0 zcw_X12_277 (by decide) (c_X12_ends E M (zI 0) _ (zOk_bind hk)) rfl rfl (Nat.le_of_ble_eq_true rfl) dX12_judgedWay_39 (fun r_39 hk => ?_)
    refine zr_icmp_ge (tgt := 49) h dX12_judgedWay_42 (by decide) (fun c => ?_) (fun c => ?_)
    · have hk := zOk_t c hk
      refine zr_iconst (v := (zI 0)) h dX12_judgedWay_49 rfl ?_
      have hk := zOk_some hk
      exact zr_iret h dX12_judgedWay_50 ⟨rfl, _, rfl, hk⟩
    · have hk := zOk_f c hk
      refine zr_iconst (v := (zI 1)) h dX12_judgedWay_45 rfl ?_
      refine zr_goto (tgt := 50) h dX12_judgedWay_46 (by decide) ?_
      have hk := zOk_some hk
      exact zr_iret h dX12_judgedWay_50 ⟨rfl, _, rfl, hk⟩
  · have hk := zOk_f c hk
    refine zr_aload_n h dX12_judgedWay_13 0 rfl rfl ?_
    refine zr_iconst (v := (zI 0)) h dX12_judgedWay_14 rfl ?_
    refine zr_callVp h lR_0 zcw_X12_274 (by decide) (c_X12_ragged E M (zI 0) _ (zOk_bind hk)) rfl rfl (Nat.le_of_ble_eq_true rfl) dX12_judgedWay_15 (fun r_15 hk => ?_)
    refine zr_aload_n h dX12_judgedWay_18 0 rfl rfl ?_
    refine zr_iconst (v := (zI 1)) h dX12_judgedWay_19 rfl ?_
    refine zr_callVp h lR_0 zcw_X12_274 (by decide) (c_X12_ragged E M (zI 1) _ (zOk_bind hk)) rfl rfl (Nat.le_of_ble_eq_true rfl) dX12_judgedWay_20 (fun r_20 hk => ?_)
    refine zr_icmp_le (tgt := 30) h dX12_judgedWay_23 (by decide) (fun c => ?_) (fun c => ?_)
    · have hk := zOk_t c hk
      refine zr_iconst (v := (zI 1)) h dX12_judgedWay_30 rfl ?_
      have hk := zOk_some hk
      exact zr_iret h dX12_judgedWay_31 ⟨rfl, _, rfl, hk⟩
    · have hk := zOk_f c hk
      refine zr_iconst (v := (zI 0)) h dX12_judgedWay_26 rfl ?_
      refine zr_goto (tgt := 31) h dX12_judgedWay_27 (by decide) ?_
      have hk := zOk_some hk
      exact zr_iret h dX12_judgedWay_31 ⟨rfl, _, rfl, hk⟩
theorem dX12_laysRow_0 : decode cX12_laysRow 0 = .ok (.aload_n 0, 1) := by decide +kernel
theorem dX12_laysRow_1 : decode cX12_laysRow 1 = .ok (.getfield 47, 3) := by decide +kernel
theorem dX12_laysRow_4 : decode cX12_laysRow 4 = .ok (.aload_n 0, 1) := by decide +kernel
theorem dX12_laysRow_5 : decode cX12_laysRow 5 = .ok (.getfield 283, 3) := by decide +kernel
theorem dX12_laysRow_8 : decode cX12_laysRow 8 = .ok (.iaload, 1) := by decide +kernel
theorem dX12_laysRow_9 : decode cX12_laysRow 9 = .ok (.istore_n 3, 1) := by decide +kernel
theorem dX12_laysRow_10 : decode cX12_laysRow 10 = .ok (.iconst 0, 1) := by decide +kernel
theorem dX12_laysRow_11 : decode cX12_laysRow 11 = .ok (.istore 4, 2) := by decide +kernel
theorem dX12_laysRow_13 : decode cX12_laysRow 13 = .ok (.iload 4, 2) := by decide +kernel
theorem dX12_laysRow_15 : decode cX12_laysRow 15 = .ok (.aload_n 0, 1) := by decide +kernel
theorem dX12_laysRow_16 : decode cX12_laysRow 16 = .ok (.getfield 23, 3) := by decide +kernel
theorem dX12_laysRow_19 : decode cX12_laysRow 19 = .ok (.iload_n 1, 1) := by decide +kernel
theorem dX12_laysRow_20 : decode cX12_laysRow 20 = .ok (.iaload, 1) := by decide +kernel
theorem dX12_laysRow_21 : decode cX12_laysRow 21 = .ok (.if_icmp .ge 63, 3) := by decide +kernel
theorem dX12_laysRow_24 : decode cX12_laysRow 24 = .ok (.aload_n 0, 1) := by decide +kernel
theorem dX12_laysRow_25 : decode cX12_laysRow 25 = .ok (.getfield 26, 3) := by decide +kernel
theorem dX12_laysRow_28 : decode cX12_laysRow 28 = .ok (.bipush 10, 2) := by decide +kernel
theorem dX12_laysRow_30 : decode cX12_laysRow 30 = .ok (.iload_n 1, 1) := by decide +kernel
theorem dX12_laysRow_31 : decode cX12_laysRow 31 = .ok (.imul, 1) := by decide +kernel
theorem dX12_laysRow_32 : decode cX12_laysRow 32 = .ok (.iload_n 2, 1) := by decide +kernel
theorem dX12_laysRow_33 : decode cX12_laysRow 33 = .ok (.ifCond .eq 17, 3) := by decide +kernel
theorem dX12_laysRow_36 : decode cX12_laysRow 36 = .ok (.aload_n 0, 1) := by decide +kernel
theorem dX12_laysRow_37 : decode cX12_laysRow 37 = .ok (.getfield 23, 3) := by decide +kernel
theorem dX12_laysRow_40 : decode cX12_laysRow 40 = .ok (.iload_n 1, 1) := by decide +kernel
theorem dX12_laysRow_41 : decode cX12_laysRow 41 = .ok (.iaload, 1) := by decide +kernel
theorem dX12_laysRow_42 : decode cX12_laysRow 42 = .ok (.iconst 1, 1) := by decide +kernel
theorem dX12_laysRow_43 : decode cX12_laysRow 43 = .ok (.isub, 1) := by decide +kernel
theorem dX12_laysRow_44 : decode cX12_laysRow 44 = .ok (.iload 4, 2) := by decide +kernel
theorem dX12_laysRow_46 : decode cX12_laysRow 46 = .ok (.isub, 1) := by decide +kernel
theorem dX12_laysRow_47 : decode cX12_laysRow 47 = .ok (.goto 5, 3) := by decide +kernel
theorem dX12_laysRow_50 : decode cX12_laysRow 50 = .ok (.iload 4, 2) := by decide +kernel
theorem dX12_laysRow_52 : decode cX12_laysRow 52 = .ok (.iadd, 1) := by decide +kernel
theorem dX12_laysRow_53 : decode cX12_laysRow 53 = .ok (.iaload, 1) := by decide +kernel
theorem dX12_laysRow_54 : decode cX12_laysRow 54 = .ok (.istore 5, 2) := by decide +kernel
theorem dX12_laysRow_56 : decode cX12_laysRow 56 = .ok (.iload 5, 2) := by decide +kernel
theorem dX12_laysRow_58 : decode cX12_laysRow 58 = .ok (.iconst (-1), 1) := by decide +kernel
theorem dX12_laysRow_59 : decode cX12_laysRow 59 = .ok (.if_icmp .eq 19, 3) := by decide +kernel
theorem dX12_laysRow_62 : decode cX12_laysRow 62 = .ok (.aload_n 0, 1) := by decide +kernel
theorem dX12_laysRow_63 : decode cX12_laysRow 63 = .ok (.getfield 50, 3) := by decide +kernel
theorem dX12_laysRow_66 : decode cX12_laysRow 66 = .ok (.iload_n 3, 1) := by decide +kernel
theorem dX12_laysRow_67 : decode cX12_laysRow 67 = .ok (.aload_n 0, 1) := by decide +kernel
theorem dX12_laysRow_68 : decode cX12_laysRow 68 = .ok (.getfield 41, 3) := by decide +kernel
theorem dX12_laysRow_71 : decode cX12_laysRow 71 = .ok (.iload 5, 2) := by decide +kernel
theorem dX12_laysRow_73 : decode cX12_laysRow 73 = .ok (.iaload, 1) := by decide +kernel
theorem dX12_laysRow_74 : decode cX12_laysRow 74 = .ok (.iastore, 1) := by decide +kernel
theorem dX12_laysRow_75 : decode cX12_laysRow 75 = .ok (.iinc 3 1, 3) := by decide +kernel
theorem dX12_laysRow_78 : decode cX12_laysRow 78 = .ok (.iinc 4 1, 3) := by decide +kernel
theorem dX12_laysRow_81 : decode cX12_laysRow 81 = .ok (.goto (-68), 3) := by decide +kernel
theorem dX12_laysRow_84 : decode cX12_laysRow 84 = .ok (.aload_n 0, 1) := by decide +kernel
theorem dX12_laysRow_85 : decode cX12_laysRow 85 = .ok (.dup, 1) := by decide +kernel
theorem dX12_laysRow_86 : decode cX12_laysRow 86 = .ok (.getfield 283, 3) := by decide +kernel
theorem dX12_laysRow_89 : decode cX12_laysRow 89 = .ok (.iconst 1, 1) := by decide +kernel
theorem dX12_laysRow_90 : decode cX12_laysRow 90 = .ok (.iadd, 1) := by decide +kernel
theorem dX12_laysRow_91 : decode cX12_laysRow 91 = .ok (.putfield 283, 3) := by decide +kernel
theorem dX12_laysRow_94 : decode cX12_laysRow 94 = .ok (.aload_n 0, 1) := by decide +kernel
theorem dX12_laysRow_95 : decode cX12_laysRow 95 = .ok (.getfield 47, 3) := by decide +kernel
theorem dX12_laysRow_98 : decode cX12_laysRow 98 = .ok (.aload_n 0, 1) := by decide +kernel
theorem dX12_laysRow_99 : decode cX12_laysRow 99 = .ok (.getfield 283, 3) := by decide +kernel
theorem dX12_laysRow_102 : decode cX12_laysRow 102 = .ok (.iload_n 3, 1) := by decide +kernel
theorem dX12_laysRow_103 : decode cX12_laysRow 103 = .ok (.iastore, 1) := by decide +kernel
theorem dX12_laysRow_104 : decode cX12_laysRow 104 = .ok (.return_, 1) := by decide +kernel
noncomputable def f_X12_laysRow_52_L13 (M : ZMem) (x1 : Int32) (x2 : Int32) (x3 : Int32) (x4 : Int32) (v1 : Int32) (v2 : Int32) : Option ((ZMem × Int32 × Int32) ⊕ (ZMem × Int32)) := zchk (zin (v1 + v2) 280) (zbnd (M.1 6 (zix (v1 + v2))) (fun x5_54 => if x5_54 = (zI (-1)) then zbnd (x4 + (zI 1)) (fun x4_78 => some (.inl (M, x3, x4_78))) else zchk (zin x5_54 20) (zchk (zin x3 240) (zbnd (zstI M 14 (zix x3) (M.1 11 (zix x5_54))) (fun M_74 => zbnd (x3 + (zI 1)) (fun x3_75 => zbnd (x4 + (zI 1)) (fun x4_78 => some (.inl (M_74, x3_75, x4_78)))))))))
set_option maxRecDepth 100000 in
set_option maxHeartbeats 4000000 in
theorem w_X12_laysRow_52_L13 {E : ZEv} {G : ZG} {K : ZMem → Prop} (h : zRu lyR E G (zRv K) cX12_laysRow RX12 6 none 0) (M : ZMem) (x1 : Int32) (x2 : Int32) (x3 : Int32) (x4 : Int32) (v1 : Int32) (v2 : Int32) (hk : zOk (f_X12_laysRow_52_L13 M x1 x2 x3 x4 v1 v2) (zlp (fun s => G s.1 13 [(0, zrf E 0), (1, .int x1), (2, .int x2), (3, .int s.2.1), (4, .int s.2.2)] []) (fun e => G e.1 84 [(0, zrf E 0), (3, .int e.2)] []))) : G M 52 [(0, zrf E 0), (1, .int x1), (2, .int x2), (3, .int x3), (4, .int x4)] [.int v2, .int v1, zrf E 6] := by
  unfold f_X12_laysRow_52_L13 at hk
  refine zr_iadd h dX12_laysRow_52 ?_
  have hb := zOk_chk hk
  have hk := hb.2
  refine zr_iald h lR_6 hb.1 dX12_laysRow_53 ?_
  refine zr_topi (fun x5_54 ex => ?_)
  have hk := zOk_bnd ex hk
  refine zr_istore (L' := [(0, zrf E 0), (1, .int x1), (2, .int x2), (3, .int x3), (4, .int x4), (5, .int x5_54)]) h [1, 2, 3, 4, 5, 0] dX12_laysRow_54 (by decide) rfl ?_
  refine zr_iload h dX12_laysRow_56 5 rfl ?_
  refine zr_iconst (v := (zI (-1))) h dX12_laysRow_58 rfl ?_
  refine zr_icmp_eq (tgt := 78) h dX12_laysRow_59 (by decide) (fun c => ?_) (fun c => ?_)
  · have hk := zOk_t c hk
    obtain ⟨x4_78, ex⟩ : ∃ y : Int32, y = x4 + (zI 1) := ⟨_, rfl⟩
    have hk := zOk_bnd ex hk
    refine zr_iinc (v := x4_78) (L' := [(0, zrf E 0), (1, .int x1), (2, .int x2), (3, .int x3), (4, .int x4_78)]) h 4 [1, 2, 3, 4, 0] dX12_laysRow_78 rfl (by rw [ex]; rfl) (by decide) rfl ?_
    refine zr_goto (tgt := 13) h dX12_laysRow_81 (by decide) ?_
    have hk := zOk_some hk
    exact zr_weak h [0, 1, 2, 3, 4] rfl hk
  · have hk := zOk_f c hk
    refine zr_aload_n h dX12_laysRow_62 0 rfl rfl ?_
    refine zr_getR h zfo_X12_50 lR_0 rfl dX12_laysRow_63 ?_
    refine zr_iload_n h dX12_laysRow_66 3 rfl rfl ?_
    refine zr_aload_n h dX12_laysRow_67 0 rfl rfl ?_
    refine zr_getR h zfo_X12_41 lR_0 rfl dX12_laysRow_68 ?_
    refine zr_iload h dX12_laysRow_71 5 rfl ?_
    have hb := zOk_chk hk
    have hk := hb.2
    refine zr_iald h lR_11 hb.1 dX12_laysRow_73 ?_
    have hb := zOk_chk hk
    have hk := hb.2
    refine zr_iast h lR_14 hb.1 dX12_laysRow_74 ?_
    refine zr_mem (fun M_74 eM => ?_)
    have hk := zOk_bnd eM hk
    obtain ⟨x3_75, ex⟩ : ∃ y : Int32, y = x3 + (zI 1) := ⟨_, rfl⟩
    have hk := zOk_bnd ex hk
    refine zr_iinc (v := x3_75) (L' := [(0, zrf E 0), (1, .int x1), (2, .int x2), (3, .int x3_75), (4, .int x4)]) h 3 [1, 2, 3, 0, 4] dX12_laysRow_75 rfl (by rw [ex]; rfl) (by decide) rfl ?_
    obtain ⟨x4_78, ex⟩ : ∃ y : Int32, y = x4 + (zI 1) := ⟨_, rfl⟩
    have hk := zOk_bnd ex hk
    refine zr_iinc (v := x4_78) (L' := [(0, zrf E 0), (1, .int x1), (2, .int x2), (3, .int x3_75), (4, .int x4_78)]) h 4 [1, 2, 3, 4, 0] dX12_laysRow_78 rfl (by rw [ex]; rfl) (by decide) rfl ?_
    refine zr_goto (tgt := 13) h dX12_laysRow_81 (by decide) ?_
    have hk := zOk_some hk
    exact zr_weak h [0, 1, 2, 3, 4] rfl hk
noncomputable def f_X12_laysRow_L13 (x1 : Int32) (x2 : Int32) (s : (ZMem × Int32 × Int32)) : Option ((ZMem × Int32 × Int32) ⊕ (ZMem × Int32)) := zchk (zin x1 28) (if (s.1.1 5 (zix x1)) ≤ s.2.2 then some (.inr (s.1, s.2.1)) else if x2 = (zI 0) then f_X12_laysRow_52_L13 s.1 x1 x2 s.2.1 s.2.2 ((zI 10) * x1) s.2.2 else zchk (zin x1 28) (f_X12_laysRow_52_L13 s.1 x1 x2 s.2.1 s.2.2 ((zI 10) * x1) (((s.1.1 5 (zix x1)) - (zI 1)) - s.2.2)))
set_option maxRecDepth 100000 in
set_option maxHeartbeats 4000000 in
theorem w_X12_laysRow_L13 {E : ZEv} {G : ZG} {K : ZMem → Prop} (h : zRu lyR E G (zRv K) cX12_laysRow RX12 6 none 0) (x1 : Int32) (x2 : Int32) (s : (ZMem × Int32 × Int32)) (hk : zOk (zloop (f_X12_laysRow_L13 x1 x2) s) (fun e => G e.1 84 [(0, zrf E 0), (3, .int e.2)] [])) : G s.1 13 [(0, zrf E 0), (1, .int x1), (2, .int x2), (3, .int s.2.1), (4, .int s.2.2)] [] := by
  refine zloop_walk (P := fun s => G s.1 13 [(0, zrf E 0), (1, .int x1), (2, .int x2), (3, .int s.2.1), (4, .int s.2.2)] []) hk (fun s hk => ?_)
  unfold f_X12_laysRow_L13 at hk
  refine zr_iload h dX12_laysRow_13 4 rfl ?_
  refine zr_aload_n h dX12_laysRow_15 0 rfl rfl ?_
  refine zr_getR h zfo_X12_23 lR_0 rfl dX12_laysRow_16 ?_
  refine zr_iload_n h dX12_laysRow_19 1 rfl rfl ?_
  have hb := zOk_chk hk
  have hk := hb.2
  refine zr_iald h lR_5 hb.1 dX12_laysRow_20 ?_
  refine zr_icmp_ge (tgt := 84) h dX12_laysRow_21 (by decide) (fun c => ?_) (fun c => ?_)
  · have hk := zOk_t c hk
    have hk := zOk_some hk
    exact zr_weak h [0, 3] rfl hk
  · have hk := zOk_f c hk
    refine zr_aload_n h dX12_laysRow_24 0 rfl rfl ?_
    refine zr_getR h zfo_X12_26 lR_0 rfl dX12_laysRow_25 ?_
    refine zr_bipush (v := (zI 10)) h dX12_laysRow_28 (by decide) ?_
    refine zr_iload_n h dX12_laysRow_30 1 rfl rfl ?_
    refine zr_imul h dX12_laysRow_31 ?_
    refine zr_iload_n h dX12_laysRow_32 2 rfl rfl ?_
    refine zr_if_eq (tgt := 50) h dX12_laysRow_33 (by decide) (fun c => ?_) (fun c => ?_)
    · have hk := zOk_t c hk
      refine zr_iload h dX12_laysRow_50 4 rfl ?_
      exact w_X12_laysRow_52_L13 h s.1 x1 x2 s.2.1 s.2.2 ((zI 10) * x1) s.2.2 hk
    · have hk := zOk_f c hk
      refine zr_aload_n h dX12_laysRow_36 0 rfl rfl ?_
      refine zr_getR h zfo_X12_23 lR_0 rfl dX12_laysRow_37 ?_
      refine zr_iload_n h dX12_laysRow_40 1 rfl rfl ?_
      have hb := zOk_chk hk
      have hk := hb.2
      refine zr_iald h lR_5 hb.1 dX12_laysRow_41 ?_
      refine zr_iconst (v := (zI 1)) h dX12_laysRow_42 rfl ?_
      refine zr_isub h dX12_laysRow_43 ?_
      refine zr_iload h dX12_laysRow_44 4 rfl ?_
      refine zr_isub h dX12_laysRow_46 ?_
      refine zr_goto (tgt := 52) h dX12_laysRow_47 (by decide) ?_
      exact w_X12_laysRow_52_L13 h s.1 x1 x2 s.2.1 s.2.2 ((zI 10) * x1) (((s.1.1 5 (zix x1)) - (zI 1)) - s.2.2) hk
noncomputable def f_X12_laysRow (M : ZMem) (x1 : Int32) (x2 : Int32) : Option ZMem := zchk (zin (M.1 0 23) 25) (zbnd (M.1 13 (zix (M.1 0 23))) (fun x3_9 => zbind (zloop (f_X12_laysRow_L13 x1 x2) (M, x3_9, (zI 0))) (fun e13 => zbnd (zstI e13.1 0 23 ((e13.1.1 0 23) + (zI 1))) (fun M_91 => zchk (zin (M_91.1 0 23) 25) (zbnd (zstI M_91 13 (zix (M_91.1 0 23)) e13.2) (fun M_103 => some M_103))))))
set_option maxRecDepth 100000 in
set_option maxHeartbeats 4000000 in
theorem c_X12_laysRow (E : ZEv) (M : ZMem) (x1 : Int32) (x2 : Int32) (K : ZMem → Prop) (hk : zOk (f_X12_laysRow M x1 x2) K) : zCon lyR E yX12_laysRow cX12_laysRow 6 none 0 [zrf E 0, .int x1, .int x2] M (zRv K) := by
  refine zcon_of (L0 := [(0, zrf E 0), (1, .int x1), (2, .int x2)]) (by decide) rfl (Nat.le_of_ble_eq_true rfl) (fun G h => ?_)
  have h : zRu lyR E G (zRv K) cX12_laysRow RX12 6 none 0 := h
  unfold f_X12_laysRow at hk
  refine zr_aload_n h dX12_laysRow_0 0 rfl rfl ?_
  refine zr_getR h zfo_X12_47 lR_0 rfl dX12_laysRow_1 ?_
  refine zr_aload_n h dX12_laysRow_4 0 rfl rfl ?_
  refine zr_getI h zfo_X12_283 lR_0 rfl dX12_laysRow_5 ?_
  have hb := zOk_chk hk
  have hk := hb.2
  refine zr_iald h lR_13 hb.1 dX12_laysRow_8 ?_
  refine zr_topi (fun x3_9 ex => ?_)
  have hk := zOk_bnd ex hk
  refine zr_istore_n (L' := [(0, zrf E 0), (1, .int x1), (2, .int x2), (3, .int x3_9)]) h [1, 2, 3, 0] dX12_laysRow_9 rfl (by decide) rfl ?_
  refine zr_iconst (v := (zI 0)) h dX12_laysRow_10 rfl ?_
  refine zr_istore (L' := [(0, zrf E 0), (1, .int x1), (2, .int x2), (3, .int x3_9), (4, .int (zI 0))]) h [1, 2, 3, 4, 0] dX12_laysRow_11 (by decide) rfl ?_
  refine w_X12_laysRow_L13 h x1 x2 (M, x3_9, (zI 0)) (zOk_mono (zOk_bind hk) (fun e13 hk => ?_))
  refine zr_aload_n h dX12_laysRow_84 0 rfl rfl ?_
  refine zr_dup h dX12_laysRow_85 rfl ?_
  refine zr_getI h zfo_X12_283 lR_0 rfl dX12_laysRow_86 ?_
  refine zr_iconst (v := (zI 1)) h dX12_laysRow_89 rfl ?_
  refine zr_iadd h dX12_laysRow_90 ?_
  refine zr_putI h zfp_X12_283 lR_0 rfl dX12_laysRow_91 ?_
  refine zr_mem (fun M_91 eM => ?_)
  have hk := zOk_bnd eM hk
  refine zr_aload_n h dX12_laysRow_94 0 rfl rfl ?_
  refine zr_getR h zfo_X12_47 lR_0 rfl dX12_laysRow_95 ?_
  refine zr_aload_n h dX12_laysRow_98 0 rfl rfl ?_
  refine zr_getI h zfo_X12_283 lR_0 rfl dX12_laysRow_99 ?_
  refine zr_iload_n h dX12_laysRow_102 1 rfl rfl ?_
  have hb := zOk_chk hk
  have hk := hb.2
  refine zr_iast h lR_13 hb.1 dX12_laysRow_103 ?_
  refine zr_mem (fun M_103 eM => ?_)
  have hk := zOk_bnd eM hk
  have hk := zOk_some hk
  exact zr_vret h dX12_laysRow_104 ⟨rfl, hk⟩
theorem dX12_laysRows_0 : decode cX12_laysRows 0 = .ok (.aload_n 0, 1) := by decide +kernel
theorem dX12_laysRows_1 : decode cX12_laysRows 1 = .ok (.getfield 35, 3) := by decide +kernel
theorem dX12_laysRows_4 : decode cX12_laysRows 4 = .ok (.iconst 1, 1) := by decide +kernel
theorem dX12_laysRows_5 : decode cX12_laysRows 5 = .ok (.iaload, 1) := by decide +kernel
theorem dX12_laysRows_6 : decode cX12_laysRows 6 = .ok (.iconst 3, 1) := by decide +kernel
theorem dX12_laysRows_7 : decode cX12_laysRows 7 = .ok (.if_icmp .ne 10, 3) := by decide +kernel
theorem dX12_laysRows_10 : decode cX12_laysRows 10 = .ok (.aload_n 0, 1) := by decide +kernel
theorem dX12_laysRows_11 : decode cX12_laysRows 11 = .ok (.invokevirtual 280, 3) := by decide +kernel
theorem dX12_laysRows_14 : decode cX12_laysRows 14 = .ok (.goto 9, 3) := by decide +kernel
theorem dX12_laysRows_17 : decode cX12_laysRows 17 = .ok (.aload_n 0, 1) := by decide +kernel
theorem dX12_laysRows_18 : decode cX12_laysRows 18 = .ok (.getfield 35, 3) := by decide +kernel
theorem dX12_laysRows_21 : decode cX12_laysRows 21 = .ok (.iconst 1, 1) := by decide +kernel
theorem dX12_laysRows_22 : decode cX12_laysRows 22 = .ok (.iaload, 1) := by decide +kernel
theorem dX12_laysRows_23 : decode cX12_laysRows 23 = .ok (.istore_n 1, 1) := by decide +kernel
theorem dX12_laysRows_24 : decode cX12_laysRows 24 = .ok (.aload_n 0, 1) := by decide +kernel
theorem dX12_laysRows_25 : decode cX12_laysRows 25 = .ok (.iconst 0, 1) := by decide +kernel
theorem dX12_laysRows_26 : decode cX12_laysRows 26 = .ok (.putfield 283, 3) := by decide +kernel
theorem dX12_laysRows_29 : decode cX12_laysRows 29 = .ok (.aload_n 0, 1) := by decide +kernel
theorem dX12_laysRows_30 : decode cX12_laysRows 30 = .ok (.getfield 47, 3) := by decide +kernel
theorem dX12_laysRows_33 : decode cX12_laysRows 33 = .ok (.iconst 0, 1) := by decide +kernel
theorem dX12_laysRows_34 : decode cX12_laysRows 34 = .ok (.iconst 0, 1) := by decide +kernel
theorem dX12_laysRows_35 : decode cX12_laysRows 35 = .ok (.iastore, 1) := by decide +kernel
theorem dX12_laysRows_36 : decode cX12_laysRows 36 = .ok (.iconst 0, 1) := by decide +kernel
theorem dX12_laysRows_37 : decode cX12_laysRows 37 = .ok (.istore_n 2, 1) := by decide +kernel
theorem dX12_laysRows_38 : decode cX12_laysRows 38 = .ok (.iload_n 2, 1) := by decide +kernel
theorem dX12_laysRows_39 : decode cX12_laysRows 39 = .ok (.aload_n 0, 1) := by decide +kernel
theorem dX12_laysRows_40 : decode cX12_laysRows 40 = .ok (.getfield 165, 3) := by decide +kernel
theorem dX12_laysRows_43 : decode cX12_laysRows 43 = .ok (.if_icmp .ge 62, 3) := by decide +kernel
theorem dX12_laysRows_46 : decode cX12_laysRows 46 = .ok (.iconst 0, 1) := by decide +kernel
theorem dX12_laysRows_47 : decode cX12_laysRows 47 = .ok (.istore_n 3, 1) := by decide +kernel
theorem dX12_laysRows_48 : decode cX12_laysRows 48 = .ok (.iload_n 3, 1) := by decide +kernel
theorem dX12_laysRows_49 : decode cX12_laysRows 49 = .ok (.aload_n 0, 1) := by decide +kernel
theorem dX12_laysRows_50 : decode cX12_laysRows 50 = .ok (.getfield 20, 3) := by decide +kernel
theorem dX12_laysRows_53 : decode cX12_laysRows 53 = .ok (.iload_n 2, 1) := by decide +kernel
theorem dX12_laysRows_54 : decode cX12_laysRows 54 = .ok (.iaload, 1) := by decide +kernel
theorem dX12_laysRows_55 : decode cX12_laysRows 55 = .ok (.if_icmp .ge 44, 3) := by decide +kernel
theorem dX12_laysRows_58 : decode cX12_laysRows 58 = .ok (.iload_n 1, 1) := by decide +kernel
theorem dX12_laysRows_59 : decode cX12_laysRows 59 = .ok (.iconst 1, 1) := by decide +kernel
theorem dX12_laysRows_60 : decode cX12_laysRows 60 = .ok (.if_icmp .eq 15, 3) := by decide +kernel
theorem dX12_laysRows_63 : decode cX12_laysRows 63 = .ok (.iload_n 1, 1) := by decide +kernel
theorem dX12_laysRows_64 : decode cX12_laysRows 64 = .ok (.iconst 2, 1) := by decide +kernel
theorem dX12_laysRows_65 : decode cX12_laysRows 65 = .ok (.if_icmp .ne 14, 3) := by decide +kernel
theorem dX12_laysRows_68 : decode cX12_laysRows 68 = .ok (.iload_n 3, 1) := by decide +kernel
theorem dX12_laysRows_69 : decode cX12_laysRows 69 = .ok (.iconst 2, 1) := by decide +kernel
theorem dX12_laysRows_70 : decode cX12_laysRows 70 = .ok (.irem, 1) := by decide +kernel
theorem dX12_laysRows_71 : decode cX12_laysRows 71 = .ok (.iconst 1, 1) := by decide +kernel
theorem dX12_laysRows_72 : decode cX12_laysRows 72 = .ok (.if_icmp .ne 7, 3) := by decide +kernel
theorem dX12_laysRows_75 : decode cX12_laysRows 75 = .ok (.iconst 1, 1) := by decide +kernel
theorem dX12_laysRows_76 : decode cX12_laysRows 76 = .ok (.goto 4, 3) := by decide +kernel
theorem dX12_laysRows_79 : decode cX12_laysRows 79 = .ok (.iconst 0, 1) := by decide +kernel
theorem dX12_laysRows_80 : decode cX12_laysRows 80 = .ok (.istore 4, 2) := by decide +kernel
theorem dX12_laysRows_82 : decode cX12_laysRows 82 = .ok (.aload_n 0, 1) := by decide +kernel
theorem dX12_laysRows_83 : decode cX12_laysRows 83 = .ok (.iconst 4, 1) := by decide +kernel
theorem dX12_laysRows_84 : decode cX12_laysRows 84 = .ok (.iload_n 2, 1) := by decide +kernel
theorem dX12_laysRows_85 : decode cX12_laysRows 85 = .ok (.imul, 1) := by decide +kernel
theorem dX12_laysRows_86 : decode cX12_laysRows 86 = .ok (.iload_n 3, 1) := by decide +kernel
theorem dX12_laysRows_87 : decode cX12_laysRows 87 = .ok (.iadd, 1) := by decide +kernel
theorem dX12_laysRows_88 : decode cX12_laysRows 88 = .ok (.iload 4, 2) := by decide +kernel
theorem dX12_laysRows_90 : decode cX12_laysRows 90 = .ok (.invokevirtual 286, 3) := by decide +kernel
theorem dX12_laysRows_93 : decode cX12_laysRows 93 = .ok (.iinc 3 1, 3) := by decide +kernel
theorem dX12_laysRows_96 : decode cX12_laysRows 96 = .ok (.goto (-48), 3) := by decide +kernel
theorem dX12_laysRows_99 : decode cX12_laysRows 99 = .ok (.iinc 2 1, 3) := by decide +kernel
theorem dX12_laysRows_102 : decode cX12_laysRows 102 = .ok (.goto (-64), 3) := by decide +kernel
theorem dX12_laysRows_105 : decode cX12_laysRows 105 = .ok (.return_, 1) := by decide +kernel
noncomputable def f_X12_laysRows_80_L48 (M : ZMem) (x1 : Int32) (x2 : Int32) (x3 : Int32) (v0 : Int32) : Option ((ZMem × Int32) ⊕ (ZMem)) := zbind (f_X12_laysRow M (((zI 4) * x2) + x3) v0) (fun M_90 => zbnd (x3 + (zI 1)) (fun x3_93 => some (.inl (M_90, x3_93))))
set_option maxRecDepth 100000 in
set_option maxHeartbeats 4000000 in
theorem w_X12_laysRows_80_L48 {E : ZEv} {G : ZG} {K : ZMem → Prop} (h : zRu lyR E G (zRv K) cX12_laysRows RX12 5 none 3) (M : ZMem) (x1 : Int32) (x2 : Int32) (x3 : Int32) (v0 : Int32) (hk : zOk (f_X12_laysRows_80_L48 M x1 x2 x3 v0) (zlp (fun s => G s.1 48 [(0, zrf E 0), (1, .int x1), (2, .int x2), (3, .int s.2)] []) (fun e => G e 99 [(0, zrf E 0), (1, .int x1), (2, .int x2)] []))) : G M 80 [(0, zrf E 0), (1, .int x1), (2, .int x2), (3, .int x3)] [.int v0] := by
  unfold f_X12_laysRows_80_L48 at hk
  refine zr_istore (L' := [(0, zrf E 0), (1, .int x1), (2, .int x2), (3, .int x3), (4, .int v0)]) h [1, 2, 3, 4, 0] dX12_laysRows_80 (by decide) rfl ?_
  refine zr_aload_n h dX12_laysRows_82 0 rfl rfl ?_
  refine zr_iconst (v := (zI 4)) h dX12_laysRows_83 rfl ?_
  refine zr_iload_n h dX12_laysRows_84 2 rfl rfl ?_
  refine zr_imul h dX12_laysRows_85 ?_
  refine zr_iload_n h dX12_laysRows_86 3 rfl rfl ?_
  refine zr_iadd h dX12_laysRows_87 ?_
  refine zr_iload h dX12_laysRows_88 4 rfl ?_
  refine zr_callVv h lR_0 zcw_X12_286 (by decide) (c_X12_laysRow E M (((zI 4) * x2) + x3) v0 _ (zOk_bind hk)) rfl rfl (Nat.le_of_ble_eq_true rfl) dX12_laysRows_90 (fun M_90 hk => ?_)
  obtain ⟨x3_93, ex⟩ : ∃ y : Int32, y = x3 + (zI 1) := ⟨_, rfl⟩
  have hk := zOk_bnd ex hk
  refine zr_iinc (v := x3_93) (L' := [(0, zrf E 0), (1, .int x1), (2, .int x2), (3, .int x3_93)]) h 3 [1, 2, 3, 0] dX12_laysRows_93 rfl (by rw [ex]; rfl) (by decide) rfl ?_
  refine zr_goto (tgt := 48) h dX12_laysRows_96 (by decide) ?_
  have hk := zOk_some hk
  exact zr_weak h [0, 1, 2, 3] rfl hk
noncomputable def f_X12_laysRows_75_L48 (M : ZMem) (x1 : Int32) (x2 : Int32) (x3 : Int32) : Option ((ZMem × Int32) ⊕ (ZMem)) := f_X12_laysRows_80_L48 M x1 x2 x3 (zI 1)
set_option maxRecDepth 100000 in
set_option maxHeartbeats 4000000 in
theorem w_X12_laysRows_75_L48 {E : ZEv} {G : ZG} {K : ZMem → Prop} (h : zRu lyR E G (zRv K) cX12_laysRows RX12 5 none 3) (M : ZMem) (x1 : Int32) (x2 : Int32) (x3 : Int32) (hk : zOk (f_X12_laysRows_75_L48 M x1 x2 x3) (zlp (fun s => G s.1 48 [(0, zrf E 0), (1, .int x1), (2, .int x2), (3, .int s.2)] []) (fun e => G e 99 [(0, zrf E 0), (1, .int x1), (2, .int x2)] []))) : G M 75 [(0, zrf E 0), (1, .int x1), (2, .int x2), (3, .int x3)] [] := by
  unfold f_X12_laysRows_75_L48 at hk
  refine zr_iconst (v := (zI 1)) h dX12_laysRows_75 rfl ?_
  refine zr_goto (tgt := 80) h dX12_laysRows_76 (by decide) ?_
  exact w_X12_laysRows_80_L48 h M x1 x2 x3 (zI 1) hk
noncomputable def f_X12_laysRows_79_L48 (M : ZMem) (x1 : Int32) (x2 : Int32) (x3 : Int32) : Option ((ZMem × Int32) ⊕ (ZMem)) := f_X12_laysRows_80_L48 M x1 x2 x3 (zI 0)
set_option maxRecDepth 100000 in
set_option maxHeartbeats 4000000 in
theorem w_X12_laysRows_79_L48 {E : ZEv} {G : ZG} {K : ZMem → Prop} (h : zRu lyR E G (zRv K) cX12_laysRows RX12 5 none 3) (M : ZMem) (x1 : Int32) (x2 : Int32) (x3 : Int32) (hk : zOk (f_X12_laysRows_79_L48 M x1 x2 x3) (zlp (fun s => G s.1 48 [(0, zrf E 0), (1, .int x1), (2, .int x2), (3, .int s.2)] []) (fun e => G e 99 [(0, zrf E 0), (1, .int x1), (2, .int x2)] []))) : G M 79 [(0, zrf E 0), (1, .int x1), (2, .int x2), (3, .int x3)] [] := by
  unfold f_X12_laysRows_79_L48 at hk
  refine zr_iconst (v := (zI 0)) h dX12_laysRows_79 rfl ?_
  exact w_X12_laysRows_80_L48 h M x1 x2 x3 (zI 0) hk
noncomputable def f_X12_laysRows_L48 (x1 : Int32) (x2 : Int32) (s : (ZMem × Int32)) : Option ((ZMem × Int32) ⊕ (ZMem)) := zchk (zin x2 7) (if (s.1.1 4 (zix x2)) ≤ s.2 then some (.inr s.1) else if x1 = (zI 1) then f_X12_laysRows_75_L48 s.1 x1 x2 s.2 else if x1 = (zI 2) then if (s.2 - s.2 / (zI 2) * (zI 2)) = (zI 1) then f_X12_laysRows_75_L48 s.1 x1 x2 s.2 else f_X12_laysRows_79_L48 s.1 x1 x2 s.2 else f_X12_laysRows_79_L48 s.1 x1 x2 s.2)
set_option maxRecDepth 100000 in
set_option maxHeartbeats 4000000 in
theorem w_X12_laysRows_L48 {E : ZEv} {G : ZG} {K : ZMem → Prop} (h : zRu lyR E G (zRv K) cX12_laysRows RX12 5 none 3) (x1 : Int32) (x2 : Int32) (s : (ZMem × Int32)) (hk : zOk (zloop (f_X12_laysRows_L48 x1 x2) s) (fun e => G e 99 [(0, zrf E 0), (1, .int x1), (2, .int x2)] [])) : G s.1 48 [(0, zrf E 0), (1, .int x1), (2, .int x2), (3, .int s.2)] [] := by
  refine zloop_walk (P := fun s => G s.1 48 [(0, zrf E 0), (1, .int x1), (2, .int x2), (3, .int s.2)] []) hk (fun s hk => ?_)
  unfold f_X12_laysRows_L48 at hk
  refine zr_iload_n h dX12_laysRows_48 3 rfl rfl ?_
  refine zr_aload_n h dX12_laysRows_49 0 rfl rfl ?_
  refine zr_getR h zfo_X12_20 lR_0 rfl dX12_laysRows_50 ?_
  refine zr_iload_n h dX12_laysRows_53 2 rfl rfl ?_
  have hb := zOk_chk hk
  have hk := hb.2
  refine zr_iald h lR_4 hb.1 dX12_laysRows_54 ?_
  refine zr_icmp_ge (tgt := 99) h dX12_laysRows_55 (by decide) (fun c => ?_) (fun c => ?_)
  · have hk := zOk_t c hk
    have hk := zOk_some hk
    exact zr_weak h [0, 1, 2] rfl hk
  · have hk := zOk_f c hk
    refine zr_iload_n h dX12_laysRows_58 1 rfl rfl ?_
    refine zr_iconst (v := (zI 1)) h dX12_laysRows_59 rfl ?_
    refine zr_icmp_eq (tgt := 75) h dX12_laysRows_60 (by decide) (fun c => ?_) (fun c => ?_)
    · have hk := zOk_t c hk
      exact w_X12_laysRows_75_L48 h s.1 x1 x2 s.2 hk
    · have hk := zOk_f c hk
      refine zr_iload_n h dX12_laysRows_63 1 rfl rfl ?_
      refine zr_iconst (v := (zI 2)) h dX12_laysRows_64 rfl ?_
      refine zr_icmp_ne (tgt := 79) h dX12_laysRows_65 (by decide) (fun c => ?_) (fun c => ?_)
      · have hk := zOk_t c hk
        refine zr_iload_n h dX12_laysRows_68 3 rfl rfl ?_
        refine zr_iconst (v := (zI 2)) h dX12_laysRows_69 rfl ?_
        refine zr_irem h dX12_laysRows_70 (by decide) ?_
        refine zr_iconst (v := (zI 1)) h dX12_laysRows_71 rfl ?_
        refine zr_icmp_ne (tgt := 79) h dX12_laysRows_72 (by decide) (fun c => ?_) (fun c => ?_)
        · have hk := zOk_t c hk
          exact w_X12_laysRows_75_L48 h s.1 x1 x2 s.2 hk
        · have hk := zOk_f c hk
          exact w_X12_laysRows_79_L48 h s.1 x1 x2 s.2 hk
      · have hk := zOk_f c hk
        exact w_X12_laysRows_79_L48 h s.1 x1 x2 s.2 hk
noncomputable def f_X12_laysRows_L38 (x1 : Int32) (s : (ZMem × Int32)) : Option ((ZMem × Int32) ⊕ (ZMem)) := if (s.1.1 0 8) ≤ s.2 then some (.inr s.1) else zbind (zloop (f_X12_laysRows_L48 x1 s.2) (s.1, (zI 0))) (fun e48 => zbnd (s.2 + (zI 1)) (fun x2_99 => some (.inl (e48, x2_99))))
set_option maxRecDepth 100000 in
set_option maxHeartbeats 4000000 in
theorem w_X12_laysRows_L38 {E : ZEv} {G : ZG} {K : ZMem → Prop} (h : zRu lyR E G (zRv K) cX12_laysRows RX12 5 none 3) (x1 : Int32) (s : (ZMem × Int32)) (hk : zOk (zloop (f_X12_laysRows_L38 x1) s) (fun e => G e 105 [] [])) : G s.1 38 [(0, zrf E 0), (1, .int x1), (2, .int s.2)] [] := by
  refine zloop_walk (P := fun s => G s.1 38 [(0, zrf E 0), (1, .int x1), (2, .int s.2)] []) hk (fun s hk => ?_)
  unfold f_X12_laysRows_L38 at hk
  refine zr_iload_n h dX12_laysRows_38 2 rfl rfl ?_
  refine zr_aload_n h dX12_laysRows_39 0 rfl rfl ?_
  refine zr_getI h zfo_X12_165 lR_0 rfl dX12_laysRows_40 ?_
  refine zr_icmp_ge (tgt := 105) h dX12_laysRows_43 (by decide) (fun c => ?_) (fun c => ?_)
  · have hk := zOk_t c hk
    have hk := zOk_some hk
    exact zr_weak h [] rfl hk
  · have hk := zOk_f c hk
    refine zr_iconst (v := (zI 0)) h dX12_laysRows_46 rfl ?_
    refine zr_istore_n (L' := [(0, zrf E 0), (1, .int x1), (2, .int s.2), (3, .int (zI 0))]) h [1, 2, 3, 0] dX12_laysRows_47 rfl (by decide) rfl ?_
    refine w_X12_laysRows_L48 h x1 s.2 (s.1, (zI 0)) (zOk_mono (zOk_bind hk) (fun e48 hk => ?_))
    obtain ⟨x2_99, ex⟩ : ∃ y : Int32, y = s.2 + (zI 1) := ⟨_, rfl⟩
    have hk := zOk_bnd ex hk
    refine zr_iinc (v := x2_99) (L' := [(0, zrf E 0), (1, .int x1), (2, .int x2_99)]) h 2 [1, 2, 0] dX12_laysRows_99 rfl (by rw [ex]; rfl) (by decide) rfl ?_
    refine zr_goto (tgt := 38) h dX12_laysRows_102 (by decide) ?_
    have hk := zOk_some hk
    exact zr_weak h [0, 1, 2] rfl hk
noncomputable def f_X12_laysRows_23 (M : ZMem) (v0 : Int32) : Option ZMem := zbnd (zstI M 0 23 (zI 0)) (fun M_26 => zbnd (zstI M_26 13 (zix (zI 0)) (zI 0)) (fun M_35 => zbind (zloop (f_X12_laysRows_L38 v0) (M_35, (zI 0))) (fun e38 => some e38)))
set_option maxRecDepth 100000 in
set_option maxHeartbeats 4000000 in
theorem w_X12_laysRows_23 {E : ZEv} {G : ZG} {K : ZMem → Prop} (h : zRu lyR E G (zRv K) cX12_laysRows RX12 5 none 3) (M : ZMem) (v0 : Int32) (hk : zOk (f_X12_laysRows_23 M v0) K) : G M 23 [(0, zrf E 0)] [.int v0] := by
  unfold f_X12_laysRows_23 at hk
  refine zr_istore_n (L' := [(0, zrf E 0), (1, .int v0)]) h [1, 0] dX12_laysRows_23 rfl (by decide) rfl ?_
  refine zr_aload_n h dX12_laysRows_24 0 rfl rfl ?_
  refine zr_iconst (v := (zI 0)) h dX12_laysRows_25 rfl ?_
  refine zr_putI h zfp_X12_283 lR_0 rfl dX12_laysRows_26 ?_
  refine zr_mem (fun M_26 eM => ?_)
  have hk := zOk_bnd eM hk
  refine zr_aload_n h dX12_laysRows_29 0 rfl rfl ?_
  refine zr_getR h zfo_X12_47 lR_0 rfl dX12_laysRows_30 ?_
  refine zr_iconst (v := (zI 0)) h dX12_laysRows_33 rfl ?_
  refine zr_iconst (v := (zI 0)) h dX12_laysRows_34 rfl ?_
  refine zr_iast h lR_13 (by decide) dX12_laysRows_35 ?_
  refine zr_mem (fun M_35 eM => ?_)
  have hk := zOk_bnd eM hk
  refine zr_iconst (v := (zI 0)) h dX12_laysRows_36 rfl ?_
  refine zr_istore_n (L' := [(0, zrf E 0), (1, .int v0), (2, .int (zI 0))]) h [1, 2, 0] dX12_laysRows_37 rfl (by decide) rfl ?_
  refine w_X12_laysRows_L38 h v0 (M_35, (zI 0)) (zOk_mono (zOk_bind hk) (fun e38 hk => ?_))
  have hk := zOk_some hk
  exact zr_vret h dX12_laysRows_105 ⟨rfl, hk⟩
noncomputable def f_X12_laysRows (M : ZMem) : Option ZMem := if (M.1 9 (zix (zI 1))) = (zI 3) then zbind (f_X12_judgedWay M) (fun r_11 => f_X12_laysRows_23 M r_11) else f_X12_laysRows_23 M (M.1 9 (zix (zI 1)))
set_option maxRecDepth 100000 in
set_option maxHeartbeats 4000000 in
theorem c_X12_laysRows (E : ZEv) (M : ZMem) (K : ZMem → Prop) (hk : zOk (f_X12_laysRows M) K) : zCon lyR E yX12_laysRows cX12_laysRows 5 none 3 [zrf E 0] M (zRv K) := by
  refine zcon_of (L0 := [(0, zrf E 0)]) (by decide) rfl (Nat.le_of_ble_eq_true rfl) (fun G h => ?_)
  have h : zRu lyR E G (zRv K) cX12_laysRows RX12 5 none 3 := h
  unfold f_X12_laysRows at hk
  refine zr_aload_n h dX12_laysRows_0 0 rfl rfl ?_
  refine zr_getR h zfo_X12_35 lR_0 rfl dX12_laysRows_1 ?_
  refine zr_iconst (v := (zI 1)) h dX12_laysRows_4 rfl ?_
  refine zr_iald h lR_9 (by decide) dX12_laysRows_5 ?_
  refine zr_iconst (v := (zI 3)) h dX12_laysRows_6 rfl ?_
  refine zr_icmp_ne (tgt := 17) h dX12_laysRows_7 (by decide) (fun c => ?_) (fun c => ?_)
  · have hk := zOk_t c hk
    refine zr_aload_n h dX12_laysRows_10 0 rfl rfl ?_
    refine zr_callVp h lR_0 zcw_X12_280 (by decide) (c_X12_judgedWay E M _ (zOk_bind hk)) rfl rfl (Nat.le_of_ble_eq_true rfl) dX12_laysRows_11 (fun r_11 hk => ?_)
    refine zr_goto (tgt := 23) h dX12_laysRows_14 (by decide) ?_
    exact w_X12_laysRows_23 h M r_11 hk
  · have hk := zOk_f c hk
    refine zr_aload_n h dX12_laysRows_17 0 rfl rfl ?_
    refine zr_getR h zfo_X12_35 lR_0 rfl dX12_laysRows_18 ?_
    refine zr_iconst (v := (zI 1)) h dX12_laysRows_21 rfl ?_
    refine zr_iald h lR_9 (by decide) dX12_laysRows_22 ?_
    exact w_X12_laysRows_23 h M (M.1 9 (zix (zI 1))) hk
theorem dX12_stands_0 : decode cX12_stands 0 = .ok (.iload_n 1, 1) := by decide +kernel
theorem dX12_stands_1 : decode cX12_stands 1 = .ok (.iload_n 3, 1) := by decide +kernel
theorem dX12_stands_2 : decode cX12_stands 2 = .ok (.iadd, 1) := by decide +kernel
theorem dX12_stands_3 : decode cX12_stands 3 = .ok (.iload_n 2, 1) := by decide +kernel
theorem dX12_stands_4 : decode cX12_stands 4 = .ok (.if_icmp .le 5, 3) := by decide +kernel
theorem dX12_stands_7 : decode cX12_stands 7 = .ok (.iconst 0, 1) := by decide +kernel
theorem dX12_stands_8 : decode cX12_stands 8 = .ok (.ireturn, 1) := by decide +kernel
theorem dX12_stands_9 : decode cX12_stands 9 = .ok (.iconst 0, 1) := by decide +kernel
theorem dX12_stands_10 : decode cX12_stands 10 = .ok (.istore 4, 2) := by decide +kernel
theorem dX12_stands_12 : decode cX12_stands 12 = .ok (.iload 4, 2) := by decide +kernel
theorem dX12_stands_14 : decode cX12_stands 14 = .ok (.iload_n 3, 1) := by decide +kernel
theorem dX12_stands_15 : decode cX12_stands 15 = .ok (.if_icmp .ge 30, 3) := by decide +kernel
theorem dX12_stands_18 : decode cX12_stands 18 = .ok (.aload_n 0, 1) := by decide +kernel
theorem dX12_stands_19 : decode cX12_stands 19 = .ok (.getfield 50, 3) := by decide +kernel
theorem dX12_stands_22 : decode cX12_stands 22 = .ok (.iload_n 1, 1) := by decide +kernel
theorem dX12_stands_23 : decode cX12_stands 23 = .ok (.iload 4, 2) := by decide +kernel
theorem dX12_stands_25 : decode cX12_stands 25 = .ok (.iadd, 1) := by decide +kernel
theorem dX12_stands_26 : decode cX12_stands 26 = .ok (.iaload, 1) := by decide +kernel
theorem dX12_stands_27 : decode cX12_stands 27 = .ok (.aload_n 0, 1) := by decide +kernel
theorem dX12_stands_28 : decode cX12_stands 28 = .ok (.getfield 53, 3) := by decide +kernel
theorem dX12_stands_31 : decode cX12_stands 31 = .ok (.iload 4, 2) := by decide +kernel
theorem dX12_stands_33 : decode cX12_stands 33 = .ok (.iaload, 1) := by decide +kernel
theorem dX12_stands_34 : decode cX12_stands 34 = .ok (.if_icmp .eq 5, 3) := by decide +kernel
theorem dX12_stands_37 : decode cX12_stands 37 = .ok (.iconst 0, 1) := by decide +kernel
theorem dX12_stands_38 : decode cX12_stands 38 = .ok (.ireturn, 1) := by decide +kernel
theorem dX12_stands_39 : decode cX12_stands 39 = .ok (.iinc 4 1, 3) := by decide +kernel
theorem dX12_stands_42 : decode cX12_stands 42 = .ok (.goto (-30), 3) := by decide +kernel
theorem dX12_stands_45 : decode cX12_stands 45 = .ok (.iconst 1, 1) := by decide +kernel
theorem dX12_stands_46 : decode cX12_stands 46 = .ok (.ireturn, 1) := by decide +kernel
noncomputable def f_X12_stands_L12 (M : ZMem) (x1 : Int32) (x3 : Int32) (s : (Int32)) : Option ((Int32) ⊕ ((Unit) ⊕ Int32)) := if x3 ≤ s then some (.inr (.inl ())) else zchk (zin (x1 + s) 240) (zchk (zin s 7) (if (M.1 14 (zix (x1 + s))) = (M.1 15 (zix s)) then zbnd (s + (zI 1)) (fun x4_39 => some (.inl x4_39)) else some (.inr (.inr (zI 0)))))
set_option maxRecDepth 100000 in
set_option maxHeartbeats 4000000 in
theorem w_X12_stands_L12 {E : ZEv} {G : ZG} {K : Int32 → Prop} (M : ZMem) (h : zRu lyR E G (zRp M K) cX12_stands RX12 5 (some .boolean) 0) (x1 : Int32) (x3 : Int32) (s : (Int32)) (hk : zOk (zloop (f_X12_stands_L12 M x1 x3) s) (fun e => zsel e (fun e0 => G M 45 [] []) (fun f0 => K f0))) : G M 12 [(0, zrf E 0), (1, .int x1), (3, .int x3), (4, .int s)] [] := by
  refine zloop_walk (P := fun s => G M 12 [(0, zrf E 0), (1, .int x1), (3, .int x3), (4, .int s)] []) hk (fun s hk => ?_)
  unfold f_X12_stands_L12 at hk
  refine zr_iload h dX12_stands_12 3 rfl ?_
  refine zr_iload_n h dX12_stands_14 2 rfl rfl ?_
  refine zr_icmp_ge (tgt := 45) h dX12_stands_15 (by decide) (fun c => ?_) (fun c => ?_)
  · have hk := zOk_t c hk
    have hk := zOk_some hk
    exact zr_weak h [] rfl hk
  · have hk := zOk_f c hk
    refine zr_aload_n h dX12_stands_18 0 rfl rfl ?_
    refine zr_getR h zfo_X12_50 lR_0 rfl dX12_stands_19 ?_
    refine zr_iload_n h dX12_stands_22 1 rfl rfl ?_
    refine zr_iload h dX12_stands_23 3 rfl ?_
    refine zr_iadd h dX12_stands_25 ?_
    have hb := zOk_chk hk
    have hk := hb.2
    refine zr_iald h lR_14 hb.1 dX12_stands_26 ?_
    refine zr_aload_n h dX12_stands_27 0 rfl rfl ?_
    refine zr_getR h zfo_X12_53 lR_0 rfl dX12_stands_28 ?_
    refine zr_iload h dX12_stands_31 3 rfl ?_
    have hb := zOk_chk hk
    have hk := hb.2
    refine zr_iald h lR_15 hb.1 dX12_stands_33 ?_
    refine zr_icmp_eq (tgt := 39) h dX12_stands_34 (by decide) (fun c => ?_) (fun c => ?_)
    · have hk := zOk_t c hk
      obtain ⟨x4_39, ex⟩ : ∃ y : Int32, y = s + (zI 1) := ⟨_, rfl⟩
      have hk := zOk_bnd ex hk
      refine zr_iinc (v := x4_39) (L' := [(0, zrf E 0), (1, .int x1), (3, .int x3), (4, .int x4_39)]) h 3 [1, 2, 3, 0] dX12_stands_39 rfl (by rw [ex]; rfl) (by decide) rfl ?_
      refine zr_goto (tgt := 12) h dX12_stands_42 (by decide) ?_
      have hk := zOk_some hk
      exact zr_weak h [0, 1, 2, 3] rfl hk
    · have hk := zOk_f c hk
      refine zr_iconst (v := (zI 0)) h dX12_stands_37 rfl ?_
      have hk := zOk_some hk
      exact zr_zret h dX12_stands_38 (by decide) ⟨rfl, _, rfl, hk⟩
noncomputable def f_X12_stands (M : ZMem) (x1 : Int32) (x2 : Int32) (x3 : Int32) : Option Int32 := if (x1 + x3) ≤ x2 then zbind (zloop (f_X12_stands_L12 M x1 x3) (zI 0)) (fun e12 => zsel e12 (fun e12a => some (zI 1)) (fun e12b => some e12b)) else some (zI 0)
set_option maxRecDepth 100000 in
set_option maxHeartbeats 4000000 in
theorem c_X12_stands (E : ZEv) (M : ZMem) (x1 : Int32) (x2 : Int32) (x3 : Int32) (K : Int32 → Prop) (hk : zOk (f_X12_stands M x1 x2 x3) K) : zCon lyR E yX12_stands cX12_stands 5 (some .boolean) 0 [zrf E 0, .int x1, .int x2, .int x3] M (zRp M K) := by
  refine zcon_of (L0 := [(0, zrf E 0), (1, .int x1), (2, .int x2), (3, .int x3)]) (by decide) rfl (Nat.le_of_ble_eq_true rfl) (fun G h => ?_)
  have h : zRu lyR E G (zRp M K) cX12_stands RX12 5 (some .boolean) 0 := h
  unfold f_X12_stands at hk
  refine zr_iload_n h dX12_stands_0 1 rfl rfl ?_
  refine zr_iload_n h dX12_stands_1 3 rfl rfl ?_
  refine zr_iadd h dX12_stands_2 ?_
  refine zr_iload_n h dX12_stands_3 2 rfl rfl ?_
  refine zr_icmp_le (tgt := 9) h dX12_stands_4 (by decide) (fun c => ?_) (fun c => ?_)
  · have hk := zOk_t c hk
    refine zr_iconst (v := (zI 0)) h dX12_stands_9 rfl ?_
    refine zr_istore (L' := [(0, zrf E 0), (1, .int x1), (3, .int x3), (4, .int (zI 0))]) h [1, 2, 4, 0] dX12_stands_10 (by decide) rfl ?_
    refine w_X12_stands_L12 M h x1 x3 (zI 0) (zOk_mono (zOk_bind hk) (fun e12 hk => ?_))
    cases e12 with
    | inl e12a =>
      have hk := zOk_selL hk
      refine zr_iconst (v := (zI 1)) h dX12_stands_45 rfl ?_
      have hk := zOk_some hk
      exact zr_zret h dX12_stands_46 (by decide) ⟨rfl, _, rfl, hk⟩
    | inr e12b =>
      have hk := zOk_selR hk
      have hk := zOk_some hk
      exact hk
  · have hk := zOk_f c hk
    refine zr_iconst (v := (zI 0)) h dX12_stands_7 rfl ?_
    have hk := zOk_some hk
    exact zr_zret h dX12_stands_8 (by decide) ⟨rfl, _, rfl, hk⟩
theorem dX12_nextOf_0 : decode cX12_nextOf 0 = .ok (.iconst 0, 1) := by decide +kernel
theorem dX12_nextOf_1 : decode cX12_nextOf 1 = .ok (.istore_n 2, 1) := by decide +kernel
theorem dX12_nextOf_2 : decode cX12_nextOf 2 = .ok (.iconst 0, 1) := by decide +kernel
theorem dX12_nextOf_3 : decode cX12_nextOf 3 = .ok (.istore_n 3, 1) := by decide +kernel
theorem dX12_nextOf_4 : decode cX12_nextOf 4 = .ok (.iconst 0, 1) := by decide +kernel
theorem dX12_nextOf_5 : decode cX12_nextOf 5 = .ok (.istore 4, 2) := by decide +kernel
theorem dX12_nextOf_7 : decode cX12_nextOf 7 = .ok (.iload 4, 2) := by decide +kernel
theorem dX12_nextOf_9 : decode cX12_nextOf 9 = .ok (.aload_n 0, 1) := by decide +kernel
theorem dX12_nextOf_10 : decode cX12_nextOf 10 = .ok (.getfield 283, 3) := by decide +kernel
theorem dX12_nextOf_13 : decode cX12_nextOf 13 = .ok (.if_icmp .ge 117, 3) := by decide +kernel
theorem dX12_nextOf_16 : decode cX12_nextOf 16 = .ok (.aload_n 0, 1) := by decide +kernel
theorem dX12_nextOf_17 : decode cX12_nextOf 17 = .ok (.getfield 47, 3) := by decide +kernel
theorem dX12_nextOf_20 : decode cX12_nextOf 20 = .ok (.iload 4, 2) := by decide +kernel
theorem dX12_nextOf_22 : decode cX12_nextOf 22 = .ok (.iaload, 1) := by decide +kernel
theorem dX12_nextOf_23 : decode cX12_nextOf 23 = .ok (.istore 5, 2) := by decide +kernel
theorem dX12_nextOf_25 : decode cX12_nextOf 25 = .ok (.iload 5, 2) := by decide +kernel
theorem dX12_nextOf_27 : decode cX12_nextOf 27 = .ok (.aload_n 0, 1) := by decide +kernel
theorem dX12_nextOf_28 : decode cX12_nextOf 28 = .ok (.getfield 47, 3) := by decide +kernel
theorem dX12_nextOf_31 : decode cX12_nextOf 31 = .ok (.iload 4, 2) := by decide +kernel
theorem dX12_nextOf_33 : decode cX12_nextOf 33 = .ok (.iconst 1, 1) := by decide +kernel
theorem dX12_nextOf_34 : decode cX12_nextOf 34 = .ok (.iadd, 1) := by decide +kernel
theorem dX12_nextOf_35 : decode cX12_nextOf 35 = .ok (.iaload, 1) := by decide +kernel
theorem dX12_nextOf_36 : decode cX12_nextOf 36 = .ok (.if_icmp .ge 88, 3) := by decide +kernel
theorem dX12_nextOf_39 : decode cX12_nextOf 39 = .ok (.aload_n 0, 1) := by decide +kernel
theorem dX12_nextOf_40 : decode cX12_nextOf 40 = .ok (.iload 5, 2) := by decide +kernel
theorem dX12_nextOf_42 : decode cX12_nextOf 42 = .ok (.aload_n 0, 1) := by decide +kernel
theorem dX12_nextOf_43 : decode cX12_nextOf 43 = .ok (.getfield 47, 3) := by decide +kernel
theorem dX12_nextOf_46 : decode cX12_nextOf 46 = .ok (.iload 4, 2) := by decide +kernel
theorem dX12_nextOf_48 : decode cX12_nextOf 48 = .ok (.iconst 1, 1) := by decide +kernel
theorem dX12_nextOf_49 : decode cX12_nextOf 49 = .ok (.iadd, 1) := by decide +kernel
theorem dX12_nextOf_50 : decode cX12_nextOf 50 = .ok (.iaload, 1) := by decide +kernel
theorem dX12_nextOf_51 : decode cX12_nextOf 51 = .ok (.iload_n 1, 1) := by decide +kernel
theorem dX12_nextOf_52 : decode cX12_nextOf 52 = .ok (.invokevirtual 290, 3) := by decide +kernel
theorem dX12_nextOf_55 : decode cX12_nextOf 55 = .ok (.ifCond .eq 63, 3) := by decide +kernel
theorem dX12_nextOf_58 : decode cX12_nextOf 58 = .ok (.iload_n 3, 1) := by decide +kernel
theorem dX12_nextOf_59 : decode cX12_nextOf 59 = .ok (.ifCond .ne 19, 3) := by decide +kernel
theorem dX12_nextOf_62 : decode cX12_nextOf 62 = .ok (.iload 5, 2) := by decide +kernel
theorem dX12_nextOf_64 : decode cX12_nextOf 64 = .ok (.iload_n 1, 1) := by decide +kernel
theorem dX12_nextOf_65 : decode cX12_nextOf 65 = .ok (.iadd, 1) := by decide +kernel
theorem dX12_nextOf_66 : decode cX12_nextOf 66 = .ok (.aload_n 0, 1) := by decide +kernel
theorem dX12_nextOf_67 : decode cX12_nextOf 67 = .ok (.getfield 47, 3) := by decide +kernel
theorem dX12_nextOf_70 : decode cX12_nextOf 70 = .ok (.iload 4, 2) := by decide +kernel
theorem dX12_nextOf_72 : decode cX12_nextOf 72 = .ok (.iconst 1, 1) := by decide +kernel
theorem dX12_nextOf_73 : decode cX12_nextOf 73 = .ok (.iadd, 1) := by decide +kernel
theorem dX12_nextOf_74 : decode cX12_nextOf 74 = .ok (.iaload, 1) := by decide +kernel
theorem dX12_nextOf_75 : decode cX12_nextOf 75 = .ok (.if_icmp .ne 7, 3) := by decide +kernel
theorem dX12_nextOf_78 : decode cX12_nextOf 78 = .ok (.iconst 1, 1) := by decide +kernel
theorem dX12_nextOf_79 : decode cX12_nextOf 79 = .ok (.goto 4, 3) := by decide +kernel
theorem dX12_nextOf_82 : decode cX12_nextOf 82 = .ok (.iconst 0, 1) := by decide +kernel
theorem dX12_nextOf_83 : decode cX12_nextOf 83 = .ok (.istore_n 3, 1) := by decide +kernel
theorem dX12_nextOf_84 : decode cX12_nextOf 84 = .ok (.iload_n 2, 1) := by decide +kernel
theorem dX12_nextOf_85 : decode cX12_nextOf 85 = .ok (.iload 5, 2) := by decide +kernel
theorem dX12_nextOf_87 : decode cX12_nextOf 87 = .ok (.iload_n 1, 1) := by decide +kernel
theorem dX12_nextOf_88 : decode cX12_nextOf 88 = .ok (.iadd, 1) := by decide +kernel
theorem dX12_nextOf_89 : decode cX12_nextOf 89 = .ok (.aload_n 0, 1) := by decide +kernel
theorem dX12_nextOf_90 : decode cX12_nextOf 90 = .ok (.getfield 47, 3) := by decide +kernel
theorem dX12_nextOf_93 : decode cX12_nextOf 93 = .ok (.iload 4, 2) := by decide +kernel
theorem dX12_nextOf_95 : decode cX12_nextOf 95 = .ok (.iconst 1, 1) := by decide +kernel
theorem dX12_nextOf_96 : decode cX12_nextOf 96 = .ok (.iadd, 1) := by decide +kernel
theorem dX12_nextOf_97 : decode cX12_nextOf 97 = .ok (.iaload, 1) := by decide +kernel
theorem dX12_nextOf_98 : decode cX12_nextOf 98 = .ok (.if_icmp .ge 17, 3) := by decide +kernel
theorem dX12_nextOf_101 : decode cX12_nextOf 101 = .ok (.iconst 1, 1) := by decide +kernel
theorem dX12_nextOf_102 : decode cX12_nextOf 102 = .ok (.aload_n 0, 1) := by decide +kernel
theorem dX12_nextOf_103 : decode cX12_nextOf 103 = .ok (.getfield 50, 3) := by decide +kernel
theorem dX12_nextOf_106 : decode cX12_nextOf 106 = .ok (.iload 5, 2) := by decide +kernel
theorem dX12_nextOf_108 : decode cX12_nextOf 108 = .ok (.iload_n 1, 1) := by decide +kernel
theorem dX12_nextOf_109 : decode cX12_nextOf 109 = .ok (.iadd, 1) := by decide +kernel
theorem dX12_nextOf_110 : decode cX12_nextOf 110 = .ok (.iaload, 1) := by decide +kernel
theorem dX12_nextOf_111 : decode cX12_nextOf 111 = .ok (.ishl, 1) := by decide +kernel
theorem dX12_nextOf_112 : decode cX12_nextOf 112 = .ok (.goto 4, 3) := by decide +kernel
theorem dX12_nextOf_115 : decode cX12_nextOf 115 = .ok (.iconst 0, 1) := by decide +kernel
theorem dX12_nextOf_116 : decode cX12_nextOf 116 = .ok (.ior, 1) := by decide +kernel
theorem dX12_nextOf_117 : decode cX12_nextOf 117 = .ok (.istore_n 2, 1) := by decide +kernel
theorem dX12_nextOf_118 : decode cX12_nextOf 118 = .ok (.iinc 5 1, 3) := by decide +kernel
theorem dX12_nextOf_121 : decode cX12_nextOf 121 = .ok (.goto (-96), 3) := by decide +kernel
theorem dX12_nextOf_124 : decode cX12_nextOf 124 = .ok (.iinc 4 1, 3) := by decide +kernel
theorem dX12_nextOf_127 : decode cX12_nextOf 127 = .ok (.goto (-120), 3) := by decide +kernel
theorem dX12_nextOf_130 : decode cX12_nextOf 130 = .ok (.iload_n 2, 1) := by decide +kernel
theorem dX12_nextOf_131 : decode cX12_nextOf 131 = .ok (.invokestatic 268, 3) := by decide +kernel
theorem dX12_nextOf_134 : decode cX12_nextOf 134 = .ok (.iload_n 3, 1) := by decide +kernel
theorem dX12_nextOf_135 : decode cX12_nextOf 135 = .ok (.invokestatic 177, 3) := by decide +kernel
theorem dX12_nextOf_138 : decode cX12_nextOf 138 = .ok (.iadd, 1) := by decide +kernel
theorem dX12_nextOf_139 : decode cX12_nextOf 139 = .ok (.ireturn, 1) := by decide +kernel
noncomputable def f_X12_nextOf_83_L25 (M : ZMem) (x1 : Int32) (x2 : Int32) (x4 : Int32) (x5 : Int32) (v0 : Int32) : Option ((Int32 × Int32 × Int32) ⊕ (Int32 × Int32)) := zchk (zin (x4 + (zI 1)) 25) (if (M.1 13 (zix (x4 + (zI 1)))) ≤ (x5 + x1) then zbnd (x2 ||| (zI 0)) (fun x2_117 => zbnd (x5 + (zI 1)) (fun x5_118 => some (.inl (x2_117, v0, x5_118)))) else zchk (zin (x5 + x1) 240) (zbnd (x2 ||| ((zI 1) <<< ((M.1 14 (zix (x5 + x1))) &&& 31))) (fun x2_117 => zbnd (x5 + (zI 1)) (fun x5_118 => some (.inl (x2_117, v0, x5_118))))))
set_option maxRecDepth 100000 in
set_option maxHeartbeats 4000000 in
theorem w_X12_nextOf_83_L25 {E : ZEv} {G : ZG} {K : Int32 → Prop} (M : ZMem) (h : zRu lyR E G (zRp M K) cX12_nextOf RX12 6 (some .int) 1) (x1 : Int32) (x2 : Int32) (x4 : Int32) (x5 : Int32) (v0 : Int32) (hk : zOk (f_X12_nextOf_83_L25 M x1 x2 x4 x5 v0) (zlp (fun s => G M 25 [(0, zrf E 0), (1, .int x1), (2, .int s.1), (3, .int s.2.1), (4, .int x4), (5, .int s.2.2)] []) (fun e => G M 124 [(0, zrf E 0), (1, .int x1), (2, .int e.1), (3, .int e.2), (4, .int x4)] []))) : G M 83 [(0, zrf E 0), (1, .int x1), (2, .int x2), (4, .int x4), (5, .int x5)] [.int v0] := by
  unfold f_X12_nextOf_83_L25 at hk
  refine zr_istore_n (L' := [(0, zrf E 0), (1, .int x1), (2, .int x2), (3, .int v0), (4, .int x4), (5, .int x5)]) h [1, 2, 3, 0, 4, 5] dX12_nextOf_83 rfl (by decide) rfl ?_
  refine zr_iload_n h dX12_nextOf_84 2 rfl rfl ?_
  refine zr_iload h dX12_nextOf_85 5 rfl ?_
  refine zr_iload_n h dX12_nextOf_87 1 rfl rfl ?_
  refine zr_iadd h dX12_nextOf_88 ?_
  refine zr_aload_n h dX12_nextOf_89 0 rfl rfl ?_
  refine zr_getR h zfo_X12_47 lR_0 rfl dX12_nextOf_90 ?_
  refine zr_iload h dX12_nextOf_93 4 rfl ?_
  refine zr_iconst (v := (zI 1)) h dX12_nextOf_95 rfl ?_
  refine zr_iadd h dX12_nextOf_96 ?_
  have hb := zOk_chk hk
  have hk := hb.2
  refine zr_iald h lR_13 hb.1 dX12_nextOf_97 ?_
  refine zr_icmp_ge (tgt := 115) h dX12_nextOf_98 (by decide) (fun c => ?_) (fun c => ?_)
  · have hk := zOk_t c hk
    refine zr_iconst (v := (zI 0)) h dX12_nextOf_115 rfl ?_
    refine zr_ior h dX12_nextOf_116 ?_
    refine zr_topi (fun x2_117 ex => ?_)
    have hk := zOk_bnd ex hk
    refine zr_istore_n (L' := [(0, zrf E 0), (1, .int x1), (2, .int x2_117), (3, .int v0), (4, .int x4), (5, .int x5)]) h [1, 2, 0, 3, 4, 5] dX12_nextOf_117 rfl (by decide) rfl ?_
    obtain ⟨x5_118, ex⟩ : ∃ y : Int32, y = x5 + (zI 1) := ⟨_, rfl⟩
    have hk := zOk_bnd ex hk
    refine zr_iinc (v := x5_118) (L' := [(0, zrf E 0), (1, .int x1), (2, .int x2_117), (3, .int v0), (4, .int x4), (5, .int x5_118)]) h 5 [1, 2, 3, 4, 5, 0] dX12_nextOf_118 rfl (by rw [ex]; rfl) (by decide) rfl ?_
    refine zr_goto (tgt := 25) h dX12_nextOf_121 (by decide) ?_
    have hk := zOk_some hk
    exact zr_weak h [0, 1, 2, 3, 4, 5] rfl hk
  · have hk := zOk_f c hk
    refine zr_iconst (v := (zI 1)) h dX12_nextOf_101 rfl ?_
    refine zr_aload_n h dX12_nextOf_102 0 rfl rfl ?_
    refine zr_getR h zfo_X12_50 lR_0 rfl dX12_nextOf_103 ?_
    refine zr_iload h dX12_nextOf_106 5 rfl ?_
    refine zr_iload_n h dX12_nextOf_108 1 rfl rfl ?_
    refine zr_iadd h dX12_nextOf_109 ?_
    have hb := zOk_chk hk
    have hk := hb.2
    refine zr_iald h lR_14 hb.1 dX12_nextOf_110 ?_
    refine zr_ishl h dX12_nextOf_111 ?_
    refine zr_goto (tgt := 116) h dX12_nextOf_112 (by decide) ?_
    refine zr_ior h dX12_nextOf_116 ?_
    refine zr_topi (fun x2_117 ex => ?_)
    have hk := zOk_bnd ex hk
    refine zr_istore_n (L' := [(0, zrf E 0), (1, .int x1), (2, .int x2_117), (3, .int v0), (4, .int x4), (5, .int x5)]) h [1, 2, 0, 3, 4, 5] dX12_nextOf_117 rfl (by decide) rfl ?_
    obtain ⟨x5_118, ex⟩ : ∃ y : Int32, y = x5 + (zI 1) := ⟨_, rfl⟩
    have hk := zOk_bnd ex hk
    refine zr_iinc (v := x5_118) (L' := [(0, zrf E 0), (1, .int x1), (2, .int x2_117), (3, .int v0), (4, .int x4), (5, .int x5_118)]) h 5 [1, 2, 3, 4, 5, 0] dX12_nextOf_118 rfl (by rw [ex]; rfl) (by decide) rfl ?_
    refine zr_goto (tgt := 25) h dX12_nextOf_121 (by decide) ?_
    have hk := zOk_some hk
    exact zr_weak h [0, 1, 2, 3, 4, 5] rfl hk
noncomputable def f_X12_nextOf_78_L25 (M : ZMem) (x1 : Int32) (x2 : Int32) (x4 : Int32) (x5 : Int32) : Option ((Int32 × Int32 × Int32) ⊕ (Int32 × Int32)) := f_X12_nextOf_83_L25 M x1 x2 x4 x5 (zI 1)
set_option maxRecDepth 100000 in
set_option maxHeartbeats 4000000 in
theorem w_X12_nextOf_78_L25 {E : ZEv} {G : ZG} {K : Int32 → Prop} (M : ZMem) (h : zRu lyR E G (zRp M K) cX12_nextOf RX12 6 (some .int) 1) (x1 : Int32) (x2 : Int32) (x4 : Int32) (x5 : Int32) (hk : zOk (f_X12_nextOf_78_L25 M x1 x2 x4 x5) (zlp (fun s => G M 25 [(0, zrf E 0), (1, .int x1), (2, .int s.1), (3, .int s.2.1), (4, .int x4), (5, .int s.2.2)] []) (fun e => G M 124 [(0, zrf E 0), (1, .int x1), (2, .int e.1), (3, .int e.2), (4, .int x4)] []))) : G M 78 [(0, zrf E 0), (1, .int x1), (2, .int x2), (4, .int x4), (5, .int x5)] [] := by
  unfold f_X12_nextOf_78_L25 at hk
  refine zr_iconst (v := (zI 1)) h dX12_nextOf_78 rfl ?_
  refine zr_goto (tgt := 83) h dX12_nextOf_79 (by decide) ?_
  exact w_X12_nextOf_83_L25 M h x1 x2 x4 x5 (zI 1) hk
noncomputable def f_X12_nextOf_L25 (M : ZMem) (x1 : Int32) (x4 : Int32) (s : (Int32 × Int32 × Int32)) : Option ((Int32 × Int32 × Int32) ⊕ (Int32 × Int32)) := zchk (zin (x4 + (zI 1)) 25) (if (M.1 13 (zix (x4 + (zI 1)))) ≤ s.2.2 then some (.inr (s.1, s.2.1)) else zchk (zin (x4 + (zI 1)) 25) (zbind (f_X12_stands M s.2.2 (M.1 13 (zix (x4 + (zI 1)))) x1) (fun r_52 => if r_52 = (zI 0) then zbnd (s.2.2 + (zI 1)) (fun x5_118 => some (.inl (s.1, s.2.1, x5_118))) else if s.2.1 = (zI 0) then zchk (zin (x4 + (zI 1)) 25) (if (s.2.2 + x1) = (M.1 13 (zix (x4 + (zI 1)))) then f_X12_nextOf_78_L25 M x1 s.1 x4 s.2.2 else f_X12_nextOf_83_L25 M x1 s.1 x4 s.2.2 (zI 0)) else f_X12_nextOf_78_L25 M x1 s.1 x4 s.2.2)))
set_option maxRecDepth 100000 in
set_option maxHeartbeats 4000000 in
theorem w_X12_nextOf_L25 {E : ZEv} {G : ZG} {K : Int32 → Prop} (M : ZMem) (h : zRu lyR E G (zRp M K) cX12_nextOf RX12 6 (some .int) 1) (x1 : Int32) (x4 : Int32) (s : (Int32 × Int32 × Int32)) (hk : zOk (zloop (f_X12_nextOf_L25 M x1 x4) s) (fun e => G M 124 [(0, zrf E 0), (1, .int x1), (2, .int e.1), (3, .int e.2), (4, .int x4)] [])) : G M 25 [(0, zrf E 0), (1, .int x1), (2, .int s.1), (3, .int s.2.1), (4, .int x4), (5, .int s.2.2)] [] := by
  refine zloop_walk (P := fun s => G M 25 [(0, zrf E 0), (1, .int x1), (2, .int s.1), (3, .int s.2.1), (4, .int x4), (5, .int s.2.2)] []) hk (fun s hk => ?_)
  unfold f_X12_nextOf_L25 at hk
  refine zr_iload h dX12_nextOf_25 5 rfl ?_
  refine zr_aload_n h dX12_nextOf_27 0 rfl rfl ?_
  refine zr_getR h zfo_X12_47 lR_0 rfl dX12_nextOf_28 ?_
  refine zr_iload h dX12_nextOf_31 4 rfl ?_
  refine zr_iconst (v := (zI 1)) h dX12_nextOf_33 rfl ?_
  refine zr_iadd h dX12_nextOf_34 ?_
  have hb := zOk_chk hk
  have hk := hb.2
  refine zr_iald h lR_13 hb.1 dX12_nextOf_35 ?_
  refine zr_icmp_ge (tgt := 124) h dX12_nextOf_36 (by decide) (fun c => ?_) (fun c => ?_)
  · have hk := zOk_t c hk
    have hk := zOk_some hk
    exact zr_weak h [0, 1, 2, 3, 4] rfl hk
  · have hk := zOk_f c hk
    refine zr_aload_n h dX12_nextOf_39 0 rfl rfl ?_
    refine zr_iload h dX12_nextOf_40 5 rfl ?_
    refine zr_aload_n h dX12_nextOf_42 0 rfl rfl ?_
    refine zr_getR h zfo_X12_47 lR_0 rfl dX12_nextOf_43 ?_
    refine zr_iload h dX12_nextOf_46 4 rfl ?_
    refine zr_iconst (v := (zI 1)) h dX12_nextOf_48 rfl ?_
    refine zr_iadd h dX12_nextOf_49 ?_
    have hb := zOk_chk hk
    have hk := hb.2
    refine zr_iald h lR_13 hb.1 dX12_nextOf_50 ?_
    refine zr_iload_n h dX12_nextOf_51 1 rfl rfl ?_
    refine zr_callVp h lR_0 zcw_X12_290 (by decide) (c_X12_stands E M s.2.2 (M.1 13 (zix (x4 + (zI 1)))) x1 _ (zOk_bind hk)) rfl rfl (Nat.le_of_ble_eq_true rfl) dX12_nextOf_52 (fun r_52 hk => ?_)
    refine zr_if_eq (tgt := 118) h dX12_nextOf_55 (by decide) (fun c => ?_) (fun c => ?_)
    · have hk := zOk_t c hk
      obtain ⟨x5_118, ex⟩ : ∃ y : Int32, y = s.2.2 + (zI 1) := ⟨_, rfl⟩
      have hk := zOk_bnd ex hk
      refine zr_iinc (v := x5_118) (L' := [(0, zrf E 0), (1, .int x1), (2, .int s.1), (3, .int s.2.1), (4, .int x4), (5, .int x5_118)]) h 5 [1, 2, 3, 4, 5, 0] dX12_nextOf_118 rfl (by rw [ex]; rfl) (by decide) rfl ?_
      refine zr_goto (tgt := 25) h dX12_nextOf_121 (by decide) ?_
      have hk := zOk_some hk
      exact zr_weak h [0, 1, 2, 3, 4, 5] rfl hk
    · have hk := zOk_f c hk
      refine zr_iload_n h dX12_nextOf_58 3 rfl rfl ?_
      refine zr_if_ne (tgt := 78) h dX12_nextOf_59 (by decide) (fun c => ?_) (fun c => ?_)
      · have hk := zOk_t c hk
        refine zr_iload h dX12_nextOf_62 5 rfl ?_
        refine zr_iload_n h dX12_nextOf_64 1 rfl rfl ?_
        refine zr_iadd h dX12_nextOf_65 ?_
        refine zr_aload_n h dX12_nextOf_66 0 rfl rfl ?_
        refine zr_getR h zfo_X12_47 lR_0 rfl dX12_nextOf_67 ?_
        refine zr_iload h dX12_nextOf_70 4 rfl ?_
        refine zr_iconst (v := (zI 1)) h dX12_nextOf_72 rfl ?_
        refine zr_iadd h dX12_nextOf_73 ?_
        have hb := zOk_chk hk
        have hk := hb.2
        refine zr_iald h lR_13 hb.1 dX12_nextOf_74 ?_
        refine zr_icmp_ne (tgt := 82) h dX12_nextOf_75 (by decide) (fun c => ?_) (fun c => ?_)
        · have hk := zOk_t c hk
          exact zr_weak h [0, 1, 2, 4, 5] rfl (w_X12_nextOf_78_L25 M h x1 s.1 x4 s.2.2 hk)
        · have hk := zOk_f c hk
          refine zr_iconst (v := (zI 0)) h dX12_nextOf_82 rfl ?_
          exact zr_weak h [0, 1, 2, 4, 5] rfl (w_X12_nextOf_83_L25 M h x1 s.1 x4 s.2.2 (zI 0) hk)
      · have hk := zOk_f c hk
        exact zr_weak h [0, 1, 2, 4, 5] rfl (w_X12_nextOf_78_L25 M h x1 s.1 x4 s.2.2 hk)
noncomputable def f_X12_nextOf_L7 (M : ZMem) (x1 : Int32) (s : (Int32 × Int32 × Int32)) : Option ((Int32 × Int32 × Int32) ⊕ (Int32 × Int32)) := if (M.1 0 23) ≤ s.2.2 then some (.inr (s.1, s.2.1)) else zchk (zin s.2.2 25) (zbnd (M.1 13 (zix s.2.2)) (fun x5_23 => zbind (zloop (f_X12_nextOf_L25 M x1 s.2.2) (s.1, s.2.1, x5_23)) (fun e25 => zbnd (s.2.2 + (zI 1)) (fun x4_124 => some (.inl (e25.1, e25.2, x4_124))))))
set_option maxRecDepth 100000 in
set_option maxHeartbeats 4000000 in
theorem w_X12_nextOf_L7 {E : ZEv} {G : ZG} {K : Int32 → Prop} (M : ZMem) (h : zRu lyR E G (zRp M K) cX12_nextOf RX12 6 (some .int) 1) (x1 : Int32) (s : (Int32 × Int32 × Int32)) (hk : zOk (zloop (f_X12_nextOf_L7 M x1) s) (fun e => G M 130 [(2, .int e.1), (3, .int e.2)] [])) : G M 7 [(0, zrf E 0), (1, .int x1), (2, .int s.1), (3, .int s.2.1), (4, .int s.2.2)] [] := by
  refine zloop_walk (P := fun s => G M 7 [(0, zrf E 0), (1, .int x1), (2, .int s.1), (3, .int s.2.1), (4, .int s.2.2)] []) hk (fun s hk => ?_)
  unfold f_X12_nextOf_L7 at hk
  refine zr_iload h dX12_nextOf_7 4 rfl ?_
  refine zr_aload_n h dX12_nextOf_9 0 rfl rfl ?_
  refine zr_getI h zfo_X12_283 lR_0 rfl dX12_nextOf_10 ?_
  refine zr_icmp_ge (tgt := 130) h dX12_nextOf_13 (by decide) (fun c => ?_) (fun c => ?_)
  · have hk := zOk_t c hk
    have hk := zOk_some hk
    exact zr_weak h [2, 3] rfl hk
  · have hk := zOk_f c hk
    refine zr_aload_n h dX12_nextOf_16 0 rfl rfl ?_
    refine zr_getR h zfo_X12_47 lR_0 rfl dX12_nextOf_17 ?_
    refine zr_iload h dX12_nextOf_20 4 rfl ?_
    have hb := zOk_chk hk
    have hk := hb.2
    refine zr_iald h lR_13 hb.1 dX12_nextOf_22 ?_
    refine zr_topi (fun x5_23 ex => ?_)
    have hk := zOk_bnd ex hk
    refine zr_istore (L' := [(0, zrf E 0), (1, .int x1), (2, .int s.1), (3, .int s.2.1), (4, .int s.2.2), (5, .int x5_23)]) h [1, 2, 3, 4, 5, 0] dX12_nextOf_23 (by decide) rfl ?_
    refine w_X12_nextOf_L25 M h x1 s.2.2 (s.1, s.2.1, x5_23) (zOk_mono (zOk_bind hk) (fun e25 hk => ?_))
    obtain ⟨x4_124, ex⟩ : ∃ y : Int32, y = s.2.2 + (zI 1) := ⟨_, rfl⟩
    have hk := zOk_bnd ex hk
    refine zr_iinc (v := x4_124) (L' := [(0, zrf E 0), (1, .int x1), (2, .int e25.1), (3, .int e25.2), (4, .int x4_124)]) h 4 [1, 2, 3, 4, 0] dX12_nextOf_124 rfl (by rw [ex]; rfl) (by decide) rfl ?_
    refine zr_goto (tgt := 7) h dX12_nextOf_127 (by decide) ?_
    have hk := zOk_some hk
    exact zr_weak h [0, 1, 2, 3, 4] rfl hk
noncomputable def f_X12_nextOf (M : ZMem) (x1 : Int32) : Option Int32 := zbind (zloop (f_X12_nextOf_L7 M x1) ((zI 0), (zI 0), (zI 0))) (fun e7 => zbind (f_J6_bitCount_0f7a4 M e7.1) (fun r_131 => zbind (f_X12_truth M e7.2) (fun r_135 => some (r_131 + r_135))))
set_option maxRecDepth 100000 in
set_option maxHeartbeats 4000000 in
theorem c_X12_nextOf (E : ZEv) (M : ZMem) (x1 : Int32) (K : Int32 → Prop) (hk : zOk (f_X12_nextOf M x1) K) : zCon lyR E yX12_nextOf cX12_nextOf 6 (some .int) 1 [zrf E 0, .int x1] M (zRp M K) := by
  refine zcon_of (L0 := [(0, zrf E 0), (1, .int x1)]) (by decide) rfl (Nat.le_of_ble_eq_true rfl) (fun G h => ?_)
  have h : zRu lyR E G (zRp M K) cX12_nextOf RX12 6 (some .int) 1 := h
  unfold f_X12_nextOf at hk
  refine zr_iconst (v := (zI 0)) h dX12_nextOf_0 rfl ?_
  refine zr_istore_n (L' := [(0, zrf E 0), (1, .int x1), (2, .int (zI 0))]) h [1, 2, 0] dX12_nextOf_1 rfl (by decide) rfl ?_
  refine zr_iconst (v := (zI 0)) h dX12_nextOf_2 rfl ?_
  refine zr_istore_n (L' := [(0, zrf E 0), (1, .int x1), (2, .int (zI 0)), (3, .int (zI 0))]) h [1, 2, 3, 0] dX12_nextOf_3 rfl (by decide) rfl ?_
  refine zr_iconst (v := (zI 0)) h dX12_nextOf_4 rfl ?_
  refine zr_istore (L' := [(0, zrf E 0), (1, .int x1), (2, .int (zI 0)), (3, .int (zI 0)), (4, .int (zI 0))]) h [1, 2, 3, 4, 0] dX12_nextOf_5 (by decide) rfl ?_
  refine w_X12_nextOf_L7 M h x1 ((zI 0), (zI 0), (zI 0)) (zOk_mono (zOk_bind hk) (fun e7 hk => ?_))
  refine zr_iload_n h dX12_nextOf_130 0 rfl rfl ?_
  refine zr_callSp h zcw_X12_268 (by decide) (c_J6_bitCount_0f7a4 E M e7.1 _ (zOk_bind hk)) rfl rfl (Nat.le_of_ble_eq_true rfl) dX12_nextOf_131 (fun r_131 hk => ?_)
  refine zr_iload_n h dX12_nextOf_134 1 rfl rfl ?_
  refine zr_callSp h zcw_X12_177 (by decide) (c_X12_truth E M e7.2 _ (zOk_bind hk)) rfl rfl (Nat.le_of_ble_eq_true rfl) dX12_nextOf_135 (fun r_135 hk => ?_)
  refine zr_iadd h dX12_nextOf_138 ?_
  have hk := zOk_some hk
  exact zr_iret h dX12_nextOf_139 ⟨rfl, _, rfl, hk⟩
theorem dX12_length_0 : decode cX12_length 0 = .ok (.iconst 0, 1) := by decide +kernel
theorem dX12_length_1 : decode cX12_length 1 = .ok (.istore_n 3, 1) := by decide +kernel
theorem dX12_length_2 : decode cX12_length 2 = .ok (.iconst 1, 1) := by decide +kernel
theorem dX12_length_3 : decode cX12_length 3 = .ok (.istore 4, 2) := by decide +kernel
theorem dX12_length_5 : decode cX12_length 5 = .ok (.iconst 0, 1) := by decide +kernel
theorem dX12_length_6 : decode cX12_length 6 = .ok (.istore 5, 2) := by decide +kernel
theorem dX12_length_8 : decode cX12_length 8 = .ok (.iload 4, 2) := by decide +kernel
theorem dX12_length_10 : decode cX12_length 10 = .ok (.ifCond .eq 77, 3) := by decide +kernel
theorem dX12_length_13 : decode cX12_length 13 = .ok (.aload_n 0, 1) := by decide +kernel
theorem dX12_length_14 : decode cX12_length 14 = .ok (.getfield 53, 3) := by decide +kernel
theorem dX12_length_17 : decode cX12_length 17 = .ok (.iload_n 3, 1) := by decide +kernel
theorem dX12_length_18 : decode cX12_length 18 = .ok (.aload_n 0, 1) := by decide +kernel
theorem dX12_length_19 : decode cX12_length 19 = .ok (.getfield 50, 3) := by decide +kernel
theorem dX12_length_22 : decode cX12_length 22 = .ok (.iload_n 1, 1) := by decide +kernel
theorem dX12_length_23 : decode cX12_length 23 = .ok (.iload_n 3, 1) := by decide +kernel
theorem dX12_length_24 : decode cX12_length 24 = .ok (.iadd, 1) := by decide +kernel
theorem dX12_length_25 : decode cX12_length 25 = .ok (.iaload, 1) := by decide +kernel
theorem dX12_length_26 : decode cX12_length 26 = .ok (.iastore, 1) := by decide +kernel
theorem dX12_length_27 : decode cX12_length 27 = .ok (.iinc 3 1, 3) := by decide +kernel
theorem dX12_length_30 : decode cX12_length 30 = .ok (.aload_n 0, 1) := by decide +kernel
theorem dX12_length_31 : decode cX12_length 31 = .ok (.iload_n 3, 1) := by decide +kernel
theorem dX12_length_32 : decode cX12_length 32 = .ok (.invokevirtual 299, 3) := by decide +kernel
theorem dX12_length_35 : decode cX12_length 35 = .ok (.istore 6, 2) := by decide +kernel
theorem dX12_length_37 : decode cX12_length 37 = .ok (.iload_n 1, 1) := by decide +kernel
theorem dX12_length_38 : decode cX12_length 38 = .ok (.iload_n 3, 1) := by decide +kernel
theorem dX12_length_39 : decode cX12_length 39 = .ok (.iadd, 1) := by decide +kernel
theorem dX12_length_40 : decode cX12_length 40 = .ok (.iload_n 2, 1) := by decide +kernel
theorem dX12_length_41 : decode cX12_length 41 = .ok (.if_icmp .ge 36, 3) := by decide +kernel
theorem dX12_length_44 : decode cX12_length 44 = .ok (.iload_n 3, 1) := by decide +kernel
theorem dX12_length_45 : decode cX12_length 45 = .ok (.bipush 7, 2) := by decide +kernel
theorem dX12_length_47 : decode cX12_length 47 = .ok (.if_icmp .ge 30, 3) := by decide +kernel
theorem dX12_length_50 : decode cX12_length 50 = .ok (.iload_n 3, 1) := by decide +kernel
theorem dX12_length_51 : decode cX12_length 51 = .ok (.iconst 2, 1) := by decide +kernel
theorem dX12_length_52 : decode cX12_length 52 = .ok (.if_icmp .lt 21, 3) := by decide +kernel
theorem dX12_length_55 : decode cX12_length 55 = .ok (.iload 6, 2) := by decide +kernel
theorem dX12_length_57 : decode cX12_length 57 = .ok (.iload 5, 2) := by decide +kernel
theorem dX12_length_59 : decode cX12_length 59 = .ok (.if_icmp .le 14, 3) := by decide +kernel
theorem dX12_length_62 : decode cX12_length 62 = .ok (.iload 6, 2) := by decide +kernel
theorem dX12_length_64 : decode cX12_length 64 = .ok (.aload_n 0, 1) := by decide +kernel
theorem dX12_length_65 : decode cX12_length 65 = .ok (.getfield 35, 3) := by decide +kernel
theorem dX12_length_68 : decode cX12_length 68 = .ok (.iconst 2, 1) := by decide +kernel
theorem dX12_length_69 : decode cX12_length 69 = .ok (.iaload, 1) := by decide +kernel
theorem dX12_length_70 : decode cX12_length 70 = .ok (.if_icmp .ge 7, 3) := by decide +kernel
theorem dX12_length_73 : decode cX12_length 73 = .ok (.iconst 1, 1) := by decide +kernel
theorem dX12_length_74 : decode cX12_length 74 = .ok (.goto 4, 3) := by decide +kernel
theorem dX12_length_77 : decode cX12_length 77 = .ok (.iconst 0, 1) := by decide +kernel
theorem dX12_length_78 : decode cX12_length 78 = .ok (.istore 4, 2) := by decide +kernel
theorem dX12_length_80 : decode cX12_length 80 = .ok (.iload 6, 2) := by decide +kernel
theorem dX12_length_82 : decode cX12_length 82 = .ok (.istore 5, 2) := by decide +kernel
theorem dX12_length_84 : decode cX12_length 84 = .ok (.goto (-76), 3) := by decide +kernel
theorem dX12_length_87 : decode cX12_length 87 = .ok (.iload_n 3, 1) := by decide +kernel
theorem dX12_length_88 : decode cX12_length 88 = .ok (.ireturn, 1) := by decide +kernel
noncomputable def f_X12_length_L8 (x1 : Int32) (x2 : Int32) (s : (ZMem × Int32 × Int32 × Int32)) : Option ((ZMem × Int32 × Int32 × Int32) ⊕ (ZMem × Int32)) := if s.2.2.1 = (zI 0) then some (.inr (s.1, s.2.1)) else zchk (zin (x1 + s.2.1) 240) (zchk (zin s.2.1 7) (zbnd (zstI s.1 15 (zix s.2.1) (s.1.1 14 (zix (x1 + s.2.1)))) (fun M_26 => zbnd (s.2.1 + (zI 1)) (fun x3_27 => zbind (f_X12_nextOf M_26 x3_27) (fun r_32 => if x2 ≤ (x1 + x3_27) then some (.inl (M_26, x3_27, (zI 0), r_32)) else if (zI 7) ≤ x3_27 then some (.inl (M_26, x3_27, (zI 0), r_32)) else if x3_27 < (zI 2) then some (.inl (M_26, x3_27, (zI 1), r_32)) else if r_32 ≤ s.2.2.2 then some (.inl (M_26, x3_27, (zI 1), r_32)) else if (M_26.1 9 (zix (zI 2))) ≤ r_32 then some (.inl (M_26, x3_27, (zI 0), r_32)) else some (.inl (M_26, x3_27, (zI 1), r_32)))))))
set_option maxRecDepth 100000 in
set_option maxHeartbeats 4000000 in
theorem w_X12_length_L8 {E : ZEv} {G : ZG} {K : (ZMem × Int32) → Prop} (h : zRu lyR E G (zRm K) cX12_length RX12 7 (some .int) 2) (x1 : Int32) (x2 : Int32) (s : (ZMem × Int32 × Int32 × Int32)) (hk : zOk (zloop (f_X12_length_L8 x1 x2) s) (fun e => G e.1 87 [(3, .int e.2)] [])) : G s.1 8 [(0, zrf E 0), (1, .int x1), (2, .int x2), (3, .int s.2.1), (4, .int s.2.2.1), (5, .int s.2.2.2)] [] := by
  refine zloop_walk (P := fun s => G s.1 8 [(0, zrf E 0), (1, .int x1), (2, .int x2), (3, .int s.2.1), (4, .int s.2.2.1), (5, .int s.2.2.2)] []) hk (fun s hk => ?_)
  unfold f_X12_length_L8 at hk
  refine zr_iload h dX12_length_8 4 rfl ?_
  refine zr_if_eq (tgt := 87) h dX12_length_10 (by decide) (fun c => ?_) (fun c => ?_)
  · have hk := zOk_t c hk
    have hk := zOk_some hk
    exact zr_weak h [3] rfl hk
  · have hk := zOk_f c hk
    refine zr_aload_n h dX12_length_13 0 rfl rfl ?_
    refine zr_getR h zfo_X12_53 lR_0 rfl dX12_length_14 ?_
    refine zr_iload_n h dX12_length_17 3 rfl rfl ?_
    refine zr_aload_n h dX12_length_18 0 rfl rfl ?_
    refine zr_getR h zfo_X12_50 lR_0 rfl dX12_length_19 ?_
    refine zr_iload_n h dX12_length_22 1 rfl rfl ?_
    refine zr_iload_n h dX12_length_23 3 rfl rfl ?_
    refine zr_iadd h dX12_length_24 ?_
    have hb := zOk_chk hk
    have hk := hb.2
    refine zr_iald h lR_14 hb.1 dX12_length_25 ?_
    have hb := zOk_chk hk
    have hk := hb.2
    refine zr_iast h lR_15 hb.1 dX12_length_26 ?_
    refine zr_mem (fun M_26 eM => ?_)
    have hk := zOk_bnd eM hk
    obtain ⟨x3_27, ex⟩ : ∃ y : Int32, y = s.2.1 + (zI 1) := ⟨_, rfl⟩
    have hk := zOk_bnd ex hk
    refine zr_iinc (v := x3_27) (L' := [(0, zrf E 0), (1, .int x1), (2, .int x2), (3, .int x3_27), (5, .int s.2.2.2)]) h 3 [1, 2, 3, 0, 5] dX12_length_27 rfl (by rw [ex]; rfl) (by decide) rfl ?_
    refine zr_aload_n h dX12_length_30 0 rfl rfl ?_
    refine zr_iload_n h dX12_length_31 3 rfl rfl ?_
    refine zr_callVp h lR_0 zcw_X12_299 (by decide) (c_X12_nextOf E M_26 x3_27 _ (zOk_bind hk)) rfl rfl (Nat.le_of_ble_eq_true rfl) dX12_length_32 (fun r_32 hk => ?_)
    refine zr_istore (L' := [(0, zrf E 0), (1, .int x1), (2, .int x2), (3, .int x3_27), (5, .int s.2.2.2), (6, .int r_32)]) h [1, 2, 3, 4, 5, 0] dX12_length_35 (by decide) rfl ?_
    refine zr_iload_n h dX12_length_37 1 rfl rfl ?_
    refine zr_iload_n h dX12_length_38 3 rfl rfl ?_
    refine zr_iadd h dX12_length_39 ?_
    refine zr_iload_n h dX12_length_40 2 rfl rfl ?_
    refine zr_icmp_ge (tgt := 77) h dX12_length_41 (by decide) (fun c => ?_) (fun c => ?_)
    · have hk := zOk_t c hk
      refine zr_iconst (v := (zI 0)) h dX12_length_77 rfl ?_
      refine zr_istore (L' := [(0, zrf E 0), (1, .int x1), (2, .int x2), (3, .int x3_27), (4, .int (zI 0)), (6, .int r_32)]) h [1, 2, 3, 4, 0, 6] dX12_length_78 (by decide) rfl ?_
      refine zr_iload h dX12_length_80 5 rfl ?_
      refine zr_istore (L' := [(0, zrf E 0), (1, .int x1), (2, .int x2), (3, .int x3_27), (4, .int (zI 0)), (5, .int r_32)]) h [1, 2, 3, 4, 5, 0] dX12_length_82 (by decide) rfl ?_
      refine zr_goto (tgt := 8) h dX12_length_84 (by decide) ?_
      have hk := zOk_some hk
      exact zr_weak h [0, 1, 2, 3, 4, 5] rfl hk
    · have hk := zOk_f c hk
      refine zr_iload_n h dX12_length_44 3 rfl rfl ?_
      refine zr_bipush (v := (zI 7)) h dX12_length_45 (by decide) ?_
      refine zr_icmp_ge (tgt := 77) h dX12_length_47 (by decide) (fun c => ?_) (fun c => ?_)
      · have hk := zOk_t c hk
        refine zr_iconst (v := (zI 0)) h dX12_length_77 rfl ?_
        refine zr_istore (L' := [(0, zrf E 0), (1, .int x1), (2, .int x2), (3, .int x3_27), (4, .int (zI 0)), (6, .int r_32)]) h [1, 2, 3, 4, 0, 6] dX12_length_78 (by decide) rfl ?_
        refine zr_iload h dX12_length_80 5 rfl ?_
        refine zr_istore (L' := [(0, zrf E 0), (1, .int x1), (2, .int x2), (3, .int x3_27), (4, .int (zI 0)), (5, .int r_32)]) h [1, 2, 3, 4, 5, 0] dX12_length_82 (by decide) rfl ?_
        refine zr_goto (tgt := 8) h dX12_length_84 (by decide) ?_
        have hk := zOk_some hk
        exact zr_weak h [0, 1, 2, 3, 4, 5] rfl hk
      · have hk := zOk_f c hk
        refine zr_iload_n h dX12_length_50 3 rfl rfl ?_
        refine zr_iconst (v := (zI 2)) h dX12_length_51 rfl ?_
        refine zr_icmp_lt (tgt := 73) h dX12_length_52 (by decide) (fun c => ?_) (fun c => ?_)
        · have hk := zOk_t c hk
          refine zr_iconst (v := (zI 1)) h dX12_length_73 rfl ?_
          refine zr_goto (tgt := 78) h dX12_length_74 (by decide) ?_
          refine zr_istore (L' := [(0, zrf E 0), (1, .int x1), (2, .int x2), (3, .int x3_27), (4, .int (zI 1)), (6, .int r_32)]) h [1, 2, 3, 4, 0, 6] dX12_length_78 (by decide) rfl ?_
          refine zr_iload h dX12_length_80 5 rfl ?_
          refine zr_istore (L' := [(0, zrf E 0), (1, .int x1), (2, .int x2), (3, .int x3_27), (4, .int (zI 1)), (5, .int r_32)]) h [1, 2, 3, 4, 5, 0] dX12_length_82 (by decide) rfl ?_
          refine zr_goto (tgt := 8) h dX12_length_84 (by decide) ?_
          have hk := zOk_some hk
          exact zr_weak h [0, 1, 2, 3, 4, 5] rfl hk
        · have hk := zOk_f c hk
          refine zr_iload h dX12_length_55 5 rfl ?_
          refine zr_iload h dX12_length_57 4 rfl ?_
          refine zr_icmp_le (tgt := 73) h dX12_length_59 (by decide) (fun c => ?_) (fun c => ?_)
          · have hk := zOk_t c hk
            refine zr_iconst (v := (zI 1)) h dX12_length_73 rfl ?_
            refine zr_goto (tgt := 78) h dX12_length_74 (by decide) ?_
            refine zr_istore (L' := [(0, zrf E 0), (1, .int x1), (2, .int x2), (3, .int x3_27), (4, .int (zI 1)), (6, .int r_32)]) h [1, 2, 3, 4, 0, 6] dX12_length_78 (by decide) rfl ?_
            refine zr_iload h dX12_length_80 5 rfl ?_
            refine zr_istore (L' := [(0, zrf E 0), (1, .int x1), (2, .int x2), (3, .int x3_27), (4, .int (zI 1)), (5, .int r_32)]) h [1, 2, 3, 4, 5, 0] dX12_length_82 (by decide) rfl ?_
            refine zr_goto (tgt := 8) h dX12_length_84 (by decide) ?_
            have hk := zOk_some hk
            exact zr_weak h [0, 1, 2, 3, 4, 5] rfl hk
          · have hk := zOk_f c hk
            refine zr_iload h dX12_length_62 5 rfl ?_
            refine zr_aload_n h dX12_length_64 0 rfl rfl ?_
            refine zr_getR h zfo_X12_35 lR_0 rfl dX12_length_65 ?_
            refine zr_iconst (v := (zI 2)) h dX12_length_68 rfl ?_
            refine zr_iald h lR_9 (by decide) dX12_length_69 ?_
            refine zr_icmp_ge (tgt := 77) h dX12_length_70 (by decide) (fun c => ?_) (fun c => ?_)
            · have hk := zOk_t c hk
              refine zr_iconst (v := (zI 0)) h dX12_length_77 rfl ?_
              refine zr_istore (L' := [(0, zrf E 0), (1, .int x1), (2, .int x2), (3, .int x3_27), (4, .int (zI 0)), (6, .int r_32)]) h [1, 2, 3, 4, 0, 6] dX12_length_78 (by decide) rfl ?_
              refine zr_iload h dX12_length_80 5 rfl ?_
              refine zr_istore (L' := [(0, zrf E 0), (1, .int x1), (2, .int x2), (3, .int x3_27), (4, .int (zI 0)), (5, .int r_32)]) h [1, 2, 3, 4, 5, 0] dX12_length_82 (by decide) rfl ?_
              refine zr_goto (tgt := 8) h dX12_length_84 (by decide) ?_
              have hk := zOk_some hk
              exact zr_weak h [0, 1, 2, 3, 4, 5] rfl hk
            · have hk := zOk_f c hk
              refine zr_iconst (v := (zI 1)) h dX12_length_73 rfl ?_
              refine zr_goto (tgt := 78) h dX12_length_74 (by decide) ?_
              refine zr_istore (L' := [(0, zrf E 0), (1, .int x1), (2, .int x2), (3, .int x3_27), (4, .int (zI 1)), (6, .int r_32)]) h [1, 2, 3, 4, 0, 6] dX12_length_78 (by decide) rfl ?_
              refine zr_iload h dX12_length_80 5 rfl ?_
              refine zr_istore (L' := [(0, zrf E 0), (1, .int x1), (2, .int x2), (3, .int x3_27), (4, .int (zI 1)), (5, .int r_32)]) h [1, 2, 3, 4, 5, 0] dX12_length_82 (by decide) rfl ?_
              refine zr_goto (tgt := 8) h dX12_length_84 (by decide) ?_
              have hk := zOk_some hk
              exact zr_weak h [0, 1, 2, 3, 4, 5] rfl hk
noncomputable def f_X12_length (M : ZMem) (x1 : Int32) (x2 : Int32) : Option (ZMem × Int32) := zbind (zloop (f_X12_length_L8 x1 x2) (M, (zI 0), (zI 1), (zI 0))) (fun e8 => some (e8.1, e8.2))
set_option maxRecDepth 100000 in
set_option maxHeartbeats 4000000 in
theorem c_X12_length (E : ZEv) (M : ZMem) (x1 : Int32) (x2 : Int32) (K : ZMem × Int32 → Prop) (hk : zOk (f_X12_length M x1 x2) K) : zCon lyR E yX12_length cX12_length 7 (some .int) 2 [zrf E 0, .int x1, .int x2] M (zRm K) := by
  refine zcon_of (L0 := [(0, zrf E 0), (1, .int x1), (2, .int x2)]) (by decide) rfl (Nat.le_of_ble_eq_true rfl) (fun G h => ?_)
  have h : zRu lyR E G (zRm K) cX12_length RX12 7 (some .int) 2 := h
  unfold f_X12_length at hk
  refine zr_iconst (v := (zI 0)) h dX12_length_0 rfl ?_
  refine zr_istore_n (L' := [(0, zrf E 0), (1, .int x1), (2, .int x2), (3, .int (zI 0))]) h [1, 2, 3, 0] dX12_length_1 rfl (by decide) rfl ?_
  refine zr_iconst (v := (zI 1)) h dX12_length_2 rfl ?_
  refine zr_istore (L' := [(0, zrf E 0), (1, .int x1), (2, .int x2), (3, .int (zI 0)), (4, .int (zI 1))]) h [1, 2, 3, 4, 0] dX12_length_3 (by decide) rfl ?_
  refine zr_iconst (v := (zI 0)) h dX12_length_5 rfl ?_
  refine zr_istore (L' := [(0, zrf E 0), (1, .int x1), (2, .int x2), (3, .int (zI 0)), (4, .int (zI 1)), (5, .int (zI 0))]) h [1, 2, 3, 4, 5, 0] dX12_length_6 (by decide) rfl ?_
  refine w_X12_length_L8 h x1 x2 (M, (zI 0), (zI 1), (zI 0)) (zOk_mono (zOk_bind hk) (fun e8 hk => ?_))
  refine zr_iload_n h dX12_length_87 0 rfl rfl ?_
  have hk := zOk_some hk
  exact zr_iret h dX12_length_88 ⟨_, rfl, hk⟩
theorem dX12_against_0 : decode cX12_against 0 = .ok (.iconst 0, 1) := by decide +kernel
theorem dX12_against_1 : decode cX12_against 1 = .ok (.istore_n 3, 1) := by decide +kernel
theorem dX12_against_2 : decode cX12_against 2 = .ok (.iload_n 3, 1) := by decide +kernel
theorem dX12_against_3 : decode cX12_against 3 = .ok (.iload_n 1, 1) := by decide +kernel
theorem dX12_against_4 : decode cX12_against 4 = .ok (.if_icmp .ge 58, 3) := by decide +kernel
theorem dX12_against_7 : decode cX12_against 7 = .ok (.iload_n 3, 1) := by decide +kernel
theorem dX12_against_8 : decode cX12_against 8 = .ok (.aload_n 0, 1) := by decide +kernel
theorem dX12_against_9 : decode cX12_against 9 = .ok (.getfield 56, 3) := by decide +kernel
theorem dX12_against_12 : decode cX12_against 12 = .ok (.iload_n 2, 1) := by decide +kernel
theorem dX12_against_13 : decode cX12_against 13 = .ok (.iaload, 1) := by decide +kernel
theorem dX12_against_14 : decode cX12_against 14 = .ok (.if_icmp .ge 48, 3) := by decide +kernel
theorem dX12_against_17 : decode cX12_against 17 = .ok (.aload_n 0, 1) := by decide +kernel
theorem dX12_against_18 : decode cX12_against 18 = .ok (.getfield 53, 3) := by decide +kernel
theorem dX12_against_21 : decode cX12_against 21 = .ok (.iload_n 3, 1) := by decide +kernel
theorem dX12_against_22 : decode cX12_against 22 = .ok (.iaload, 1) := by decide +kernel
theorem dX12_against_23 : decode cX12_against 23 = .ok (.aload_n 0, 1) := by decide +kernel
theorem dX12_against_24 : decode cX12_against 24 = .ok (.getfield 59, 3) := by decide +kernel
theorem dX12_against_27 : decode cX12_against 27 = .ok (.bipush 7, 2) := by decide +kernel
theorem dX12_against_29 : decode cX12_against 29 = .ok (.iload_n 2, 1) := by decide +kernel
theorem dX12_against_30 : decode cX12_against 30 = .ok (.imul, 1) := by decide +kernel
theorem dX12_against_31 : decode cX12_against 31 = .ok (.iload_n 3, 1) := by decide +kernel
theorem dX12_against_32 : decode cX12_against 32 = .ok (.iadd, 1) := by decide +kernel
theorem dX12_against_33 : decode cX12_against 33 = .ok (.iaload, 1) := by decide +kernel
theorem dX12_against_34 : decode cX12_against 34 = .ok (.if_icmp .eq 22, 3) := by decide +kernel
theorem dX12_against_37 : decode cX12_against 37 = .ok (.aload_n 0, 1) := by decide +kernel
theorem dX12_against_38 : decode cX12_against 38 = .ok (.getfield 53, 3) := by decide +kernel
theorem dX12_against_41 : decode cX12_against 41 = .ok (.iload_n 3, 1) := by decide +kernel
theorem dX12_against_42 : decode cX12_against 42 = .ok (.iaload, 1) := by decide +kernel
theorem dX12_against_43 : decode cX12_against 43 = .ok (.aload_n 0, 1) := by decide +kernel
theorem dX12_against_44 : decode cX12_against 44 = .ok (.getfield 59, 3) := by decide +kernel
theorem dX12_against_47 : decode cX12_against 47 = .ok (.bipush 7, 2) := by decide +kernel
theorem dX12_against_49 : decode cX12_against 49 = .ok (.iload_n 2, 1) := by decide +kernel
theorem dX12_against_50 : decode cX12_against 50 = .ok (.imul, 1) := by decide +kernel
theorem dX12_against_51 : decode cX12_against 51 = .ok (.iload_n 3, 1) := by decide +kernel
theorem dX12_against_52 : decode cX12_against 52 = .ok (.iadd, 1) := by decide +kernel
theorem dX12_against_53 : decode cX12_against 53 = .ok (.iaload, 1) := by decide +kernel
theorem dX12_against_54 : decode cX12_against 54 = .ok (.isub, 1) := by decide +kernel
theorem dX12_against_55 : decode cX12_against 55 = .ok (.ireturn, 1) := by decide +kernel
theorem dX12_against_56 : decode cX12_against 56 = .ok (.iinc 3 1, 3) := by decide +kernel
theorem dX12_against_59 : decode cX12_against 59 = .ok (.goto (-57), 3) := by decide +kernel
theorem dX12_against_62 : decode cX12_against 62 = .ok (.iload_n 1, 1) := by decide +kernel
theorem dX12_against_63 : decode cX12_against 63 = .ok (.aload_n 0, 1) := by decide +kernel
theorem dX12_against_64 : decode cX12_against 64 = .ok (.getfield 56, 3) := by decide +kernel
theorem dX12_against_67 : decode cX12_against 67 = .ok (.iload_n 2, 1) := by decide +kernel
theorem dX12_against_68 : decode cX12_against 68 = .ok (.iaload, 1) := by decide +kernel
theorem dX12_against_69 : decode cX12_against 69 = .ok (.isub, 1) := by decide +kernel
theorem dX12_against_70 : decode cX12_against 70 = .ok (.ireturn, 1) := by decide +kernel
noncomputable def f_X12_against_L2 (M : ZMem) (x1 : Int32) (x2 : Int32) (s : (Int32)) : Option ((Int32) ⊕ ((Unit) ⊕ Int32)) := if x1 ≤ s then some (.inr (.inl ())) else zchk (zin x2 241) (if (M.1 16 (zix x2)) ≤ s then some (.inr (.inl ())) else zchk (zin s 7) (zchk (zin (((zI 7) * x2) + s) 1687) (if (M.1 15 (zix s)) = (M.1 17 (zix (((zI 7) * x2) + s))) then zbnd (s + (zI 1)) (fun x3_56 => some (.inl x3_56)) else zchk (zin s 7) (zchk (zin (((zI 7) * x2) + s) 1687) (some (.inr (.inr ((M.1 15 (zix s)) - (M.1 17 (zix (((zI 7) * x2) + s)))))))))))
set_option maxRecDepth 100000 in
set_option maxHeartbeats 4000000 in
theorem w_X12_against_L2 {E : ZEv} {G : ZG} {K : Int32 → Prop} (M : ZMem) (h : zRu lyR E G (zRp M K) cX12_against RX12 4 (some .int) 0) (x1 : Int32) (x2 : Int32) (s : (Int32)) (hk : zOk (zloop (f_X12_against_L2 M x1 x2) s) (fun e => zsel e (fun e0 => G M 62 [(0, zrf E 0), (1, .int x1), (2, .int x2)] []) (fun f0 => K f0))) : G M 2 [(0, zrf E 0), (1, .int x1), (2, .int x2), (3, .int s)] [] := by
  refine zloop_walk (P := fun s => G M 2 [(0, zrf E 0), (1, .int x1), (2, .int x2), (3, .int s)] []) hk (fun s hk => ?_)
  unfold f_X12_against_L2 at hk
  refine zr_iload_n h dX12_against_2 3 rfl rfl ?_
  refine zr_iload_n h dX12_against_3 1 rfl rfl ?_
  refine zr_icmp_ge (tgt := 62) h dX12_against_4 (by decide) (fun c => ?_) (fun c => ?_)
  · have hk := zOk_t c hk
    have hk := zOk_some hk
    exact zr_weak h [0, 1, 2] rfl hk
  · have hk := zOk_f c hk
    refine zr_iload_n h dX12_against_7 3 rfl rfl ?_
    refine zr_aload_n h dX12_against_8 0 rfl rfl ?_
    refine zr_getR h zfo_X12_56 lR_0 rfl dX12_against_9 ?_
    refine zr_iload_n h dX12_against_12 2 rfl rfl ?_
    have hb := zOk_chk hk
    have hk := hb.2
    refine zr_iald h lR_16 hb.1 dX12_against_13 ?_
    refine zr_icmp_ge (tgt := 62) h dX12_against_14 (by decide) (fun c => ?_) (fun c => ?_)
    · have hk := zOk_t c hk
      have hk := zOk_some hk
      exact zr_weak h [0, 1, 2] rfl hk
    · have hk := zOk_f c hk
      refine zr_aload_n h dX12_against_17 0 rfl rfl ?_
      refine zr_getR h zfo_X12_53 lR_0 rfl dX12_against_18 ?_
      refine zr_iload_n h dX12_against_21 3 rfl rfl ?_
      have hb := zOk_chk hk
      have hk := hb.2
      refine zr_iald h lR_15 hb.1 dX12_against_22 ?_
      refine zr_aload_n h dX12_against_23 0 rfl rfl ?_
      refine zr_getR h zfo_X12_59 lR_0 rfl dX12_against_24 ?_
      refine zr_bipush (v := (zI 7)) h dX12_against_27 (by decide) ?_
      refine zr_iload_n h dX12_against_29 2 rfl rfl ?_
      refine zr_imul h dX12_against_30 ?_
      refine zr_iload_n h dX12_against_31 3 rfl rfl ?_
      refine zr_iadd h dX12_against_32 ?_
      have hb := zOk_chk hk
      have hk := hb.2
      refine zr_iald h lR_17 hb.1 dX12_against_33 ?_
      refine zr_icmp_eq (tgt := 56) h dX12_against_34 (by decide) (fun c => ?_) (fun c => ?_)
      · have hk := zOk_t c hk
        obtain ⟨x3_56, ex⟩ : ∃ y : Int32, y = s + (zI 1) := ⟨_, rfl⟩
        have hk := zOk_bnd ex hk
        refine zr_iinc (v := x3_56) (L' := [(0, zrf E 0), (1, .int x1), (2, .int x2), (3, .int x3_56)]) h 3 [1, 2, 3, 0] dX12_against_56 rfl (by rw [ex]; rfl) (by decide) rfl ?_
        refine zr_goto (tgt := 2) h dX12_against_59 (by decide) ?_
        have hk := zOk_some hk
        exact zr_weak h [0, 1, 2, 3] rfl hk
      · have hk := zOk_f c hk
        refine zr_aload_n h dX12_against_37 0 rfl rfl ?_
        refine zr_getR h zfo_X12_53 lR_0 rfl dX12_against_38 ?_
        refine zr_iload_n h dX12_against_41 3 rfl rfl ?_
        have hb := zOk_chk hk
        have hk := hb.2
        refine zr_iald h lR_15 hb.1 dX12_against_42 ?_
        refine zr_aload_n h dX12_against_43 0 rfl rfl ?_
        refine zr_getR h zfo_X12_59 lR_0 rfl dX12_against_44 ?_
        refine zr_bipush (v := (zI 7)) h dX12_against_47 (by decide) ?_
        refine zr_iload_n h dX12_against_49 2 rfl rfl ?_
        refine zr_imul h dX12_against_50 ?_
        refine zr_iload_n h dX12_against_51 3 rfl rfl ?_
        refine zr_iadd h dX12_against_52 ?_
        have hb := zOk_chk hk
        have hk := hb.2
        refine zr_iald h lR_17 hb.1 dX12_against_53 ?_
        refine zr_isub h dX12_against_54 ?_
        have hk := zOk_some hk
        exact zr_iret h dX12_against_55 ⟨rfl, _, rfl, hk⟩
noncomputable def f_X12_against (M : ZMem) (x1 : Int32) (x2 : Int32) : Option Int32 := zbind (zloop (f_X12_against_L2 M x1 x2) (zI 0)) (fun e2 => zsel e2 (fun e2a => zchk (zin x2 241) (some (x1 - (M.1 16 (zix x2))))) (fun e2b => some e2b))
set_option maxRecDepth 100000 in
set_option maxHeartbeats 4000000 in
theorem c_X12_against (E : ZEv) (M : ZMem) (x1 : Int32) (x2 : Int32) (K : Int32 → Prop) (hk : zOk (f_X12_against M x1 x2) K) : zCon lyR E yX12_against cX12_against 4 (some .int) 0 [zrf E 0, .int x1, .int x2] M (zRp M K) := by
  refine zcon_of (L0 := [(0, zrf E 0), (1, .int x1), (2, .int x2)]) (by decide) rfl (Nat.le_of_ble_eq_true rfl) (fun G h => ?_)
  have h : zRu lyR E G (zRp M K) cX12_against RX12 4 (some .int) 0 := h
  unfold f_X12_against at hk
  refine zr_iconst (v := (zI 0)) h dX12_against_0 rfl ?_
  refine zr_istore_n (L' := [(0, zrf E 0), (1, .int x1), (2, .int x2), (3, .int (zI 0))]) h [1, 2, 3, 0] dX12_against_1 rfl (by decide) rfl ?_
  refine w_X12_against_L2 M h x1 x2 (zI 0) (zOk_mono (zOk_bind hk) (fun e2 hk => ?_))
  cases e2 with
  | inl e2a =>
    have hk := zOk_selL hk
    refine zr_iload_n h dX12_against_62 1 rfl rfl ?_
    refine zr_aload_n h dX12_against_63 0 rfl rfl ?_
    refine zr_getR h zfo_X12_56 lR_0 rfl dX12_against_64 ?_
    refine zr_iload_n h dX12_against_67 2 rfl rfl ?_
    have hb := zOk_chk hk
    have hk := hb.2
    refine zr_iald h lR_16 hb.1 dX12_against_68 ?_
    refine zr_isub h dX12_against_69 ?_
    have hk := zOk_some hk
    exact zr_iret h dX12_against_70 ⟨rfl, _, rfl, hk⟩
  | inr e2b =>
    have hk := zOk_selR hk
    have hk := zOk_some hk
    exact hk
