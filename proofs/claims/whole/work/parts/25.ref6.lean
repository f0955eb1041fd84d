theorem dX12_mixes_0 : decode cX12_mixes 0 = .ok (.iconst 0, 1) := by decide +kernel
theorem dX12_mixes_1 : decode cX12_mixes 1 = .ok (.istore_n 2, 1) := by decide +kernel
theorem dX12_mixes_2 : decode cX12_mixes 2 = .ok (.iload_n 2, 1) := by decide +kernel
theorem dX12_mixes_3 : decode cX12_mixes 3 = .ok (.iload_n 1, 1) := by decide +kernel
theorem dX12_mixes_4 : decode cX12_mixes 4 = .ok (.if_icmp .ge 21, 3) := by decide +kernel
theorem dX12_mixes_7 : decode cX12_mixes 7 = .ok (.aload_n 0, 1) := by decide +kernel
theorem dX12_mixes_8 : decode cX12_mixes 8 = .ok (.getfield 99, 3) := by decide +kernel
theorem dX12_mixes_11 : decode cX12_mixes 11 = .ok (.iload_n 2, 1) := by decide +kernel
theorem dX12_mixes_12 : decode cX12_mixes 12 = .ok (.aload_n 0, 1) := by decide +kernel
theorem dX12_mixes_13 : decode cX12_mixes 13 = .ok (.getfield 96, 3) := by decide +kernel
theorem dX12_mixes_16 : decode cX12_mixes 16 = .ok (.iload_n 2, 1) := by decide +kernel
theorem dX12_mixes_17 : decode cX12_mixes 17 = .ok (.iaload, 1) := by decide +kernel
theorem dX12_mixes_18 : decode cX12_mixes 18 = .ok (.iastore, 1) := by decide +kernel
theorem dX12_mixes_19 : decode cX12_mixes 19 = .ok (.iinc 2 1, 3) := by decide +kernel
theorem dX12_mixes_22 : decode cX12_mixes 22 = .ok (.goto (-20), 3) := by decide +kernel
theorem dX12_mixes_25 : decode cX12_mixes 25 = .ok (.iload_n 1, 1) := by decide +kernel
theorem dX12_mixes_26 : decode cX12_mixes 26 = .ok (.iconst 1, 1) := by decide +kernel
theorem dX12_mixes_27 : decode cX12_mixes 27 = .ok (.isub, 1) := by decide +kernel
theorem dX12_mixes_28 : decode cX12_mixes 28 = .ok (.istore_n 2, 1) := by decide +kernel
theorem dX12_mixes_29 : decode cX12_mixes 29 = .ok (.iload_n 2, 1) := by decide +kernel
theorem dX12_mixes_30 : decode cX12_mixes 30 = .ok (.ifCond .le 45, 3) := by decide +kernel
theorem dX12_mixes_33 : decode cX12_mixes 33 = .ok (.aload_n 0, 1) := by decide +kernel
theorem dX12_mixes_34 : decode cX12_mixes 34 = .ok (.iload_n 2, 1) := by decide +kernel
theorem dX12_mixes_35 : decode cX12_mixes 35 = .ok (.iconst 1, 1) := by decide +kernel
theorem dX12_mixes_36 : decode cX12_mixes 36 = .ok (.iadd, 1) := by decide +kernel
theorem dX12_mixes_37 : decode cX12_mixes 37 = .ok (.invokevirtual 408, 3) := by decide +kernel
theorem dX12_mixes_40 : decode cX12_mixes 40 = .ok (.istore_n 3, 1) := by decide +kernel
theorem dX12_mixes_41 : decode cX12_mixes 41 = .ok (.aload_n 0, 1) := by decide +kernel
theorem dX12_mixes_42 : decode cX12_mixes 42 = .ok (.getfield 99, 3) := by decide +kernel
theorem dX12_mixes_45 : decode cX12_mixes 45 = .ok (.iload_n 2, 1) := by decide +kernel
theorem dX12_mixes_46 : decode cX12_mixes 46 = .ok (.iaload, 1) := by decide +kernel
theorem dX12_mixes_47 : decode cX12_mixes 47 = .ok (.istore 4, 2) := by decide +kernel
theorem dX12_mixes_49 : decode cX12_mixes 49 = .ok (.aload_n 0, 1) := by decide +kernel
theorem dX12_mixes_50 : decode cX12_mixes 50 = .ok (.getfield 99, 3) := by decide +kernel
theorem dX12_mixes_53 : decode cX12_mixes 53 = .ok (.iload_n 2, 1) := by decide +kernel
theorem dX12_mixes_54 : decode cX12_mixes 54 = .ok (.aload_n 0, 1) := by decide +kernel
theorem dX12_mixes_55 : decode cX12_mixes 55 = .ok (.getfield 99, 3) := by decide +kernel
theorem dX12_mixes_58 : decode cX12_mixes 58 = .ok (.iload_n 3, 1) := by decide +kernel
theorem dX12_mixes_59 : decode cX12_mixes 59 = .ok (.iaload, 1) := by decide +kernel
theorem dX12_mixes_60 : decode cX12_mixes 60 = .ok (.iastore, 1) := by decide +kernel
theorem dX12_mixes_61 : decode cX12_mixes 61 = .ok (.aload_n 0, 1) := by decide +kernel
theorem dX12_mixes_62 : decode cX12_mixes 62 = .ok (.getfield 99, 3) := by decide +kernel
theorem dX12_mixes_65 : decode cX12_mixes 65 = .ok (.iload_n 3, 1) := by decide +kernel
theorem dX12_mixes_66 : decode cX12_mixes 66 = .ok (.iload 4, 2) := by decide +kernel
theorem dX12_mixes_68 : decode cX12_mixes 68 = .ok (.iastore, 1) := by decide +kernel
theorem dX12_mixes_69 : decode cX12_mixes 69 = .ok (.iinc 2 (-1), 3) := by decide +kernel
theorem dX12_mixes_72 : decode cX12_mixes 72 = .ok (.goto (-43), 3) := by decide +kernel
theorem dX12_mixes_75 : decode cX12_mixes 75 = .ok (.iconst 0, 1) := by decide +kernel
theorem dX12_mixes_76 : decode cX12_mixes 76 = .ok (.istore_n 2, 1) := by decide +kernel
theorem dX12_mixes_77 : decode cX12_mixes 77 = .ok (.iload_n 2, 1) := by decide +kernel
theorem dX12_mixes_78 : decode cX12_mixes 78 = .ok (.bipush 40, 2) := by decide +kernel
theorem dX12_mixes_80 : decode cX12_mixes 80 = .ok (.if_icmp .ge 16, 3) := by decide +kernel
theorem dX12_mixes_83 : decode cX12_mixes 83 = .ok (.aload_n 0, 1) := by decide +kernel
theorem dX12_mixes_84 : decode cX12_mixes 84 = .ok (.getfield 84, 3) := by decide +kernel
theorem dX12_mixes_87 : decode cX12_mixes 87 = .ok (.iload_n 2, 1) := by decide +kernel
theorem dX12_mixes_88 : decode cX12_mixes 88 = .ok (.iconst (-1), 1) := by decide +kernel
theorem dX12_mixes_89 : decode cX12_mixes 89 = .ok (.iastore, 1) := by decide +kernel
theorem dX12_mixes_90 : decode cX12_mixes 90 = .ok (.iinc 2 1, 3) := by decide +kernel
theorem dX12_mixes_93 : decode cX12_mixes 93 = .ok (.goto (-16), 3) := by decide +kernel
theorem dX12_mixes_96 : decode cX12_mixes 96 = .ok (.iconst 0, 1) := by decide +kernel
theorem dX12_mixes_97 : decode cX12_mixes 97 = .ok (.istore_n 2, 1) := by decide +kernel
theorem dX12_mixes_98 : decode cX12_mixes 98 = .ok (.iload_n 2, 1) := by decide +kernel
theorem dX12_mixes_99 : decode cX12_mixes 99 = .ok (.iload_n 1, 1) := by decide +kernel
theorem dX12_mixes_100 : decode cX12_mixes 100 = .ok (.if_icmp .ge 50, 3) := by decide +kernel
theorem dX12_mixes_103 : decode cX12_mixes 103 = .ok (.aload_n 0, 1) := by decide +kernel
theorem dX12_mixes_104 : decode cX12_mixes 104 = .ok (.getfield 84, 3) := by decide +kernel
theorem dX12_mixes_107 : decode cX12_mixes 107 = .ok (.aload_n 0, 1) := by decide +kernel
theorem dX12_mixes_108 : decode cX12_mixes 108 = .ok (.getfield 93, 3) := by decide +kernel
theorem dX12_mixes_111 : decode cX12_mixes 111 = .ok (.iload_n 2, 1) := by decide +kernel
theorem dX12_mixes_112 : decode cX12_mixes 112 = .ok (.iaload, 1) := by decide +kernel
theorem dX12_mixes_113 : decode cX12_mixes 113 = .ok (.aload_n 0, 1) := by decide +kernel
theorem dX12_mixes_114 : decode cX12_mixes 114 = .ok (.getfield 99, 3) := by decide +kernel
theorem dX12_mixes_117 : decode cX12_mixes 117 = .ok (.iload_n 2, 1) := by decide +kernel
theorem dX12_mixes_118 : decode cX12_mixes 118 = .ok (.iaload, 1) := by decide +kernel
theorem dX12_mixes_119 : decode cX12_mixes 119 = .ok (.iconst 5, 1) := by decide +kernel
theorem dX12_mixes_120 : decode cX12_mixes 120 = .ok (.idiv, 1) := by decide +kernel
theorem dX12_mixes_121 : decode cX12_mixes 121 = .ok (.iastore, 1) := by decide +kernel
theorem dX12_mixes_122 : decode cX12_mixes 122 = .ok (.aload_n 0, 1) := by decide +kernel
theorem dX12_mixes_123 : decode cX12_mixes 123 = .ok (.getfield 84, 3) := by decide +kernel
theorem dX12_mixes_126 : decode cX12_mixes 126 = .ok (.bipush 20, 2) := by decide +kernel
theorem dX12_mixes_128 : decode cX12_mixes 128 = .ok (.aload_n 0, 1) := by decide +kernel
theorem dX12_mixes_129 : decode cX12_mixes 129 = .ok (.getfield 93, 3) := by decide +kernel
theorem dX12_mixes_132 : decode cX12_mixes 132 = .ok (.iload_n 2, 1) := by decide +kernel
theorem dX12_mixes_133 : decode cX12_mixes 133 = .ok (.iaload, 1) := by decide +kernel
theorem dX12_mixes_134 : decode cX12_mixes 134 = .ok (.iadd, 1) := by decide +kernel
theorem dX12_mixes_135 : decode cX12_mixes 135 = .ok (.aload_n 0, 1) := by decide +kernel
theorem dX12_mixes_136 : decode cX12_mixes 136 = .ok (.getfield 99, 3) := by decide +kernel
theorem dX12_mixes_139 : decode cX12_mixes 139 = .ok (.iload_n 2, 1) := by decide +kernel
theorem dX12_mixes_140 : decode cX12_mixes 140 = .ok (.iaload, 1) := by decide +kernel
theorem dX12_mixes_141 : decode cX12_mixes 141 = .ok (.iconst 5, 1) := by decide +kernel
theorem dX12_mixes_142 : decode cX12_mixes 142 = .ok (.irem, 1) := by decide +kernel
theorem dX12_mixes_143 : decode cX12_mixes 143 = .ok (.iastore, 1) := by decide +kernel
theorem dX12_mixes_144 : decode cX12_mixes 144 = .ok (.iinc 2 1, 3) := by decide +kernel
theorem dX12_mixes_147 : decode cX12_mixes 147 = .ok (.goto (-49), 3) := by decide +kernel
theorem dX12_mixes_150 : decode cX12_mixes 150 = .ok (.return_, 1) := by decide +kernel
noncomputable def f_X12_mixes_L2 (x1 : Int32) (s : (ZMem × Int32)) : Option ((ZMem × Int32) ⊕ (ZMem)) := if x1 ≤ s.2 then some (.inr s.1) else zchk (zin s.2 20) (zchk (zin s.2 20) (zbnd (zstI s.1 30 (zix s.2) (s.1.1 29 (zix s.2))) (fun M_18 => zbnd (s.2 + (zI 1)) (fun x2_19 => some (.inl (M_18, x2_19))))))
set_option maxRecDepth 100000 in
set_option maxHeartbeats 4000000 in
theorem w_X12_mixes_L2 {E : ZEv} {G : ZG} {K : ZMem → Prop} (h : zRu lyR E G (zRv K) cX12_mixes RX12 5 none 1) (x1 : Int32) (s : (ZMem × Int32)) (hk : zOk (zloop (f_X12_mixes_L2 x1) s) (fun e => G e 25 [(0, zrf E 0), (1, .int x1)] [])) : G s.1 2 [(0, zrf E 0), (1, .int x1), (2, .int s.2)] [] := by
  refine zloop_walk (P := fun s => G s.1 2 [(0, zrf E 0), (1, .int x1), (2, .int s.2)] []) hk (fun s hk => ?_)
  unfold f_X12_mixes_L2 at hk
  refine zr_iload_n h dX12_mixes_2 2 rfl rfl ?_
  refine zr_iload_n h dX12_mixes_3 1 rfl rfl ?_
  refine zr_icmp_ge (tgt := 25) h dX12_mixes_4 (by decide) (fun c => ?_) (fun c => ?_)
  · have hk := zOk_t c hk
    have hk := zOk_some hk
    exact zr_weak h [0, 1] rfl hk
  · have hk := zOk_f c hk
    refine zr_aload_n h dX12_mixes_7 0 rfl rfl ?_
    refine zr_getR h zfo_X12_99 lR_0 rfl dX12_mixes_8 ?_
    refine zr_iload_n h dX12_mixes_11 2 rfl rfl ?_
    refine zr_aload_n h dX12_mixes_12 0 rfl rfl ?_
    refine zr_getR h zfo_X12_96 lR_0 rfl dX12_mixes_13 ?_
    refine zr_iload_n h dX12_mixes_16 2 rfl rfl ?_
    have hb := zOk_chk hk
    have hk := hb.2
    refine zr_iald h lR_29 hb.1 dX12_mixes_17 ?_
    have hb := zOk_chk hk
    have hk := hb.2
    refine zr_iast h lR_30 hb.1 dX12_mixes_18 ?_
    refine zr_mem (fun M_18 eM => ?_)
    have hk := zOk_bnd eM hk
    obtain ⟨x2_19, ex⟩ : ∃ y : Int32, y = s.2 + (zI 1) := ⟨_, rfl⟩
    have hk := zOk_bnd ex hk
    refine zr_iinc (v := x2_19) (L' := [(0, zrf E 0), (1, .int x1), (2, .int x2_19)]) h 2 [1, 2, 0] dX12_mixes_19 rfl (by rw [ex]; rfl) (by decide) rfl ?_
    refine zr_goto (tgt := 2) h dX12_mixes_22 (by decide) ?_
    have hk := zOk_some hk
    exact zr_weak h [0, 1, 2] rfl hk
noncomputable def f_X12_mixes_L29 (x1 : Int32) (s : (ZMem × Int32)) : Option ((ZMem × Int32) ⊕ (ZMem)) := if s.2 ≤ (zI 0) then some (.inr s.1) else zbind (f_X12_drawn s.1 (s.2 + (zI 1))) (fun r_37 => zchk (zin s.2 20) (zbnd (r_37.1.1 30 (zix s.2)) (fun x4_47 => zchk (zin r_37.2 20) (zchk (zin s.2 20) (zbnd (zstI r_37.1 30 (zix s.2) (r_37.1.1 30 (zix r_37.2))) (fun M_60 => zchk (zin r_37.2 20) (zbnd (zstI M_60 30 (zix r_37.2) x4_47) (fun M_68 => zbnd (s.2 + (zI (-1))) (fun x2_69 => some (.inl (M_68, x2_69)))))))))))
set_option maxRecDepth 100000 in
set_option maxHeartbeats 4000000 in
theorem w_X12_mixes_L29 {E : ZEv} {G : ZG} {K : ZMem → Prop} (h : zRu lyR E G (zRv K) cX12_mixes RX12 5 none 1) (x1 : Int32) (s : (ZMem × Int32)) (hk : zOk (zloop (f_X12_mixes_L29 x1) s) (fun e => G e 75 [(0, zrf E 0), (1, .int x1)] [])) : G s.1 29 [(0, zrf E 0), (1, .int x1), (2, .int s.2)] [] := by
  refine zloop_walk (P := fun s => G s.1 29 [(0, zrf E 0), (1, .int x1), (2, .int s.2)] []) hk (fun s hk => ?_)
  unfold f_X12_mixes_L29 at hk
  refine zr_iload_n h dX12_mixes_29 2 rfl rfl ?_
  refine zr_if_le (tgt := 75) h dX12_mixes_30 (by decide) (fun c => ?_) (fun c => ?_)
  · have hk := zOk_t c hk
    have hk := zOk_some hk
    exact zr_weak h [0, 1] rfl hk
  · have hk := zOk_f c hk
    refine zr_aload_n h dX12_mixes_33 0 rfl rfl ?_
    refine zr_iload_n h dX12_mixes_34 2 rfl rfl ?_
    refine zr_iconst (v := (zI 1)) h dX12_mixes_35 rfl ?_
    refine zr_iadd h dX12_mixes_36 ?_
    refine zr_callVm h lR_0 zcw_X12_408 (by decide) (c_X12_drawn E s.1 (s.2 + (zI 1)) _ (zOk_bind hk)) rfl rfl (Nat.le_of_ble_eq_true rfl) dX12_mixes_37 (fun r_37 hk => ?_)
    refine zr_istore_n (L' := [(0, zrf E 0), (1, .int x1), (2, .int s.2), (3, .int r_37.2)]) h [1, 2, 3, 0] dX12_mixes_40 rfl (by decide) rfl ?_
    refine zr_aload_n h dX12_mixes_41 0 rfl rfl ?_
    refine zr_getR h zfo_X12_99 lR_0 rfl dX12_mixes_42 ?_
    refine zr_iload_n h dX12_mixes_45 2 rfl rfl ?_
    have hb := zOk_chk hk
    have hk := hb.2
    refine zr_iald h lR_30 hb.1 dX12_mixes_46 ?_
    refine zr_topi (fun x4_47 ex => ?_)
    have hk := zOk_bnd ex hk
    refine zr_istore (L' := [(0, zrf E 0), (1, .int x1), (2, .int s.2), (3, .int r_37.2), (4, .int x4_47)]) h [1, 2, 3, 4, 0] dX12_mixes_47 (by decide) rfl ?_
    refine zr_aload_n h dX12_mixes_49 0 rfl rfl ?_
    refine zr_getR h zfo_X12_99 lR_0 rfl dX12_mixes_50 ?_
    refine zr_iload_n h dX12_mixes_53 2 rfl rfl ?_
    refine zr_aload_n h dX12_mixes_54 0 rfl rfl ?_
    refine zr_getR h zfo_X12_99 lR_0 rfl dX12_mixes_55 ?_
    refine zr_iload_n h dX12_mixes_58 3 rfl rfl ?_
    have hb := zOk_chk hk
    have hk := hb.2
    refine zr_iald h lR_30 hb.1 dX12_mixes_59 ?_
    have hb := zOk_chk hk
    have hk := hb.2
    refine zr_iast h lR_30 hb.1 dX12_mixes_60 ?_
    refine zr_mem (fun M_60 eM => ?_)
    have hk := zOk_bnd eM hk
    refine zr_aload_n h dX12_mixes_61 0 rfl rfl ?_
    refine zr_getR h zfo_X12_99 lR_0 rfl dX12_mixes_62 ?_
    refine zr_iload_n h dX12_mixes_65 3 rfl rfl ?_
    refine zr_iload h dX12_mixes_66 4 rfl ?_
    have hb := zOk_chk hk
    have hk := hb.2
    refine zr_iast h lR_30 hb.1 dX12_mixes_68 ?_
    refine zr_mem (fun M_68 eM => ?_)
    have hk := zOk_bnd eM hk
    obtain ⟨x2_69, ex⟩ : ∃ y : Int32, y = s.2 + (zI (-1)) := ⟨_, rfl⟩
    have hk := zOk_bnd ex hk
    refine zr_iinc (v := x2_69) (L' := [(0, zrf E 0), (1, .int x1), (2, .int x2_69)]) h 2 [1, 2, 0] dX12_mixes_69 rfl (by rw [ex]; rfl) (by decide) rfl ?_
    refine zr_goto (tgt := 29) h dX12_mixes_72 (by decide) ?_
    have hk := zOk_some hk
    exact zr_weak h [0, 1, 2] rfl hk
noncomputable def f_X12_mixes_L77 (x1 : Int32) (s : (ZMem × Int32)) : Option ((ZMem × Int32) ⊕ (ZMem)) := if (zI 40) ≤ s.2 then some (.inr s.1) else zchk (zin s.2 40) (zbnd (zstI s.1 25 (zix s.2) (zI (-1))) (fun M_89 => zbnd (s.2 + (zI 1)) (fun x2_90 => some (.inl (M_89, x2_90)))))
set_option maxRecDepth 100000 in
set_option maxHeartbeats 4000000 in
theorem w_X12_mixes_L77 {E : ZEv} {G : ZG} {K : ZMem → Prop} (h : zRu lyR E G (zRv K) cX12_mixes RX12 5 none 1) (x1 : Int32) (s : (ZMem × Int32)) (hk : zOk (zloop (f_X12_mixes_L77 x1) s) (fun e => G e 96 [(0, zrf E 0), (1, .int x1)] [])) : G s.1 77 [(0, zrf E 0), (1, .int x1), (2, .int s.2)] [] := by
  refine zloop_walk (P := fun s => G s.1 77 [(0, zrf E 0), (1, .int x1), (2, .int s.2)] []) hk (fun s hk => ?_)
  unfold f_X12_mixes_L77 at hk
  refine zr_iload_n h dX12_mixes_77 2 rfl rfl ?_
  refine zr_bipush (v := (zI 40)) h dX12_mixes_78 (by decide) ?_
  refine zr_icmp_ge (tgt := 96) h dX12_mixes_80 (by decide) (fun c => ?_) (fun c => ?_)
  · have hk := zOk_t c hk
    have hk := zOk_some hk
    exact zr_weak h [0, 1] rfl hk
  · have hk := zOk_f c hk
    refine zr_aload_n h dX12_mixes_83 0 rfl rfl ?_
    refine zr_getR h zfo_X12_84 lR_0 rfl dX12_mixes_84 ?_
    refine zr_iload_n h dX12_mixes_87 2 rfl rfl ?_
    refine zr_iconst (v := (zI (-1))) h dX12_mixes_88 rfl ?_
    have hb := zOk_chk hk
    have hk := hb.2
    refine zr_iast h lR_25 hb.1 dX12_mixes_89 ?_
    refine zr_mem (fun M_89 eM => ?_)
    have hk := zOk_bnd eM hk
    obtain ⟨x2_90, ex⟩ : ∃ y : Int32, y = s.2 + (zI 1) := ⟨_, rfl⟩
    have hk := zOk_bnd ex hk
    refine zr_iinc (v := x2_90) (L' := [(0, zrf E 0), (1, .int x1), (2, .int x2_90)]) h 2 [1, 2, 0] dX12_mixes_90 rfl (by rw [ex]; rfl) (by decide) rfl ?_
    refine zr_goto (tgt := 77) h dX12_mixes_93 (by decide) ?_
    have hk := zOk_some hk
    exact zr_weak h [0, 1, 2] rfl hk
noncomputable def f_X12_mixes_L98 (x1 : Int32) (s : (ZMem × Int32)) : Option ((ZMem × Int32) ⊕ (ZMem)) := if x1 ≤ s.2 then some (.inr s.1) else zchk (zin s.2 20) (zchk (zin s.2 20) (zchk (zin (s.1.1 28 (zix s.2)) 40) (zbnd (zstI s.1 25 (zix (s.1.1 28 (zix s.2))) ((s.1.1 30 (zix s.2)) / (zI 5))) (fun M_121 => zchk (zin s.2 20) (zchk (zin s.2 20) (zchk (zin ((zI 20) + (M_121.1 28 (zix s.2))) 40) (zbnd (zstI M_121 25 (zix ((zI 20) + (M_121.1 28 (zix s.2)))) ((M_121.1 30 (zix s.2)) - (M_121.1 30 (zix s.2)) / (zI 5) * (zI 5))) (fun M_143 => zbnd (s.2 + (zI 1)) (fun x2_144 => some (.inl (M_143, x2_144)))))))))))
set_option maxRecDepth 100000 in
set_option maxHeartbeats 4000000 in
theorem w_X12_mixes_L98 {E : ZEv} {G : ZG} {K : ZMem → Prop} (h : zRu lyR E G (zRv K) cX12_mixes RX12 5 none 1) (x1 : Int32) (s : (ZMem × Int32)) (hk : zOk (zloop (f_X12_mixes_L98 x1) s) (fun e => G e 150 [] [])) : G s.1 98 [(0, zrf E 0), (1, .int x1), (2, .int s.2)] [] := by
  refine zloop_walk (P := fun s => G s.1 98 [(0, zrf E 0), (1, .int x1), (2, .int s.2)] []) hk (fun s hk => ?_)
  unfold f_X12_mixes_L98 at hk
  refine zr_iload_n h dX12_mixes_98 2 rfl rfl ?_
  refine zr_iload_n h dX12_mixes_99 1 rfl rfl ?_
  refine zr_icmp_ge (tgt := 150) h dX12_mixes_100 (by decide) (fun c => ?_) (fun c => ?_)
  · have hk := zOk_t c hk
    have hk := zOk_some hk
    exact zr_weak h [] rfl hk
  · have hk := zOk_f c hk
    refine zr_aload_n h dX12_mixes_103 0 rfl rfl ?_
    refine zr_getR h zfo_X12_84 lR_0 rfl dX12_mixes_104 ?_
    refine zr_aload_n h dX12_mixes_107 0 rfl rfl ?_
    refine zr_getR h zfo_X12_93 lR_0 rfl dX12_mixes_108 ?_
    refine zr_iload_n h dX12_mixes_111 2 rfl rfl ?_
    have hb := zOk_chk hk
    have hk := hb.2
    refine zr_iald h lR_28 hb.1 dX12_mixes_112 ?_
    refine zr_aload_n h dX12_mixes_113 0 rfl rfl ?_
    refine zr_getR h zfo_X12_99 lR_0 rfl dX12_mixes_114 ?_
    refine zr_iload_n h dX12_mixes_117 2 rfl rfl ?_
    have hb := zOk_chk hk
    have hk := hb.2
    refine zr_iald h lR_30 hb.1 dX12_mixes_118 ?_
    refine zr_iconst (v := (zI 5)) h dX12_mixes_119 rfl ?_
    refine zr_idiv h dX12_mixes_120 (by decide) ?_
    have hb := zOk_chk hk
    have hk := hb.2
    refine zr_iast h lR_25 hb.1 dX12_mixes_121 ?_
    refine zr_mem (fun M_121 eM => ?_)
    have hk := zOk_bnd eM hk
    refine zr_aload_n h dX12_mixes_122 0 rfl rfl ?_
    refine zr_getR h zfo_X12_84 lR_0 rfl dX12_mixes_123 ?_
    refine zr_bipush (v := (zI 20)) h dX12_mixes_126 (by decide) ?_
    refine zr_aload_n h dX12_mixes_128 0 rfl rfl ?_
    refine zr_getR h zfo_X12_93 lR_0 rfl dX12_mixes_129 ?_
    refine zr_iload_n h dX12_mixes_132 2 rfl rfl ?_
    have hb := zOk_chk hk
    have hk := hb.2
    refine zr_iald h lR_28 hb.1 dX12_mixes_133 ?_
    refine zr_iadd h dX12_mixes_134 ?_
    refine zr_aload_n h dX12_mixes_135 0 rfl rfl ?_
    refine zr_getR h zfo_X12_99 lR_0 rfl dX12_mixes_136 ?_
    refine zr_iload_n h dX12_mixes_139 2 rfl rfl ?_
    have hb := zOk_chk hk
    have hk := hb.2
    refine zr_iald h lR_30 hb.1 dX12_mixes_140 ?_
    refine zr_iconst (v := (zI 5)) h dX12_mixes_141 rfl ?_
    refine zr_irem h dX12_mixes_142 (by decide) ?_
    have hb := zOk_chk hk
    have hk := hb.2
    refine zr_iast h lR_25 hb.1 dX12_mixes_143 ?_
    refine zr_mem (fun M_143 eM => ?_)
    have hk := zOk_bnd eM hk
    obtain ⟨x2_144, ex⟩ : ∃ y : Int32, y = s.2 + (zI 1) := ⟨_, rfl⟩
    have hk := zOk_bnd ex hk
    refine zr_iinc (v := x2_144) (L' := [(0, zrf E 0), (1, .int x1), (2, .int x2_144)]) h 2 [1, 2, 0] dX12_mixes_144 rfl (by rw [ex]; rfl) (by decide) rfl ?_
    refine zr_goto (tgt := 98) h dX12_mixes_147 (by decide) ?_
    have hk := zOk_some hk
    exact zr_weak h [0, 1, 2] rfl hk
noncomputable def f_X12_mixes (M : ZMem) (x1 : Int32) : Option ZMem := zbind (zloop (f_X12_mixes_L2 x1) (M, (zI 0))) (fun e2 => zbnd (x1 - (zI 1)) (fun x2_28 => zbind (zloop (f_X12_mixes_L29 x1) (e2, x2_28)) (fun e29 => zbind (zloop (f_X12_mixes_L77 x1) (e29, (zI 0))) (fun e77 => zbind (zloop (f_X12_mixes_L98 x1) (e77, (zI 0))) (fun e98 => some e98)))))
set_option maxRecDepth 100000 in
set_option maxHeartbeats 4000000 in
theorem c_X12_mixes (E : ZEv) (M : ZMem) (x1 : Int32) (K : ZMem → Prop) (hk : zOk (f_X12_mixes M x1) K) : zCon lyR E yX12_mixes cX12_mixes 5 none 1 [zrf E 0, .int x1] M (zRv K) := by
  refine zcon_of (L0 := [(0, zrf E 0), (1, .int x1)]) (by decide) rfl (Nat.le_of_ble_eq_true rfl) (fun G h => ?_)
  have h : zRu lyR E G (zRv K) cX12_mixes RX12 5 none 1 := h
  unfold f_X12_mixes at hk
  refine zr_iconst (v := (zI 0)) h dX12_mixes_0 rfl ?_
  refine zr_istore_n (L' := [(0, zrf E 0), (1, .int x1), (2, .int (zI 0))]) h [1, 2, 0] dX12_mixes_1 rfl (by decide) rfl ?_
  refine w_X12_mixes_L2 h x1 (M, (zI 0)) (zOk_mono (zOk_bind hk) (fun e2 hk => ?_))
  refine zr_iload_n h dX12_mixes_25 1 rfl rfl ?_
  refine zr_iconst (v := (zI 1)) h dX12_mixes_26 rfl ?_
  refine zr_isub h dX12_mixes_27 ?_
  refine zr_topi (fun x2_28 ex => ?_)
  have hk := zOk_bnd ex hk
  refine zr_istore_n (L' := [(0, zrf E 0), (1, .int x1), (2, .int x2_28)]) h [1, 2, 0] dX12_mixes_28 rfl (by decide) rfl ?_
  refine w_X12_mixes_L29 h x1 (e2, x2_28) (zOk_mono (zOk_bind hk) (fun e29 hk => ?_))
  refine zr_iconst (v := (zI 0)) h dX12_mixes_75 rfl ?_
  refine zr_istore_n (L' := [(0, zrf E 0), (1, .int x1), (2, .int (zI 0))]) h [1, 2, 0] dX12_mixes_76 rfl (by decide) rfl ?_
  refine w_X12_mixes_L77 h x1 (e29, (zI 0)) (zOk_mono (zOk_bind hk) (fun e77 hk => ?_))
  refine zr_iconst (v := (zI 0)) h dX12_mixes_96 rfl ?_
  refine zr_istore_n (L' := [(0, zrf E 0), (1, .int x1), (2, .int (zI 0))]) h [1, 2, 0] dX12_mixes_97 rfl (by decide) rfl ?_
  refine w_X12_mixes_L98 h x1 (e77, (zI 0)) (zOk_mono (zOk_bind hk) (fun e98 hk => ?_))
  have hk := zOk_some hk
  exact zr_vret h dX12_mixes_150 ⟨rfl, hk⟩
theorem dX12_test_0 : decode cX12_test 0 = .ok (.iload_n 1, 1) := by decide +kernel
theorem dX12_test_1 : decode cX12_test 1 = .ok (.iconst 1, 1) := by decide +kernel
theorem dX12_test_2 : decode cX12_test 2 = .ok (.bipush 50, 2) := by decide +kernel
theorem dX12_test_4 : decode cX12_test 4 = .ok (.invokestatic 123, 3) := by decide +kernel
theorem dX12_test_7 : decode cX12_test 7 = .ok (.ifCond .ne 5, 3) := by decide +kernel
theorem dX12_test_10 : decode cX12_test 10 = .ok (.iconst (-1), 1) := by decide +kernel
theorem dX12_test_11 : decode cX12_test 11 = .ok (.ireturn, 1) := by decide +kernel
theorem dX12_test_12 : decode cX12_test 12 = .ok (.aload_n 0, 1) := by decide +kernel
theorem dX12_test_13 : decode cX12_test 13 = .ok (.invokevirtual 235, 3) := by decide +kernel
theorem dX12_test_16 : decode cX12_test 16 = .ok (.aload_n 0, 1) := by decide +kernel
theorem dX12_test_17 : decode cX12_test 17 = .ok (.invokevirtual 380, 3) := by decide +kernel
theorem dX12_test_20 : decode cX12_test 20 = .ok (.istore_n 2, 1) := by decide +kernel
theorem dX12_test_21 : decode cX12_test 21 = .ok (.aload_n 0, 1) := by decide +kernel
theorem dX12_test_22 : decode cX12_test 22 = .ok (.invokevirtual 411, 3) := by decide +kernel
theorem dX12_test_25 : decode cX12_test 25 = .ok (.istore_n 3, 1) := by decide +kernel
theorem dX12_test_26 : decode cX12_test 26 = .ok (.aload_n 0, 1) := by decide +kernel
theorem dX12_test_27 : decode cX12_test 27 = .ok (.getfield 398, 3) := by decide +kernel
theorem dX12_test_30 : decode cX12_test 30 = .ok (.istore 4, 2) := by decide +kernel
theorem dX12_test_32 : decode cX12_test 32 = .ok (.iconst 0, 1) := by decide +kernel
theorem dX12_test_33 : decode cX12_test 33 = .ok (.istore 5, 2) := by decide +kernel
theorem dX12_test_35 : decode cX12_test 35 = .ok (.iconst 0, 1) := by decide +kernel
theorem dX12_test_36 : decode cX12_test 36 = .ok (.istore 6, 2) := by decide +kernel
theorem dX12_test_38 : decode cX12_test 38 = .ok (.iload 6, 2) := by decide +kernel
theorem dX12_test_40 : decode cX12_test 40 = .ok (.iload_n 1, 1) := by decide +kernel
theorem dX12_test_41 : decode cX12_test 41 = .ok (.if_icmp .ge 35, 3) := by decide +kernel
theorem dX12_test_44 : decode cX12_test 44 = .ok (.aload_n 0, 1) := by decide +kernel
theorem dX12_test_45 : decode cX12_test 45 = .ok (.iload_n 3, 1) := by decide +kernel
theorem dX12_test_46 : decode cX12_test 46 = .ok (.invokevirtual 414, 3) := by decide +kernel
theorem dX12_test_49 : decode cX12_test 49 = .ok (.iload 5, 2) := by decide +kernel
theorem dX12_test_51 : decode cX12_test 51 = .ok (.aload_n 0, 1) := by decide +kernel
theorem dX12_test_52 : decode cX12_test 52 = .ok (.invokevirtual 380, 3) := by decide +kernel
theorem dX12_test_55 : decode cX12_test 55 = .ok (.iload_n 2, 1) := by decide +kernel
theorem dX12_test_56 : decode cX12_test 56 = .ok (.if_icmp .lt 7, 3) := by decide +kernel
theorem dX12_test_59 : decode cX12_test 59 = .ok (.iconst 1, 1) := by decide +kernel
theorem dX12_test_60 : decode cX12_test 60 = .ok (.goto 4, 3) := by decide +kernel
theorem dX12_test_63 : decode cX12_test 63 = .ok (.iconst 0, 1) := by decide +kernel
theorem dX12_test_64 : decode cX12_test 64 = .ok (.invokestatic 177, 3) := by decide +kernel
theorem dX12_test_67 : decode cX12_test 67 = .ok (.iadd, 1) := by decide +kernel
theorem dX12_test_68 : decode cX12_test 68 = .ok (.istore 5, 2) := by decide +kernel
theorem dX12_test_70 : decode cX12_test 70 = .ok (.iinc 6 1, 3) := by decide +kernel
theorem dX12_test_73 : decode cX12_test 73 = .ok (.goto (-35), 3) := by decide +kernel
theorem dX12_test_76 : decode cX12_test 76 = .ok (.aload_n 0, 1) := by decide +kernel
theorem dX12_test_77 : decode cX12_test 77 = .ok (.iload 4, 2) := by decide +kernel
theorem dX12_test_79 : decode cX12_test 79 = .ok (.putfield 398, 3) := by decide +kernel
theorem dX12_test_82 : decode cX12_test 82 = .ok (.aload_n 0, 1) := by decide +kernel
theorem dX12_test_83 : decode cX12_test 83 = .ok (.invokevirtual 417, 3) := by decide +kernel
theorem dX12_test_86 : decode cX12_test 86 = .ok (.iload 5, 2) := by decide +kernel
theorem dX12_test_88 : decode cX12_test 88 = .ok (.ireturn, 1) := by decide +kernel
noncomputable def f_X12_test_64_L38 (M : ZMem) (x1 : Int32) (x2 : Int32) (x3 : Int32) (x4 : Int32) (x6 : Int32) (v0 : Int32) (v1 : Int32) : Option ((ZMem × Int32 × Int32) ⊕ (ZMem × Int32)) := zbind (f_X12_truth M v1) (fun r_64 => zbnd (v0 + r_64) (fun x5_68 => zbnd (x6 + (zI 1)) (fun x6_70 => some (.inl (M, x5_68, x6_70)))))
set_option maxRecDepth 100000 in
set_option maxHeartbeats 4000000 in
theorem w_X12_test_64_L38 {E : ZEv} {G : ZG} {K : (ZMem × Int32) → Prop} (h : zRu lyR E G (zRm K) cX12_test RX12 7 (some .int) 6) (M : ZMem) (x1 : Int32) (x2 : Int32) (x3 : Int32) (x4 : Int32) (x6 : Int32) (v0 : Int32) (v1 : Int32) (hk : zOk (f_X12_test_64_L38 M x1 x2 x3 x4 x6 v0 v1) (zlp (fun s => G s.1 38 [(0, zrf E 0), (1, .int x1), (2, .int x2), (3, .int x3), (4, .int x4), (5, .int s.2.1), (6, .int s.2.2)] []) (fun e => G e.1 76 [(0, zrf E 0), (4, .int x4), (5, .int e.2)] []))) : G M 64 [(0, zrf E 0), (1, .int x1), (2, .int x2), (3, .int x3), (4, .int x4), (6, .int x6)] [.int v1, .int v0] := by
  unfold f_X12_test_64_L38 at hk
  refine zr_callSp h zcw_X12_177 (by decide) (c_X12_truth E M v1 _ (zOk_bind hk)) rfl rfl (Nat.le_of_ble_eq_true rfl) dX12_test_64 (fun r_64 hk => ?_)
  refine zr_iadd h dX12_test_67 ?_
  refine zr_topi (fun x5_68 ex => ?_)
  have hk := zOk_bnd ex hk
  refine zr_istore (L' := [(0, zrf E 0), (1, .int x1), (2, .int x2), (3, .int x3), (4, .int x4), (5, .int x5_68), (6, .int x6)]) h [1, 2, 3, 4, 5, 0, 6] dX12_test_68 (by decide) rfl ?_
  obtain ⟨x6_70, ex⟩ : ∃ y : Int32, y = x6 + (zI 1) := ⟨_, rfl⟩
  have hk := zOk_bnd ex hk
  refine zr_iinc (v := x6_70) (L' := [(0, zrf E 0), (1, .int x1), (2, .int x2), (3, .int x3), (4, .int x4), (5, .int x5_68), (6, .int x6_70)]) h 6 [1, 2, 3, 4, 5, 6, 0] dX12_test_70 rfl (by rw [ex]; rfl) (by decide) rfl ?_
  refine zr_goto (tgt := 38) h dX12_test_73 (by decide) ?_
  have hk := zOk_some hk
  exact zr_weak h [0, 1, 2, 3, 4, 5, 6] rfl hk
noncomputable def f_X12_test_L38 (x1 : Int32) (x2 : Int32) (x3 : Int32) (x4 : Int32) (s : (ZMem × Int32 × Int32)) : Option ((ZMem × Int32 × Int32) ⊕ (ZMem × Int32)) := if x1 ≤ s.2.2 then some (.inr (s.1, s.2.1)) else zbind (f_X12_mixes s.1 x3) (fun M_46 => zbind (f_X12_hitsNow M_46) (fun r_52 => if r_52 < x2 then f_X12_test_64_L38 M_46 x1 x2 x3 x4 s.2.2 s.2.1 (zI 0) else f_X12_test_64_L38 M_46 x1 x2 x3 x4 s.2.2 s.2.1 (zI 1)))
set_option maxRecDepth 100000 in
set_option maxHeartbeats 4000000 in
theorem w_X12_test_L38 {E : ZEv} {G : ZG} {K : (ZMem × Int32) → Prop} (h : zRu lyR E G (zRm K) cX12_test RX12 7 (some .int) 6) (x1 : Int32) (x2 : Int32) (x3 : Int32) (x4 : Int32) (s : (ZMem × Int32 × Int32)) (hk : zOk (zloop (f_X12_test_L38 x1 x2 x3 x4) s) (fun e => G e.1 76 [(0, zrf E 0), (4, .int x4), (5, .int e.2)] [])) : G s.1 38 [(0, zrf E 0), (1, .int x1), (2, .int x2), (3, .int x3), (4, .int x4), (5, .int s.2.1), (6, .int s.2.2)] [] := by
  refine zloop_walk (P := fun s => G s.1 38 [(0, zrf E 0), (1, .int x1), (2, .int x2), (3, .int x3), (4, .int x4), (5, .int s.2.1), (6, .int s.2.2)] []) hk (fun s hk => ?_)
  unfold f_X12_test_L38 at hk
  refine zr_iload h dX12_test_38 6 rfl ?_
  refine zr_iload_n h dX12_test_40 1 rfl rfl ?_
  refine zr_icmp_ge (tgt := 76) h dX12_test_41 (by decide) (fun c => ?_) (fun c => ?_)
  · have hk := zOk_t c hk
    have hk := zOk_some hk
    exact zr_weak h [0, 4, 5] rfl hk
  · have hk := zOk_f c hk
    refine zr_aload_n h dX12_test_44 0 rfl rfl ?_
    refine zr_iload_n h dX12_test_45 3 rfl rfl ?_
    refine zr_callVv h lR_0 zcw_X12_414 (by decide) (c_X12_mixes E s.1 x3 _ (zOk_bind hk)) rfl rfl (Nat.le_of_ble_eq_true rfl) dX12_test_46 (fun M_46 hk => ?_)
    refine zr_iload h dX12_test_49 5 rfl ?_
    refine zr_aload_n h dX12_test_51 0 rfl rfl ?_
    refine zr_callVp h lR_0 zcw_X12_380 (by decide) (c_X12_hitsNow E M_46 _ (zOk_bind hk)) rfl rfl (Nat.le_of_ble_eq_true rfl) dX12_test_52 (fun r_52 hk => ?_)
    refine zr_iload_n h dX12_test_55 2 rfl rfl ?_
    refine zr_icmp_lt (tgt := 63) h dX12_test_56 (by decide) (fun c => ?_) (fun c => ?_)
    · have hk := zOk_t c hk
      refine zr_iconst (v := (zI 0)) h dX12_test_63 rfl ?_
      exact zr_weak h [0, 1, 2, 3, 4, 6] rfl (w_X12_test_64_L38 h M_46 x1 x2 x3 x4 s.2.2 s.2.1 (zI 0) hk)
    · have hk := zOk_f c hk
      refine zr_iconst (v := (zI 1)) h dX12_test_59 rfl ?_
      refine zr_goto (tgt := 64) h dX12_test_60 (by decide) ?_
      exact zr_weak h [0, 1, 2, 3, 4, 6] rfl (w_X12_test_64_L38 h M_46 x1 x2 x3 x4 s.2.2 s.2.1 (zI 1) hk)
noncomputable def f_X12_test (M : ZMem) (x1 : Int32) : Option (ZMem × Int32) := zbind (f_X12_in M x1 (zI 1) (zI 50)) (fun r_4 => if r_4 = (zI 0) then some (M, (zI (-1))) else zbind (f_X12_lays M) (fun M_13 => zbind (f_X12_hitsNow M_13) (fun r_17 => zbind (f_X12_laysWhole M_13) (fun r_22 => zbnd (r_22.1.1 0 41) (fun x4_30 => zbind (zloop (f_X12_test_L38 x1 r_17 r_22.2 x4_30) (r_22.1, (zI 0), (zI 0))) (fun e38 => zbnd (zstI e38.1 0 41 x4_30) (fun M_79 => zbind (f_X12_laysKnown M_79) (fun M_83 => some (M_83, e38.2)))))))))
set_option maxRecDepth 100000 in
set_option maxHeartbeats 4000000 in
theorem c_X12_test (E : ZEv) (M : ZMem) (x1 : Int32) (K : ZMem × Int32 → Prop) (hk : zOk (f_X12_test M x1) K) : zCon lyR E yX12_test cX12_test 7 (some .int) 6 [zrf E 0, .int x1] M (zRm K) := by
  refine zcon_of (L0 := [(0, zrf E 0), (1, .int x1)]) (by decide) rfl (Nat.le_of_ble_eq_true rfl) (fun G h => ?_)
  have h : zRu lyR E G (zRm K) cX12_test RX12 7 (some .int) 6 := h
  unfold f_X12_test at hk
  refine zr_iload_n h dX12_test_0 1 rfl rfl ?_
  refine zr_iconst (v := (zI 1)) h dX12_test_1 rfl ?_
  refine zr_bipush (v := (zI 50)) h dX12_test_2 (by decide) ?_
  refine zr_callSp h zcw_X12_123 (by decide) (c_X12_in E M x1 (zI 1) (zI 50) _ (zOk_bind hk)) rfl rfl (Nat.le_of_ble_eq_true rfl) dX12_test_4 (fun r_4 hk => ?_)
  refine zr_if_ne (tgt := 12) h dX12_test_7 (by decide) (fun c => ?_) (fun c => ?_)
  · have hk := zOk_t c hk
    refine zr_iconst (v := (zI (-1))) h dX12_test_10 rfl ?_
    have hk := zOk_some hk
    exact zr_iret h dX12_test_11 ⟨_, rfl, hk⟩
  · have hk := zOk_f c hk
    refine zr_aload_n h dX12_test_12 0 rfl rfl ?_
    refine zr_callVv h lR_0 zcw_X12_235 (by decide) (c_X12_lays E M _ (zOk_bind hk)) rfl rfl (Nat.le_of_ble_eq_true rfl) dX12_test_13 (fun M_13 hk => ?_)
    refine zr_aload_n h dX12_test_16 0 rfl rfl ?_
    refine zr_callVp h lR_0 zcw_X12_380 (by decide) (c_X12_hitsNow E M_13 _ (zOk_bind hk)) rfl rfl (Nat.le_of_ble_eq_true rfl) dX12_test_17 (fun r_17 hk => ?_)
    refine zr_istore_n (L' := [(0, zrf E 0), (1, .int x1), (2, .int r_17)]) h [1, 2, 0] dX12_test_20 rfl (by decide) rfl ?_
    refine zr_aload_n h dX12_test_21 0 rfl rfl ?_
    refine zr_callVm h lR_0 zcw_X12_411 (by decide) (c_X12_laysWhole E M_13 _ (zOk_bind hk)) rfl rfl (Nat.le_of_ble_eq_true rfl) dX12_test_22 (fun r_22 hk => ?_)
    refine zr_istore_n (L' := [(0, zrf E 0), (1, .int x1), (2, .int r_17), (3, .int r_22.2)]) h [1, 2, 3, 0] dX12_test_25 rfl (by decide) rfl ?_
    refine zr_aload_n h dX12_test_26 0 rfl rfl ?_
    refine zr_getI h zfo_X12_398 lR_0 rfl dX12_test_27 ?_
    refine zr_topi (fun x4_30 ex => ?_)
    have hk := zOk_bnd ex hk
    refine zr_istore (L' := [(0, zrf E 0), (1, .int x1), (2, .int r_17), (3, .int r_22.2), (4, .int x4_30)]) h [1, 2, 3, 4, 0] dX12_test_30 (by decide) rfl ?_
    refine zr_iconst (v := (zI 0)) h dX12_test_32 rfl ?_
    refine zr_istore (L' := [(0, zrf E 0), (1, .int x1), (2, .int r_17), (3, .int r_22.2), (4, .int x4_30), (5, .int (zI 0))]) h [1, 2, 3, 4, 5, 0] dX12_test_33 (by decide) rfl ?_
    refine zr_iconst (v := (zI 0)) h dX12_test_35 rfl ?_
    refine zr_istore (L' := [(0, zrf E 0), (1, .int x1), (2, .int r_17), (3, .int r_22.2), (4, .int x4_30), (5, .int (zI 0)), (6, .int (zI 0))]) h [1, 2, 3, 4, 5, 6, 0] dX12_test_36 (by decide) rfl ?_
    refine w_X12_test_L38 h x1 r_17 r_22.2 x4_30 (r_22.1, (zI 0), (zI 0)) (zOk_mono (zOk_bind hk) (fun e38 hk => ?_))
    refine zr_aload_n h dX12_test_76 0 rfl rfl ?_
    refine zr_iload h dX12_test_77 1 rfl ?_
    refine zr_putI h zfp_X12_398 lR_0 rfl dX12_test_79 ?_
    refine zr_mem (fun M_79 eM => ?_)
    have hk := zOk_bnd eM hk
    refine zr_aload_n h dX12_test_82 0 rfl rfl ?_
    refine zr_callVv h lR_0 zcw_X12_417 (by decide) (c_X12_laysKnown E M_79 _ (zOk_bind hk)) rfl rfl (Nat.le_of_ble_eq_true rfl) dX12_test_83 (fun M_83 hk => ?_)
    refine zr_iload h dX12_test_86 2 rfl ?_
    have hk := zOk_some hk
    exact zr_iret h dX12_test_88 ⟨_, rfl, hk⟩
theorem dX12_groups_0 : decode cX12_groups 0 = .ok (.iconst 0, 1) := by decide +kernel
theorem dX12_groups_1 : decode cX12_groups 1 = .ok (.istore_n 2, 1) := by decide +kernel
theorem dX12_groups_2 : decode cX12_groups 2 = .ok (.iconst 0, 1) := by decide +kernel
theorem dX12_groups_3 : decode cX12_groups 3 = .ok (.istore_n 3, 1) := by decide +kernel
theorem dX12_groups_4 : decode cX12_groups 4 = .ok (.iload_n 3, 1) := by decide +kernel
theorem dX12_groups_5 : decode cX12_groups 5 = .ok (.aload_n 0, 1) := by decide +kernel
theorem dX12_groups_6 : decode cX12_groups 6 = .ok (.getfield 162, 3) := by decide +kernel
theorem dX12_groups_9 : decode cX12_groups 9 = .ok (.if_icmp .ge 35, 3) := by decide +kernel
theorem dX12_groups_12 : decode cX12_groups 12 = .ok (.iload_n 2, 1) := by decide +kernel
theorem dX12_groups_13 : decode cX12_groups 13 = .ok (.aload_n 0, 1) := by decide +kernel
theorem dX12_groups_14 : decode cX12_groups 14 = .ok (.getfield 78, 3) := by decide +kernel
theorem dX12_groups_17 : decode cX12_groups 17 = .ok (.bipush 20, 2) := by decide +kernel
theorem dX12_groups_19 : decode cX12_groups 19 = .ok (.iload_n 1, 1) := by decide +kernel
theorem dX12_groups_20 : decode cX12_groups 20 = .ok (.imul, 1) := by decide +kernel
theorem dX12_groups_21 : decode cX12_groups 21 = .ok (.iload_n 3, 1) := by decide +kernel
theorem dX12_groups_22 : decode cX12_groups 22 = .ok (.iadd, 1) := by decide +kernel
theorem dX12_groups_23 : decode cX12_groups 23 = .ok (.iaload, 1) := by decide +kernel
theorem dX12_groups_24 : decode cX12_groups 24 = .ok (.iload_n 3, 1) := by decide +kernel
theorem dX12_groups_25 : decode cX12_groups 25 = .ok (.if_icmp .ne 7, 3) := by decide +kernel
theorem dX12_groups_28 : decode cX12_groups 28 = .ok (.iconst 1, 1) := by decide +kernel
theorem dX12_groups_29 : decode cX12_groups 29 = .ok (.goto 4, 3) := by decide +kernel
theorem dX12_groups_32 : decode cX12_groups 32 = .ok (.iconst 0, 1) := by decide +kernel
theorem dX12_groups_33 : decode cX12_groups 33 = .ok (.invokestatic 177, 3) := by decide +kernel
theorem dX12_groups_36 : decode cX12_groups 36 = .ok (.iadd, 1) := by decide +kernel
theorem dX12_groups_37 : decode cX12_groups 37 = .ok (.istore_n 2, 1) := by decide +kernel
theorem dX12_groups_38 : decode cX12_groups 38 = .ok (.iinc 3 1, 3) := by decide +kernel
theorem dX12_groups_41 : decode cX12_groups 41 = .ok (.goto (-37), 3) := by decide +kernel
theorem dX12_groups_44 : decode cX12_groups 44 = .ok (.iload_n 2, 1) := by decide +kernel
theorem dX12_groups_45 : decode cX12_groups 45 = .ok (.ireturn, 1) := by decide +kernel
noncomputable def f_X12_groups_33_L4 (M : ZMem) (x1 : Int32) (x3 : Int32) (v0 : Int32) (v1 : Int32) : Option ((Int32 × Int32) ⊕ (Int32)) := zbind (f_X12_truth M v1) (fun r_33 => zbnd (v0 + r_33) (fun x2_37 => zbnd (x3 + (zI 1)) (fun x3_38 => some (.inl (x2_37, x3_38)))))
set_option maxRecDepth 100000 in
set_option maxHeartbeats 4000000 in
theorem w_X12_groups_33_L4 {E : ZEv} {G : ZG} {K : Int32 → Prop} (M : ZMem) (h : zRu lyR E G (zRp M K) cX12_groups RX12 4 (some .int) 1) (x1 : Int32) (x3 : Int32) (v0 : Int32) (v1 : Int32) (hk : zOk (f_X12_groups_33_L4 M x1 x3 v0 v1) (zlp (fun s => G M 4 [(0, zrf E 0), (1, .int x1), (2, .int s.1), (3, .int s.2)] []) (fun e => G M 44 [(2, .int e)] []))) : G M 33 [(0, zrf E 0), (1, .int x1), (3, .int x3)] [.int v1, .int v0] := by
  unfold f_X12_groups_33_L4 at hk
  refine zr_callSp h zcw_X12_177 (by decide) (c_X12_truth E M v1 _ (zOk_bind hk)) rfl rfl (Nat.le_of_ble_eq_true rfl) dX12_groups_33 (fun r_33 hk => ?_)
  refine zr_iadd h dX12_groups_36 ?_
  refine zr_topi (fun x2_37 ex => ?_)
  have hk := zOk_bnd ex hk
  refine zr_istore_n (L' := [(0, zrf E 0), (1, .int x1), (2, .int x2_37), (3, .int x3)]) h [1, 2, 0, 3] dX12_groups_37 rfl (by decide) rfl ?_
  obtain ⟨x3_38, ex⟩ : ∃ y : Int32, y = x3 + (zI 1) := ⟨_, rfl⟩
  have hk := zOk_bnd ex hk
  refine zr_iinc (v := x3_38) (L' := [(0, zrf E 0), (1, .int x1), (2, .int x2_37), (3, .int x3_38)]) h 3 [1, 2, 3, 0] dX12_groups_38 rfl (by rw [ex]; rfl) (by decide) rfl ?_
  refine zr_goto (tgt := 4) h dX12_groups_41 (by decide) ?_
  have hk := zOk_some hk
  exact zr_weak h [0, 1, 2, 3] rfl hk
noncomputable def f_X12_groups_L4 (M : ZMem) (x1 : Int32) (s : (Int32 × Int32)) : Option ((Int32 × Int32) ⊕ (Int32)) := if (M.1 0 4) ≤ s.2 then some (.inr s.1) else zchk (zin (((zI 20) * x1) + s.2) 40) (if (M.1 23 (zix (((zI 20) * x1) + s.2))) = s.2 then f_X12_groups_33_L4 M x1 s.2 s.1 (zI 1) else f_X12_groups_33_L4 M x1 s.2 s.1 (zI 0))
set_option maxRecDepth 100000 in
set_option maxHeartbeats 4000000 in
theorem w_X12_groups_L4 {E : ZEv} {G : ZG} {K : Int32 → Prop} (M : ZMem) (h : zRu lyR E G (zRp M K) cX12_groups RX12 4 (some .int) 1) (x1 : Int32) (s : (Int32 × Int32)) (hk : zOk (zloop (f_X12_groups_L4 M x1) s) (fun e => G M 44 [(2, .int e)] [])) : G M 4 [(0, zrf E 0), (1, .int x1), (2, .int s.1), (3, .int s.2)] [] := by
  refine zloop_walk (P := fun s => G M 4 [(0, zrf E 0), (1, .int x1), (2, .int s.1), (3, .int s.2)] []) hk (fun s hk => ?_)
  unfold f_X12_groups_L4 at hk
  refine zr_iload_n h dX12_groups_4 3 rfl rfl ?_
  refine zr_aload_n h dX12_groups_5 0 rfl rfl ?_
  refine zr_getI h zfo_X12_162 lR_0 rfl dX12_groups_6 ?_
  refine zr_icmp_ge (tgt := 44) h dX12_groups_9 (by decide) (fun c => ?_) (fun c => ?_)
  · have hk := zOk_t c hk
    have hk := zOk_some hk
    exact zr_weak h [2] rfl hk
  · have hk := zOk_f c hk
    refine zr_iload_n h dX12_groups_12 2 rfl rfl ?_
    refine zr_aload_n h dX12_groups_13 0 rfl rfl ?_
    refine zr_getR h zfo_X12_78 lR_0 rfl dX12_groups_14 ?_
    refine zr_bipush (v := (zI 20)) h dX12_groups_17 (by decide) ?_
    refine zr_iload_n h dX12_groups_19 1 rfl rfl ?_
    refine zr_imul h dX12_groups_20 ?_
    refine zr_iload_n h dX12_groups_21 3 rfl rfl ?_
    refine zr_iadd h dX12_groups_22 ?_
    have hb := zOk_chk hk
    have hk := hb.2
    refine zr_iald h lR_23 hb.1 dX12_groups_23 ?_
    refine zr_iload_n h dX12_groups_24 3 rfl rfl ?_
    refine zr_icmp_ne (tgt := 32) h dX12_groups_25 (by decide) (fun c => ?_) (fun c => ?_)
    · have hk := zOk_t c hk
      refine zr_iconst (v := (zI 1)) h dX12_groups_28 rfl ?_
      refine zr_goto (tgt := 33) h dX12_groups_29 (by decide) ?_
      exact zr_weak h [0, 1, 3] rfl (w_X12_groups_33_L4 M h x1 s.2 s.1 (zI 1) hk)
    · have hk := zOk_f c hk
      refine zr_iconst (v := (zI 0)) h dX12_groups_32 rfl ?_
      exact zr_weak h [0, 1, 3] rfl (w_X12_groups_33_L4 M h x1 s.2 s.1 (zI 0) hk)
noncomputable def f_X12_groups (M : ZMem) (x1 : Int32) : Option Int32 := zbind (zloop (f_X12_groups_L4 M x1) ((zI 0), (zI 0))) (fun e4 => some e4)
set_option maxRecDepth 100000 in
set_option maxHeartbeats 4000000 in
theorem c_X12_groups (E : ZEv) (M : ZMem) (x1 : Int32) (K : Int32 → Prop) (hk : zOk (f_X12_groups M x1) K) : zCon lyR E yX12_groups cX12_groups 4 (some .int) 1 [zrf E 0, .int x1] M (zRp M K) := by
  refine zcon_of (L0 := [(0, zrf E 0), (1, .int x1)]) (by decide) rfl (Nat.le_of_ble_eq_true rfl) (fun G h => ?_)
  have h : zRu lyR E G (zRp M K) cX12_groups RX12 4 (some .int) 1 := h
  unfold f_X12_groups at hk
  refine zr_iconst (v := (zI 0)) h dX12_groups_0 rfl ?_
  refine zr_istore_n (L' := [(0, zrf E 0), (1, .int x1), (2, .int (zI 0))]) h [1, 2, 0] dX12_groups_1 rfl (by decide) rfl ?_
  refine zr_iconst (v := (zI 0)) h dX12_groups_2 rfl ?_
  refine zr_istore_n (L' := [(0, zrf E 0), (1, .int x1), (2, .int (zI 0)), (3, .int (zI 0))]) h [1, 2, 3, 0] dX12_groups_3 rfl (by decide) rfl ?_
  refine w_X12_groups_L4 M h x1 ((zI 0), (zI 0)) (zOk_mono (zOk_bind hk) (fun e4 hk => ?_))
  refine zr_iload_n h dX12_groups_44 0 rfl rfl ?_
  have hk := zOk_some hk
  exact zr_iret h dX12_groups_45 ⟨rfl, _, rfl, hk⟩
theorem dX12_guesses_0 : decode cX12_guesses 0 = .ok (.iconst 0, 1) := by decide +kernel
theorem dX12_guesses_1 : decode cX12_guesses 1 = .ok (.istore_n 1, 1) := by decide +kernel
theorem dX12_guesses_2 : decode cX12_guesses 2 = .ok (.iconst 0, 1) := by decide +kernel
theorem dX12_guesses_3 : decode cX12_guesses 3 = .ok (.istore_n 2, 1) := by decide +kernel
theorem dX12_guesses_4 : decode cX12_guesses 4 = .ok (.iload_n 2, 1) := by decide +kernel
theorem dX12_guesses_5 : decode cX12_guesses 5 = .ok (.aload_n 0, 1) := by decide +kernel
theorem dX12_guesses_6 : decode cX12_guesses 6 = .ok (.getfield 162, 3) := by decide +kernel
theorem dX12_guesses_9 : decode cX12_guesses 9 = .ok (.if_icmp .ge 32, 3) := by decide +kernel
theorem dX12_guesses_12 : decode cX12_guesses 12 = .ok (.iload_n 1, 1) := by decide +kernel
theorem dX12_guesses_13 : decode cX12_guesses 13 = .ok (.aload_n 0, 1) := by decide +kernel
theorem dX12_guesses_14 : decode cX12_guesses 14 = .ok (.getfield 35, 3) := by decide +kernel
theorem dX12_guesses_17 : decode cX12_guesses 17 = .ok (.iconst 4, 1) := by decide +kernel
theorem dX12_guesses_18 : decode cX12_guesses 18 = .ok (.iload_n 2, 1) := by decide +kernel
theorem dX12_guesses_19 : decode cX12_guesses 19 = .ok (.iadd, 1) := by decide +kernel
theorem dX12_guesses_20 : decode cX12_guesses 20 = .ok (.iaload, 1) := by decide +kernel
theorem dX12_guesses_21 : decode cX12_guesses 21 = .ok (.iconst (-1), 1) := by decide +kernel
theorem dX12_guesses_22 : decode cX12_guesses 22 = .ok (.if_icmp .eq 7, 3) := by decide +kernel
theorem dX12_guesses_25 : decode cX12_guesses 25 = .ok (.iconst 1, 1) := by decide +kernel
theorem dX12_guesses_26 : decode cX12_guesses 26 = .ok (.goto 4, 3) := by decide +kernel
theorem dX12_guesses_29 : decode cX12_guesses 29 = .ok (.iconst 0, 1) := by decide +kernel
theorem dX12_guesses_30 : decode cX12_guesses 30 = .ok (.invokestatic 177, 3) := by decide +kernel
theorem dX12_guesses_33 : decode cX12_guesses 33 = .ok (.iadd, 1) := by decide +kernel
theorem dX12_guesses_34 : decode cX12_guesses 34 = .ok (.istore_n 1, 1) := by decide +kernel
theorem dX12_guesses_35 : decode cX12_guesses 35 = .ok (.iinc 2 1, 3) := by decide +kernel
theorem dX12_guesses_38 : decode cX12_guesses 38 = .ok (.goto (-34), 3) := by decide +kernel
theorem dX12_guesses_41 : decode cX12_guesses 41 = .ok (.iload_n 1, 1) := by decide +kernel
theorem dX12_guesses_42 : decode cX12_guesses 42 = .ok (.ireturn, 1) := by decide +kernel
noncomputable def f_X12_guesses_30_L4 (M : ZMem) (x2 : Int32) (v0 : Int32) (v1 : Int32) : Option ((Int32 × Int32) ⊕ (Int32)) := zbind (f_X12_truth M v1) (fun r_30 => zbnd (v0 + r_30) (fun x1_34 => zbnd (x2 + (zI 1)) (fun x2_35 => some (.inl (x1_34, x2_35)))))
set_option maxRecDepth 100000 in
set_option maxHeartbeats 4000000 in
theorem w_X12_guesses_30_L4 {E : ZEv} {G : ZG} {K : Int32 → Prop} (M : ZMem) (h : zRu lyR E G (zRp M K) cX12_guesses RX12 3 (some .int) 1) (x2 : Int32) (v0 : Int32) (v1 : Int32) (hk : zOk (f_X12_guesses_30_L4 M x2 v0 v1) (zlp (fun s => G M 4 [(0, zrf E 0), (1, .int s.1), (2, .int s.2)] []) (fun e => G M 41 [(1, .int e)] []))) : G M 30 [(0, zrf E 0), (2, .int x2)] [.int v1, .int v0] := by
  unfold f_X12_guesses_30_L4 at hk
  refine zr_callSp h zcw_X12_177 (by decide) (c_X12_truth E M v1 _ (zOk_bind hk)) rfl rfl (Nat.le_of_ble_eq_true rfl) dX12_guesses_30 (fun r_30 hk => ?_)
  refine zr_iadd h dX12_guesses_33 ?_
  refine zr_topi (fun x1_34 ex => ?_)
  have hk := zOk_bnd ex hk
  refine zr_istore_n (L' := [(0, zrf E 0), (1, .int x1_34), (2, .int x2)]) h [1, 0, 2] dX12_guesses_34 rfl (by decide) rfl ?_
  obtain ⟨x2_35, ex⟩ : ∃ y : Int32, y = x2 + (zI 1) := ⟨_, rfl⟩
  have hk := zOk_bnd ex hk
  refine zr_iinc (v := x2_35) (L' := [(0, zrf E 0), (1, .int x1_34), (2, .int x2_35)]) h 2 [1, 2, 0] dX12_guesses_35 rfl (by rw [ex]; rfl) (by decide) rfl ?_
  refine zr_goto (tgt := 4) h dX12_guesses_38 (by decide) ?_
  have hk := zOk_some hk
  exact zr_weak h [0, 1, 2] rfl hk
noncomputable def f_X12_guesses_L4 (M : ZMem) (s : (Int32 × Int32)) : Option ((Int32 × Int32) ⊕ (Int32)) := if (M.1 0 4) ≤ s.2 then some (.inr s.1) else zchk (zin ((zI 4) + s.2) 460) (if (M.1 9 (zix ((zI 4) + s.2))) = (zI (-1)) then f_X12_guesses_30_L4 M s.2 s.1 (zI 0) else f_X12_guesses_30_L4 M s.2 s.1 (zI 1))
set_option maxRecDepth 100000 in
set_option maxHeartbeats 4000000 in
theorem w_X12_guesses_L4 {E : ZEv} {G : ZG} {K : Int32 → Prop} (M : ZMem) (h : zRu lyR E G (zRp M K) cX12_guesses RX12 3 (some .int) 1) (s : (Int32 × Int32)) (hk : zOk (zloop (f_X12_guesses_L4 M) s) (fun e => G M 41 [(1, .int e)] [])) : G M 4 [(0, zrf E 0), (1, .int s.1), (2, .int s.2)] [] := by
  refine zloop_walk (P := fun s => G M 4 [(0, zrf E 0), (1, .int s.1), (2, .int s.2)] []) hk (fun s hk => ?_)
  unfold f_X12_guesses_L4 at hk
  refine zr_iload_n h dX12_guesses_4 2 rfl rfl ?_
  refine zr_aload_n h dX12_guesses_5 0 rfl rfl ?_
  refine zr_getI h zfo_X12_162 lR_0 rfl dX12_guesses_6 ?_
  refine zr_icmp_ge (tgt := 41) h dX12_guesses_9 (by decide) (fun c => ?_) (fun c => ?_)
  · have hk := zOk_t c hk
    have hk := zOk_some hk
    exact zr_weak h [1] rfl hk
  · have hk := zOk_f c hk
    refine zr_iload_n h dX12_guesses_12 1 rfl rfl ?_
    refine zr_aload_n h dX12_guesses_13 0 rfl rfl ?_
    refine zr_getR h zfo_X12_35 lR_0 rfl dX12_guesses_14 ?_
    refine zr_iconst (v := (zI 4)) h dX12_guesses_17 rfl ?_
    refine zr_iload_n h dX12_guesses_18 2 rfl rfl ?_
    refine zr_iadd h dX12_guesses_19 ?_
    have hb := zOk_chk hk
    have hk := hb.2
    refine zr_iald h lR_9 hb.1 dX12_guesses_20 ?_
    refine zr_iconst (v := (zI (-1))) h dX12_guesses_21 rfl ?_
    refine zr_icmp_eq (tgt := 29) h dX12_guesses_22 (by decide) (fun c => ?_) (fun c => ?_)
    · have hk := zOk_t c hk
      refine zr_iconst (v := (zI 0)) h dX12_guesses_29 rfl ?_
      exact zr_weak h [0, 2] rfl (w_X12_guesses_30_L4 M h s.2 s.1 (zI 0) hk)
    · have hk := zOk_f c hk
      refine zr_iconst (v := (zI 1)) h dX12_guesses_25 rfl ?_
      refine zr_goto (tgt := 30) h dX12_guesses_26 (by decide) ?_
      exact zr_weak h [0, 2] rfl (w_X12_guesses_30_L4 M h s.2 s.1 (zI 1) hk)
noncomputable def f_X12_guesses (M : ZMem) : Option Int32 := zbind (zloop (f_X12_guesses_L4 M) ((zI 0), (zI 0))) (fun e4 => some e4)
set_option maxRecDepth 100000 in
set_option maxHeartbeats 4000000 in
theorem c_X12_guesses (E : ZEv) (M : ZMem) (K : Int32 → Prop) (hk : zOk (f_X12_guesses M) K) : zCon lyR E yX12_guesses cX12_guesses 3 (some .int) 1 [zrf E 0] M (zRp M K) := by
  refine zcon_of (L0 := [(0, zrf E 0)]) (by decide) rfl (Nat.le_of_ble_eq_true rfl) (fun G h => ?_)
  have h : zRu lyR E G (zRp M K) cX12_guesses RX12 3 (some .int) 1 := h
  unfold f_X12_guesses at hk
  refine zr_iconst (v := (zI 0)) h dX12_guesses_0 rfl ?_
  refine zr_istore_n (L' := [(0, zrf E 0), (1, .int (zI 0))]) h [1, 0] dX12_guesses_1 rfl (by decide) rfl ?_
  refine zr_iconst (v := (zI 0)) h dX12_guesses_2 rfl ?_
  refine zr_istore_n (L' := [(0, zrf E 0), (1, .int (zI 0)), (2, .int (zI 0))]) h [1, 2, 0] dX12_guesses_3 rfl (by decide) rfl ?_
  refine w_X12_guesses_L4 M h ((zI 0), (zI 0)) (zOk_mono (zOk_bind hk) (fun e4 hk => ?_))
  refine zr_iload_n h dX12_guesses_41 0 rfl rfl ?_
  have hk := zOk_some hk
  exact zr_iret h dX12_guesses_42 ⟨rfl, _, rfl, hk⟩
theorem dX12_count_0 : decode cX12_count 0 = .ok (.aload_n 0, 1) := by decide +kernel
theorem dX12_count_1 : decode cX12_count 1 = .ok (.invokevirtual 235, 3) := by decide +kernel
theorem dX12_count_4 : decode cX12_count 4 = .ok (.iload_n 1, 1) := by decide +kernel
theorem dX12_count_5 : decode cX12_count 5 = .ok (.tableswitch 192 0 17 #[87, 92, 97, 102, 107, 117, 122, 129, 136, 143, 148, 154, 160, 165, 170, 177, 182, 187], 87) := by decide +kernel
theorem dX12_count_92 : decode cX12_count 92 = .ok (.aload_n 0, 1) := by decide +kernel
theorem dX12_count_93 : decode cX12_count 93 = .ok (.getfield 162, 3) := by decide +kernel
theorem dX12_count_96 : decode cX12_count 96 = .ok (.ireturn, 1) := by decide +kernel
theorem dX12_count_97 : decode cX12_count 97 = .ok (.aload_n 0, 1) := by decide +kernel
theorem dX12_count_98 : decode cX12_count 98 = .ok (.getfield 259, 3) := by decide +kernel
theorem dX12_count_101 : decode cX12_count 101 = .ok (.ireturn, 1) := by decide +kernel
theorem dX12_count_102 : decode cX12_count 102 = .ok (.aload_n 0, 1) := by decide +kernel
theorem dX12_count_103 : decode cX12_count 103 = .ok (.getfield 165, 3) := by decide +kernel
theorem dX12_count_106 : decode cX12_count 106 = .ok (.ireturn, 1) := by decide +kernel
theorem dX12_count_107 : decode cX12_count 107 = .ok (.aload_n 0, 1) := by decide +kernel
theorem dX12_count_108 : decode cX12_count 108 = .ok (.getfield 283, 3) := by decide +kernel
theorem dX12_count_111 : decode cX12_count 111 = .ok (.ireturn, 1) := by decide +kernel
theorem dX12_count_112 : decode cX12_count 112 = .ok (.aload_n 0, 1) := by decide +kernel
theorem dX12_count_113 : decode cX12_count 113 = .ok (.getfield 47, 3) := by decide +kernel
theorem dX12_count_116 : decode cX12_count 116 = .ok (.aload_n 0, 1) := by decide +kernel
theorem dX12_count_117 : decode cX12_count 117 = .ok (.getfield 283, 3) := by decide +kernel
theorem dX12_count_120 : decode cX12_count 120 = .ok (.iaload, 1) := by decide +kernel
theorem dX12_count_121 : decode cX12_count 121 = .ok (.ireturn, 1) := by decide +kernel
theorem dX12_count_122 : decode cX12_count 122 = .ok (.aload_n 0, 1) := by decide +kernel
theorem dX12_count_123 : decode cX12_count 123 = .ok (.getfield 311, 3) := by decide +kernel
theorem dX12_count_126 : decode cX12_count 126 = .ok (.ireturn, 1) := by decide +kernel
theorem dX12_count_127 : decode cX12_count 127 = .ok (.aload_n 0, 1) := by decide +kernel
theorem dX12_count_128 : decode cX12_count 128 = .ok (.getfield 35, 3) := by decide +kernel
theorem dX12_count_131 : decode cX12_count 131 = .ok (.iconst 0, 1) := by decide +kernel
theorem dX12_count_132 : decode cX12_count 132 = .ok (.iaload, 1) := by decide +kernel
theorem dX12_count_133 : decode cX12_count 133 = .ok (.ireturn, 1) := by decide +kernel
theorem dX12_count_134 : decode cX12_count 134 = .ok (.aload_n 0, 1) := by decide +kernel
theorem dX12_count_135 : decode cX12_count 135 = .ok (.getfield 35, 3) := by decide +kernel
theorem dX12_count_138 : decode cX12_count 138 = .ok (.iconst 1, 1) := by decide +kernel
theorem dX12_count_139 : decode cX12_count 139 = .ok (.iaload, 1) := by decide +kernel
theorem dX12_count_140 : decode cX12_count 140 = .ok (.ireturn, 1) := by decide +kernel
theorem dX12_count_141 : decode cX12_count 141 = .ok (.aload_n 0, 1) := by decide +kernel
theorem dX12_count_142 : decode cX12_count 142 = .ok (.getfield 35, 3) := by decide +kernel
theorem dX12_count_145 : decode cX12_count 145 = .ok (.iconst 2, 1) := by decide +kernel
theorem dX12_count_146 : decode cX12_count 146 = .ok (.iaload, 1) := by decide +kernel
theorem dX12_count_147 : decode cX12_count 147 = .ok (.ireturn, 1) := by decide +kernel
theorem dX12_count_148 : decode cX12_count 148 = .ok (.aload_n 0, 1) := by decide +kernel
theorem dX12_count_149 : decode cX12_count 149 = .ok (.getfield 203, 3) := by decide +kernel
theorem dX12_count_152 : decode cX12_count 152 = .ok (.ireturn, 1) := by decide +kernel
theorem dX12_count_153 : decode cX12_count 153 = .ok (.aload_n 0, 1) := by decide +kernel
theorem dX12_count_154 : decode cX12_count 154 = .ok (.iconst 0, 1) := by decide +kernel
theorem dX12_count_155 : decode cX12_count 155 = .ok (.invokevirtual 432, 3) := by decide +kernel
theorem dX12_count_158 : decode cX12_count 158 = .ok (.ireturn, 1) := by decide +kernel
theorem dX12_count_159 : decode cX12_count 159 = .ok (.aload_n 0, 1) := by decide +kernel
theorem dX12_count_160 : decode cX12_count 160 = .ok (.iconst 1, 1) := by decide +kernel
theorem dX12_count_161 : decode cX12_count 161 = .ok (.invokevirtual 432, 3) := by decide +kernel
theorem dX12_count_164 : decode cX12_count 164 = .ok (.ireturn, 1) := by decide +kernel
theorem dX12_count_165 : decode cX12_count 165 = .ok (.aload_n 0, 1) := by decide +kernel
theorem dX12_count_166 : decode cX12_count 166 = .ok (.invokevirtual 242, 3) := by decide +kernel
theorem dX12_count_169 : decode cX12_count 169 = .ok (.ireturn, 1) := by decide +kernel
theorem dX12_count_170 : decode cX12_count 170 = .ok (.aload_n 0, 1) := by decide +kernel
theorem dX12_count_171 : decode cX12_count 171 = .ok (.invokevirtual 435, 3) := by decide +kernel
theorem dX12_count_174 : decode cX12_count 174 = .ok (.ireturn, 1) := by decide +kernel
theorem dX12_count_175 : decode cX12_count 175 = .ok (.aload_n 0, 1) := by decide +kernel
theorem dX12_count_176 : decode cX12_count 176 = .ok (.getfield 35, 3) := by decide +kernel
theorem dX12_count_179 : decode cX12_count 179 = .ok (.iconst 3, 1) := by decide +kernel
theorem dX12_count_180 : decode cX12_count 180 = .ok (.iaload, 1) := by decide +kernel
theorem dX12_count_181 : decode cX12_count 181 = .ok (.ireturn, 1) := by decide +kernel
theorem dX12_count_182 : decode cX12_count 182 = .ok (.aload_n 0, 1) := by decide +kernel
theorem dX12_count_183 : decode cX12_count 183 = .ok (.getfield 181, 3) := by decide +kernel
theorem dX12_count_186 : decode cX12_count 186 = .ok (.ireturn, 1) := by decide +kernel
theorem dX12_count_187 : decode cX12_count 187 = .ok (.aload_n 0, 1) := by decide +kernel
theorem dX12_count_188 : decode cX12_count 188 = .ok (.getfield 398, 3) := by decide +kernel
theorem dX12_count_191 : decode cX12_count 191 = .ok (.ireturn, 1) := by decide +kernel
theorem dX12_count_192 : decode cX12_count 192 = .ok (.aload_n 0, 1) := by decide +kernel
theorem dX12_count_193 : decode cX12_count 193 = .ok (.getfield 105, 3) := by decide +kernel
theorem dX12_count_196 : decode cX12_count 196 = .ok (.ireturn, 1) := by decide +kernel
theorem dX12_count_197 : decode cX12_count 197 = .ok (.iconst (-1), 1) := by decide +kernel
theorem dX12_count_198 : decode cX12_count 198 = .ok (.ireturn, 1) := by decide +kernel
noncomputable def f_X12_count (M : ZMem) (x1 : Int32) : Option (ZMem × Int32) := zbind (f_X12_lays M) (fun M_1 => if x1 = (zI 0) then some (M_1, (M_1.1 0 4)) else (if x1 = (zI 1) then some (M_1, (M_1.1 0 19)) else (if x1 = (zI 2) then some (M_1, (M_1.1 0 8)) else (if x1 = (zI 3) then some (M_1, (M_1.1 0 23)) else (if x1 = (zI 4) then zchk (zin (M_1.1 0 23) 25) (some (M_1, (M_1.1 13 (zix (M_1.1 0 23))))) else (if x1 = (zI 5) then some (M_1, (M_1.1 0 26)) else (if x1 = (zI 6) then some (M_1, (M_1.1 9 (zix (zI 0)))) else (if x1 = (zI 7) then some (M_1, (M_1.1 9 (zix (zI 1)))) else (if x1 = (zI 8) then some (M_1, (M_1.1 9 (zix (zI 2)))) else (if x1 = (zI 9) then some (M_1, (M_1.1 0 12)) else (if x1 = (zI 10) then zbind (f_X12_groups M_1 (zI 0)) (fun r_155 => some (M_1, r_155)) else (if x1 = (zI 11) then zbind (f_X12_groups M_1 (zI 1)) (fun r_161 => some (M_1, r_161)) else (if x1 = (zI 12) then zbind (f_X12_disputedMany M_1) (fun r_166 => some (M_1, r_166)) else (if x1 = (zI 13) then zbind (f_X12_guesses M_1) (fun r_171 => some (M_1, r_171)) else (if x1 = (zI 14) then some (M_1, (M_1.1 9 (zix (zI 3)))) else (if x1 = (zI 15) then some (M_1, (M_1.1 0 17)) else (if x1 = (zI 16) then some (M_1, (M_1.1 0 41)) else (if x1 = (zI 17) then some (M_1, (M_1.1 0 1)) else (some (M_1, (zI (-1))))))))))))))))))))))
set_option maxRecDepth 100000 in
set_option maxHeartbeats 4000000 in
theorem c_X12_count (E : ZEv) (M : ZMem) (x1 : Int32) (K : ZMem × Int32 → Prop) (hk : zOk (f_X12_count M x1) K) : zCon lyR E yX12_count cX12_count 2 (some .int) 6 [zrf E 0, .int x1] M (zRm K) := by
  refine zcon_of (L0 := [(0, zrf E 0), (1, .int x1)]) (by decide) rfl (Nat.le_of_ble_eq_true rfl) (fun G h => ?_)
  have h : zRu lyR E G (zRm K) cX12_count RX12 2 (some .int) 6 := h
  unfold f_X12_count at hk
  refine zr_aload_n h dX12_count_0 0 rfl rfl ?_
  refine zr_callVv h lR_0 zcw_X12_235 (by decide) (c_X12_lays E M _ (zOk_bind hk)) rfl rfl (Nat.le_of_ble_eq_true rfl) dX12_count_1 (fun M_1 hk => ?_)
  refine zr_iload_n h dX12_count_4 1 rfl rfl ?_
  by_cases c0 : x1 = (zI 0)
  · have hk := zOk_t c0 hk
    refine zr_tabIn (tgt := 92) (off := 87) h dX12_count_5 (by rw [c0]; decide) (by rw [c0]; decide) (by rw [c0]; decide) (by decide) ?_
    refine zr_aload_n h dX12_count_92 0 rfl rfl ?_
    refine zr_getI h zfo_X12_162 lR_0 rfl dX12_count_93 ?_
    have hk := zOk_some hk
    exact zr_iret h dX12_count_96 ⟨_, rfl, hk⟩
  have hk := zOk_f c0 hk
  by_cases c1 : x1 = (zI 1)
  · have hk := zOk_t c1 hk
    refine zr_tabIn (tgt := 97) (off := 92) h dX12_count_5 (by rw [c1]; decide) (by rw [c1]; decide) (by rw [c1]; decide) (by decide) ?_
    refine zr_aload_n h dX12_count_97 0 rfl rfl ?_
    refine zr_getI h zfo_X12_259 lR_0 rfl dX12_count_98 ?_
    have hk := zOk_some hk
    exact zr_iret h dX12_count_101 ⟨_, rfl, hk⟩
  have hk := zOk_f c1 hk
  by_cases c2 : x1 = (zI 2)
  · have hk := zOk_t c2 hk
    refine zr_tabIn (tgt := 102) (off := 97) h dX12_count_5 (by rw [c2]; decide) (by rw [c2]; decide) (by rw [c2]; decide) (by decide) ?_
    refine zr_aload_n h dX12_count_102 0 rfl rfl ?_
    refine zr_getI h zfo_X12_165 lR_0 rfl dX12_count_103 ?_
    have hk := zOk_some hk
    exact zr_iret h dX12_count_106 ⟨_, rfl, hk⟩
  have hk := zOk_f c2 hk
  by_cases c3 : x1 = (zI 3)
  · have hk := zOk_t c3 hk
    refine zr_tabIn (tgt := 107) (off := 102) h dX12_count_5 (by rw [c3]; decide) (by rw [c3]; decide) (by rw [c3]; decide) (by decide) ?_
    refine zr_aload_n h dX12_count_107 0 rfl rfl ?_
    refine zr_getI h zfo_X12_283 lR_0 rfl dX12_count_108 ?_
    have hk := zOk_some hk
    exact zr_iret h dX12_count_111 ⟨_, rfl, hk⟩
  have hk := zOk_f c3 hk
  by_cases c4 : x1 = (zI 4)
  · have hk := zOk_t c4 hk
    refine zr_tabIn (tgt := 112) (off := 107) h dX12_count_5 (by rw [c4]; decide) (by rw [c4]; decide) (by rw [c4]; decide) (by decide) ?_
    refine zr_aload_n h dX12_count_112 0 rfl rfl ?_
    refine zr_getR h zfo_X12_47 lR_0 rfl dX12_count_113 ?_
    refine zr_aload_n h dX12_count_116 0 rfl rfl ?_
    refine zr_getI h zfo_X12_283 lR_0 rfl dX12_count_117 ?_
    have hb := zOk_chk hk
    have hk := hb.2
    refine zr_iald h lR_13 hb.1 dX12_count_120 ?_
    have hk := zOk_some hk
    exact zr_iret h dX12_count_121 ⟨_, rfl, hk⟩
  have hk := zOk_f c4 hk
  by_cases c5 : x1 = (zI 5)
  · have hk := zOk_t c5 hk
    refine zr_tabIn (tgt := 122) (off := 117) h dX12_count_5 (by rw [c5]; decide) (by rw [c5]; decide) (by rw [c5]; decide) (by decide) ?_
    refine zr_aload_n h dX12_count_122 0 rfl rfl ?_
    refine zr_getI h zfo_X12_311 lR_0 rfl dX12_count_123 ?_
    have hk := zOk_some hk
    exact zr_iret h dX12_count_126 ⟨_, rfl, hk⟩
  have hk := zOk_f c5 hk
  by_cases c6 : x1 = (zI 6)
  · have hk := zOk_t c6 hk
    refine zr_tabIn (tgt := 127) (off := 122) h dX12_count_5 (by rw [c6]; decide) (by rw [c6]; decide) (by rw [c6]; decide) (by decide) ?_
    refine zr_aload_n h dX12_count_127 0 rfl rfl ?_
    refine zr_getR h zfo_X12_35 lR_0 rfl dX12_count_128 ?_
    refine zr_iconst (v := (zI 0)) h dX12_count_131 rfl ?_
    refine zr_iald h lR_9 (by decide) dX12_count_132 ?_
    have hk := zOk_some hk
    exact zr_iret h dX12_count_133 ⟨_, rfl, hk⟩
  have hk := zOk_f c6 hk
  by_cases c7 : x1 = (zI 7)
  · have hk := zOk_t c7 hk
    refine zr_tabIn (tgt := 134) (off := 129) h dX12_count_5 (by rw [c7]; decide) (by rw [c7]; decide) (by rw [c7]; decide) (by decide) ?_
    refine zr_aload_n h dX12_count_134 0 rfl rfl ?_
    refine zr_getR h zfo_X12_35 lR_0 rfl dX12_count_135 ?_
    refine zr_iconst (v := (zI 1)) h dX12_count_138 rfl ?_
    refine zr_iald h lR_9 (by decide) dX12_count_139 ?_
    have hk := zOk_some hk
    exact zr_iret h dX12_count_140 ⟨_, rfl, hk⟩
  have hk := zOk_f c7 hk
  by_cases c8 : x1 = (zI 8)
  · have hk := zOk_t c8 hk
    refine zr_tabIn (tgt := 141) (off := 136) h dX12_count_5 (by rw [c8]; decide) (by rw [c8]; decide) (by rw [c8]; decide) (by decide) ?_
    refine zr_aload_n h dX12_count_141 0 rfl rfl ?_
    refine zr_getR h zfo_X12_35 lR_0 rfl dX12_count_142 ?_
    refine zr_iconst (v := (zI 2)) h dX12_count_145 rfl ?_
    refine zr_iald h lR_9 (by decide) dX12_count_146 ?_
    have hk := zOk_some hk
    exact zr_iret h dX12_count_147 ⟨_, rfl, hk⟩
  have hk := zOk_f c8 hk
  by_cases c9 : x1 = (zI 9)
  · have hk := zOk_t c9 hk
    refine zr_tabIn (tgt := 148) (off := 143) h dX12_count_5 (by rw [c9]; decide) (by rw [c9]; decide) (by rw [c9]; decide) (by decide) ?_
    refine zr_aload_n h dX12_count_148 0 rfl rfl ?_
    refine zr_getI h zfo_X12_203 lR_0 rfl dX12_count_149 ?_
    have hk := zOk_some hk
    exact zr_iret h dX12_count_152 ⟨_, rfl, hk⟩
  have hk := zOk_f c9 hk
  by_cases c10 : x1 = (zI 10)
  · have hk := zOk_t c10 hk
    refine zr_tabIn (tgt := 153) (off := 148) h dX12_count_5 (by rw [c10]; decide) (by rw [c10]; decide) (by rw [c10]; decide) (by decide) ?_
    refine zr_aload_n h dX12_count_153 0 rfl rfl ?_
    refine zr_iconst (v := (zI 0)) h dX12_count_154 rfl ?_
    refine zr_callVp h lR_0 zcw_X12_432 (by decide) (c_X12_groups E M_1 (zI 0) _ (zOk_bind hk)) rfl rfl (Nat.le_of_ble_eq_true rfl) dX12_count_155 (fun r_155 hk => ?_)
    have hk := zOk_some hk
    exact zr_iret h dX12_count_158 ⟨_, rfl, hk⟩
  have hk := zOk_f c10 hk
  by_cases c11 : x1 = (zI 11)
  · have hk := zOk_t c11 hk
    refine zr_tabIn (tgt := 159) (off := 154) h dX12_count_5 (by rw [c11]; decide) (by rw [c11]; decide) (by rw [c11]; decide) (by decide) ?_
    refine zr_aload_n h dX12_count_159 0 rfl rfl ?_
    refine zr_iconst (v := (zI 1)) h dX12_count_160 rfl ?_
    refine zr_callVp h lR_0 zcw_X12_432 (by decide) (c_X12_groups E M_1 (zI 1) _ (zOk_bind hk)) rfl rfl (Nat.le_of_ble_eq_true rfl) dX12_count_161 (fun r_161 hk => ?_)
    have hk := zOk_some hk
    exact zr_iret h dX12_count_164 ⟨_, rfl, hk⟩
  have hk := zOk_f c11 hk
  by_cases c12 : x1 = (zI 12)
  · have hk := zOk_t c12 hk
    refine zr_tabIn (tgt := 165) (off := 160) h dX12_count_5 (by rw [c12]; decide) (by rw [c12]; decide) (by rw [c12]; decide) (by decide) ?_
    refine zr_aload_n h dX12_count_165 0 rfl rfl ?_
    refine zr_callVp h lR_0 zcw_X12_242 (by decide) (c_X12_disputedMany E M_1 _ (zOk_bind hk)) rfl rfl (Nat.le_of_ble_eq_true rfl) dX12_count_166 (fun r_166 hk => ?_)
    have hk := zOk_some hk
    exact zr_iret h dX12_count_169 ⟨_, rfl, hk⟩
  have hk := zOk_f c12 hk
  by_cases c13 : x1 = (zI 13)
  · have hk := zOk_t c13 hk
    refine zr_tabIn (tgt := 170) (off := 165) h dX12_count_5 (by rw [c13]; decide) (by rw [c13]; decide) (by rw [c13]; decide) (by decide) ?_
    refine zr_aload_n h dX12_count_170 0 rfl rfl ?_
    refine zr_callVp h lR_0 zcw_X12_435 (by decide) (c_X12_guesses E M_1 _ (zOk_bind hk)) rfl rfl (Nat.le_of_ble_eq_true rfl) dX12_count_171 (fun r_171 hk => ?_)
    have hk := zOk_some hk
    exact zr_iret h dX12_count_174 ⟨_, rfl, hk⟩
  have hk := zOk_f c13 hk
  by_cases c14 : x1 = (zI 14)
  · have hk := zOk_t c14 hk
    refine zr_tabIn (tgt := 175) (off := 170) h dX12_count_5 (by rw [c14]; decide) (by rw [c14]; decide) (by rw [c14]; decide) (by decide) ?_
    refine zr_aload_n h dX12_count_175 0 rfl rfl ?_
    refine zr_getR h zfo_X12_35 lR_0 rfl dX12_count_176 ?_
    refine zr_iconst (v := (zI 3)) h dX12_count_179 rfl ?_
    refine zr_iald h lR_9 (by decide) dX12_count_180 ?_
    have hk := zOk_some hk
    exact zr_iret h dX12_count_181 ⟨_, rfl, hk⟩
  have hk := zOk_f c14 hk
  by_cases c15 : x1 = (zI 15)
  · have hk := zOk_t c15 hk
    refine zr_tabIn (tgt := 182) (off := 177) h dX12_count_5 (by rw [c15]; decide) (by rw [c15]; decide) (by rw [c15]; decide) (by decide) ?_
    refine zr_aload_n h dX12_count_182 0 rfl rfl ?_
    refine zr_getI h zfo_X12_181 lR_0 rfl dX12_count_183 ?_
    have hk := zOk_some hk
    exact zr_iret h dX12_count_186 ⟨_, rfl, hk⟩
  have hk := zOk_f c15 hk
  by_cases c16 : x1 = (zI 16)
  · have hk := zOk_t c16 hk
    refine zr_tabIn (tgt := 187) (off := 182) h dX12_count_5 (by rw [c16]; decide) (by rw [c16]; decide) (by rw [c16]; decide) (by decide) ?_
    refine zr_aload_n h dX12_count_187 0 rfl rfl ?_
    refine zr_getI h zfo_X12_398 lR_0 rfl dX12_count_188 ?_
    have hk := zOk_some hk
    exact zr_iret h dX12_count_191 ⟨_, rfl, hk⟩
  have hk := zOk_f c16 hk
  by_cases c17 : x1 = (zI 17)
  · have hk := zOk_t c17 hk
    refine zr_tabIn (tgt := 192) (off := 187) h dX12_count_5 (by rw [c17]; decide) (by rw [c17]; decide) (by rw [c17]; decide) (by decide) ?_
    refine zr_aload_n h dX12_count_192 0 rfl rfl ?_
    refine zr_getI h zfo_X12_105 lR_0 rfl dX12_count_193 ?_
    have hk := zOk_some hk
    exact zr_iret h dX12_count_196 ⟨_, rfl, hk⟩
  have hk := zOk_f c17 hk
  have hz : (x1).toInt ≠ 0 ∧ (x1).toInt ≠ 1 ∧ (x1).toInt ≠ 2 ∧ (x1).toInt ≠ 3 ∧ (x1).toInt ≠ 4 ∧ (x1).toInt ≠ 5 ∧ (x1).toInt ≠ 6 ∧ (x1).toInt ≠ 7 ∧ (x1).toInt ≠ 8 ∧ (x1).toInt ≠ 9 ∧ (x1).toInt ≠ 10 ∧ (x1).toInt ≠ 11 ∧ (x1).toInt ≠ 12 ∧ (x1).toInt ≠ 13 ∧ (x1).toInt ≠ 14 ∧ (x1).toInt ≠ 15 ∧ (x1).toInt ≠ 16 ∧ (x1).toInt ≠ 17 := ⟨zInt_ne c0, zInt_ne c1, zInt_ne c2, zInt_ne c3, zInt_ne c4, zInt_ne c5, zInt_ne c6, zInt_ne c7, zInt_ne c8, zInt_ne c9, zInt_ne c10, zInt_ne c11, zInt_ne c12, zInt_ne c13, zInt_ne c14, zInt_ne c15, zInt_ne c16, zInt_ne c17⟩
  refine zr_tabOut (tgt := 197) h dX12_count_5 (by omega) (by decide) ?_
  refine zr_iconst (v := (zI (-1))) h dX12_count_197 rfl ?_
  have hk := zOk_some hk
  exact zr_iret h dX12_count_198 ⟨_, rfl, hk⟩
