theorem dX12_copiesWord_0 : decode cX12_copiesWord 0 = .ok (.aload_n 0, 1) := by decide +kernel
theorem dX12_copiesWord_1 : decode cX12_copiesWord 1 = .ok (.getfield 56, 3) := by decide +kernel
theorem dX12_copiesWord_4 : decode cX12_copiesWord 4 = .ok (.iload_n 2, 1) := by decide +kernel
theorem dX12_copiesWord_5 : decode cX12_copiesWord 5 = .ok (.aload_n 0, 1) := by decide +kernel
theorem dX12_copiesWord_6 : decode cX12_copiesWord 6 = .ok (.getfield 56, 3) := by decide +kernel
theorem dX12_copiesWord_9 : decode cX12_copiesWord 9 = .ok (.iload_n 1, 1) := by decide +kernel
theorem dX12_copiesWord_10 : decode cX12_copiesWord 10 = .ok (.iaload, 1) := by decide +kernel
theorem dX12_copiesWord_11 : decode cX12_copiesWord 11 = .ok (.iastore, 1) := by decide +kernel
theorem dX12_copiesWord_12 : decode cX12_copiesWord 12 = .ok (.aload_n 0, 1) := by decide +kernel
theorem dX12_copiesWord_13 : decode cX12_copiesWord 13 = .ok (.getfield 62, 3) := by decide +kernel
theorem dX12_copiesWord_16 : decode cX12_copiesWord 16 = .ok (.iload_n 2, 1) := by decide +kernel
theorem dX12_copiesWord_17 : decode cX12_copiesWord 17 = .ok (.aload_n 0, 1) := by decide +kernel
theorem dX12_copiesWord_18 : decode cX12_copiesWord 18 = .ok (.getfield 62, 3) := by decide +kernel
theorem dX12_copiesWord_21 : decode cX12_copiesWord 21 = .ok (.iload_n 1, 1) := by decide +kernel
theorem dX12_copiesWord_22 : decode cX12_copiesWord 22 = .ok (.iaload, 1) := by decide +kernel
theorem dX12_copiesWord_23 : decode cX12_copiesWord 23 = .ok (.iastore, 1) := by decide +kernel
theorem dX12_copiesWord_24 : decode cX12_copiesWord 24 = .ok (.iconst 0, 1) := by decide +kernel
theorem dX12_copiesWord_25 : decode cX12_copiesWord 25 = .ok (.istore_n 3, 1) := by decide +kernel
theorem dX12_copiesWord_26 : decode cX12_copiesWord 26 = .ok (.iload_n 3, 1) := by decide +kernel
theorem dX12_copiesWord_27 : decode cX12_copiesWord 27 = .ok (.bipush 7, 2) := by decide +kernel
theorem dX12_copiesWord_29 : decode cX12_copiesWord 29 = .ok (.if_icmp .ge 31, 3) := by decide +kernel
theorem dX12_copiesWord_32 : decode cX12_copiesWord 32 = .ok (.aload_n 0, 1) := by decide +kernel
theorem dX12_copiesWord_33 : decode cX12_copiesWord 33 = .ok (.getfield 59, 3) := by decide +kernel
theorem dX12_copiesWord_36 : decode cX12_copiesWord 36 = .ok (.bipush 7, 2) := by decide +kernel
theorem dX12_copiesWord_38 : decode cX12_copiesWord 38 = .ok (.iload_n 2, 1) := by decide +kernel
theorem dX12_copiesWord_39 : decode cX12_copiesWord 39 = .ok (.imul, 1) := by decide +kernel
theorem dX12_copiesWord_40 : decode cX12_copiesWord 40 = .ok (.iload_n 3, 1) := by decide +kernel
theorem dX12_copiesWord_41 : decode cX12_copiesWord 41 = .ok (.iadd, 1) := by decide +kernel
theorem dX12_copiesWord_42 : decode cX12_copiesWord 42 = .ok (.aload_n 0, 1) := by decide +kernel
theorem dX12_copiesWord_43 : decode cX12_copiesWord 43 = .ok (.getfield 59, 3) := by decide +kernel
theorem dX12_copiesWord_46 : decode cX12_copiesWord 46 = .ok (.bipush 7, 2) := by decide +kernel
theorem dX12_copiesWord_48 : decode cX12_copiesWord 48 = .ok (.iload_n 1, 1) := by decide +kernel
theorem dX12_copiesWord_49 : decode cX12_copiesWord 49 = .ok (.imul, 1) := by decide +kernel
theorem dX12_copiesWord_50 : decode cX12_copiesWord 50 = .ok (.iload_n 3, 1) := by decide +kernel
theorem dX12_copiesWord_51 : decode cX12_copiesWord 51 = .ok (.iadd, 1) := by decide +kernel
theorem dX12_copiesWord_52 : decode cX12_copiesWord 52 = .ok (.iaload, 1) := by decide +kernel
theorem dX12_copiesWord_53 : decode cX12_copiesWord 53 = .ok (.iastore, 1) := by decide +kernel
theorem dX12_copiesWord_54 : decode cX12_copiesWord 54 = .ok (.iinc 3 1, 3) := by decide +kernel
theorem dX12_copiesWord_57 : decode cX12_copiesWord 57 = .ok (.goto (-31), 3) := by decide +kernel
theorem dX12_copiesWord_60 : decode cX12_copiesWord 60 = .ok (.return_, 1) := by decide +kernel
noncomputable def f_X12_copiesWord_L26 (x1 : Int32) (x2 : Int32) (s : (ZMem × Int32)) : Option ((ZMem × Int32) ⊕ (ZMem)) := if (zI 7) ≤ s.2 then some (.inr s.1) else zchk (zin (((zI 7) * x1) + s.2) 1687) (zchk (zin (((zI 7) * x2) + s.2) 1687) (zbnd (zstI s.1 17 (zix (((zI 7) * x2) + s.2)) (s.1.1 17 (zix (((zI 7) * x1) + s.2)))) (fun M_53 => zbnd (s.2 + (zI 1)) (fun x3_54 => some (.inl (M_53, x3_54))))))
set_option maxRecDepth 100000 in
set_option maxHeartbeats 4000000 in
theorem w_X12_copiesWord_L26 {E : ZEv} {G : ZG} {K : ZMem → Prop} (h : zRu lyR E G (zRv K) cX12_copiesWord RX12 4 none 0) (x1 : Int32) (x2 : Int32) (s : (ZMem × Int32)) (hk : zOk (zloop (f_X12_copiesWord_L26 x1 x2) s) (fun e => G e 60 [] [])) : G s.1 26 [(0, zrf E 0), (1, .int x1), (2, .int x2), (3, .int s.2)] [] := by
  refine zloop_walk (P := fun s => G s.1 26 [(0, zrf E 0), (1, .int x1), (2, .int x2), (3, .int s.2)] []) hk (fun s hk => ?_)
  unfold f_X12_copiesWord_L26 at hk
  refine zr_iload_n h dX12_copiesWord_26 3 rfl rfl ?_
  refine zr_bipush (v := (zI 7)) h dX12_copiesWord_27 (by decide) ?_
  refine zr_icmp_ge (tgt := 60) h dX12_copiesWord_29 (by decide) (fun c => ?_) (fun c => ?_)
  · have hk := zOk_t c hk
    have hk := zOk_some hk
    exact zr_weak h [] rfl hk
  · have hk := zOk_f c hk
    refine zr_aload_n h dX12_copiesWord_32 0 rfl rfl ?_
    refine zr_getR h zfo_X12_59 lR_0 rfl dX12_copiesWord_33 ?_
    refine zr_bipush (v := (zI 7)) h dX12_copiesWord_36 (by decide) ?_
    refine zr_iload_n h dX12_copiesWord_38 2 rfl rfl ?_
    refine zr_imul h dX12_copiesWord_39 ?_
    refine zr_iload_n h dX12_copiesWord_40 3 rfl rfl ?_
    refine zr_iadd h dX12_copiesWord_41 ?_
    refine zr_aload_n h dX12_copiesWord_42 0 rfl rfl ?_
    refine zr_getR h zfo_X12_59 lR_0 rfl dX12_copiesWord_43 ?_
    refine zr_bipush (v := (zI 7)) h dX12_copiesWord_46 (by decide) ?_
    refine zr_iload_n h dX12_copiesWord_48 1 rfl rfl ?_
    refine zr_imul h dX12_copiesWord_49 ?_
    refine zr_iload_n h dX12_copiesWord_50 3 rfl rfl ?_
    refine zr_iadd h dX12_copiesWord_51 ?_
    have hb := zOk_chk hk
    have hk := hb.2
    refine zr_iald h lR_17 hb.1 dX12_copiesWord_52 ?_
    have hb := zOk_chk hk
    have hk := hb.2
    refine zr_iast h lR_17 hb.1 dX12_copiesWord_53 ?_
    refine zr_mem (fun M_53 eM => ?_)
    have hk := zOk_bnd eM hk
    obtain ⟨x3_54, ex⟩ : ∃ y : Int32, y = s.2 + (zI 1) := ⟨_, rfl⟩
    have hk := zOk_bnd ex hk
    refine zr_iinc (v := x3_54) (L' := [(0, zrf E 0), (1, .int x1), (2, .int x2), (3, .int x3_54)]) h 3 [1, 2, 3, 0] dX12_copiesWord_54 rfl (by rw [ex]; rfl) (by decide) rfl ?_
    refine zr_goto (tgt := 26) h dX12_copiesWord_57 (by decide) ?_
    have hk := zOk_some hk
    exact zr_weak h [0, 1, 2, 3] rfl hk
noncomputable def f_X12_copiesWord (M : ZMem) (x1 : Int32) (x2 : Int32) : Option ZMem := zchk (zin x1 241) (zchk (zin x2 241) (zbnd (zstI M 16 (zix x2) (M.1 16 (zix x1))) (fun M_11 => zchk (zin x1 241) (zchk (zin x2 241) (zbnd (zstI M_11 18 (zix x2) (M_11.1 18 (zix x1))) (fun M_23 => zbind (zloop (f_X12_copiesWord_L26 x1 x2) (M_23, (zI 0))) (fun e26 => some e26)))))))
set_option maxRecDepth 100000 in
set_option maxHeartbeats 4000000 in
theorem c_X12_copiesWord (E : ZEv) (M : ZMem) (x1 : Int32) (x2 : Int32) (K : ZMem → Prop) (hk : zOk (f_X12_copiesWord M x1 x2) K) : zCon lyR E yX12_copiesWord cX12_copiesWord 4 none 0 [zrf E 0, .int x1, .int x2] M (zRv K) := by
  refine zcon_of (L0 := [(0, zrf E 0), (1, .int x1), (2, .int x2)]) (by decide) rfl (Nat.le_of_ble_eq_true rfl) (fun G h => ?_)
  have h : zRu lyR E G (zRv K) cX12_copiesWord RX12 4 none 0 := h
  unfold f_X12_copiesWord at hk
  refine zr_aload_n h dX12_copiesWord_0 0 rfl rfl ?_
  refine zr_getR h zfo_X12_56 lR_0 rfl dX12_copiesWord_1 ?_
  refine zr_iload_n h dX12_copiesWord_4 2 rfl rfl ?_
  refine zr_aload_n h dX12_copiesWord_5 0 rfl rfl ?_
  refine zr_getR h zfo_X12_56 lR_0 rfl dX12_copiesWord_6 ?_
  refine zr_iload_n h dX12_copiesWord_9 1 rfl rfl ?_
  have hb := zOk_chk hk
  have hk := hb.2
  refine zr_iald h lR_16 hb.1 dX12_copiesWord_10 ?_
  have hb := zOk_chk hk
  have hk := hb.2
  refine zr_iast h lR_16 hb.1 dX12_copiesWord_11 ?_
  refine zr_mem (fun M_11 eM => ?_)
  have hk := zOk_bnd eM hk
  refine zr_aload_n h dX12_copiesWord_12 0 rfl rfl ?_
  refine zr_getR h zfo_X12_62 lR_0 rfl dX12_copiesWord_13 ?_
  refine zr_iload_n h dX12_copiesWord_16 2 rfl rfl ?_
  refine zr_aload_n h dX12_copiesWord_17 0 rfl rfl ?_
  refine zr_getR h zfo_X12_62 lR_0 rfl dX12_copiesWord_18 ?_
  refine zr_iload_n h dX12_copiesWord_21 1 rfl rfl ?_
  have hb := zOk_chk hk
  have hk := hb.2
  refine zr_iald h lR_18 hb.1 dX12_copiesWord_22 ?_
  have hb := zOk_chk hk
  have hk := hb.2
  refine zr_iast h lR_18 hb.1 dX12_copiesWord_23 ?_
  refine zr_mem (fun M_23 eM => ?_)
  have hk := zOk_bnd eM hk
  refine zr_iconst (v := (zI 0)) h dX12_copiesWord_24 rfl ?_
  refine zr_istore_n (L' := [(0, zrf E 0), (1, .int x1), (2, .int x2), (3, .int (zI 0))]) h [1, 2, 3, 0] dX12_copiesWord_25 rfl (by decide) rfl ?_
  refine w_X12_copiesWord_L26 h x1 x2 (M_23, (zI 0)) (zOk_mono (zOk_bind hk) (fun e26 hk => ?_))
  have hk := zOk_some hk
  exact zr_vret h dX12_copiesWord_60 ⟨rfl, hk⟩
theorem dX12_comesWord_0 : decode cX12_comesWord 0 = .ok (.iconst 0, 1) := by decide +kernel
theorem dX12_comesWord_1 : decode cX12_comesWord 1 = .ok (.istore_n 2, 1) := by decide +kernel
theorem dX12_comesWord_2 : decode cX12_comesWord 2 = .ok (.iload_n 2, 1) := by decide +kernel
theorem dX12_comesWord_3 : decode cX12_comesWord 3 = .ok (.aload_n 0, 1) := by decide +kernel
theorem dX12_comesWord_4 : decode cX12_comesWord 4 = .ok (.getfield 302, 3) := by decide +kernel
theorem dX12_comesWord_7 : decode cX12_comesWord 7 = .ok (.if_icmp .ge 18, 3) := by decide +kernel
theorem dX12_comesWord_10 : decode cX12_comesWord 10 = .ok (.aload_n 0, 1) := by decide +kernel
theorem dX12_comesWord_11 : decode cX12_comesWord 11 = .ok (.iload_n 1, 1) := by decide +kernel
theorem dX12_comesWord_12 : decode cX12_comesWord 12 = .ok (.iload_n 2, 1) := by decide +kernel
theorem dX12_comesWord_13 : decode cX12_comesWord 13 = .ok (.invokevirtual 305, 3) := by decide +kernel
theorem dX12_comesWord_16 : decode cX12_comesWord 16 = .ok (.ifCond .le 9, 3) := by decide +kernel
theorem dX12_comesWord_19 : decode cX12_comesWord 19 = .ok (.iinc 2 1, 3) := by decide +kernel
theorem dX12_comesWord_22 : decode cX12_comesWord 22 = .ok (.goto (-20), 3) := by decide +kernel
theorem dX12_comesWord_25 : decode cX12_comesWord 25 = .ok (.iload_n 2, 1) := by decide +kernel
theorem dX12_comesWord_26 : decode cX12_comesWord 26 = .ok (.aload_n 0, 1) := by decide +kernel
theorem dX12_comesWord_27 : decode cX12_comesWord 27 = .ok (.getfield 302, 3) := by decide +kernel
theorem dX12_comesWord_30 : decode cX12_comesWord 30 = .ok (.if_icmp .eq 12, 3) := by decide +kernel
theorem dX12_comesWord_33 : decode cX12_comesWord 33 = .ok (.aload_n 0, 1) := by decide +kernel
theorem dX12_comesWord_34 : decode cX12_comesWord 34 = .ok (.iload_n 1, 1) := by decide +kernel
theorem dX12_comesWord_35 : decode cX12_comesWord 35 = .ok (.iload_n 2, 1) := by decide +kernel
theorem dX12_comesWord_36 : decode cX12_comesWord 36 = .ok (.invokevirtual 305, 3) := by decide +kernel
theorem dX12_comesWord_39 : decode cX12_comesWord 39 = .ok (.ifCond .eq 91, 3) := by decide +kernel
theorem dX12_comesWord_42 : decode cX12_comesWord 42 = .ok (.aload_n 0, 1) := by decide +kernel
theorem dX12_comesWord_43 : decode cX12_comesWord 43 = .ok (.getfield 302, 3) := by decide +kernel
theorem dX12_comesWord_46 : decode cX12_comesWord 46 = .ok (.istore_n 3, 1) := by decide +kernel
theorem dX12_comesWord_47 : decode cX12_comesWord 47 = .ok (.iload_n 3, 1) := by decide +kernel
theorem dX12_comesWord_48 : decode cX12_comesWord 48 = .ok (.iload_n 2, 1) := by decide +kernel
theorem dX12_comesWord_49 : decode cX12_comesWord 49 = .ok (.if_icmp .le 17, 3) := by decide +kernel
theorem dX12_comesWord_52 : decode cX12_comesWord 52 = .ok (.aload_n 0, 1) := by decide +kernel
theorem dX12_comesWord_53 : decode cX12_comesWord 53 = .ok (.iload_n 3, 1) := by decide +kernel
theorem dX12_comesWord_54 : decode cX12_comesWord 54 = .ok (.iconst 1, 1) := by decide +kernel
theorem dX12_comesWord_55 : decode cX12_comesWord 55 = .ok (.isub, 1) := by decide +kernel
theorem dX12_comesWord_56 : decode cX12_comesWord 56 = .ok (.iload_n 3, 1) := by decide +kernel
theorem dX12_comesWord_57 : decode cX12_comesWord 57 = .ok (.invokevirtual 308, 3) := by decide +kernel
theorem dX12_comesWord_60 : decode cX12_comesWord 60 = .ok (.iinc 3 (-1), 3) := by decide +kernel
theorem dX12_comesWord_63 : decode cX12_comesWord 63 = .ok (.goto (-16), 3) := by decide +kernel
theorem dX12_comesWord_66 : decode cX12_comesWord 66 = .ok (.aload_n 0, 1) := by decide +kernel
theorem dX12_comesWord_67 : decode cX12_comesWord 67 = .ok (.dup, 1) := by decide +kernel
theorem dX12_comesWord_68 : decode cX12_comesWord 68 = .ok (.getfield 302, 3) := by decide +kernel
theorem dX12_comesWord_71 : decode cX12_comesWord 71 = .ok (.iconst 1, 1) := by decide +kernel
theorem dX12_comesWord_72 : decode cX12_comesWord 72 = .ok (.iadd, 1) := by decide +kernel
theorem dX12_comesWord_73 : decode cX12_comesWord 73 = .ok (.putfield 302, 3) := by decide +kernel
theorem dX12_comesWord_76 : decode cX12_comesWord 76 = .ok (.aload_n 0, 1) := by decide +kernel
theorem dX12_comesWord_77 : decode cX12_comesWord 77 = .ok (.getfield 56, 3) := by decide +kernel
theorem dX12_comesWord_80 : decode cX12_comesWord 80 = .ok (.iload_n 2, 1) := by decide +kernel
theorem dX12_comesWord_81 : decode cX12_comesWord 81 = .ok (.iload_n 1, 1) := by decide +kernel
theorem dX12_comesWord_82 : decode cX12_comesWord 82 = .ok (.iastore, 1) := by decide +kernel
theorem dX12_comesWord_83 : decode cX12_comesWord 83 = .ok (.aload_n 0, 1) := by decide +kernel
theorem dX12_comesWord_84 : decode cX12_comesWord 84 = .ok (.getfield 62, 3) := by decide +kernel
theorem dX12_comesWord_87 : decode cX12_comesWord 87 = .ok (.iload_n 2, 1) := by decide +kernel
theorem dX12_comesWord_88 : decode cX12_comesWord 88 = .ok (.iconst 0, 1) := by decide +kernel
theorem dX12_comesWord_89 : decode cX12_comesWord 89 = .ok (.iastore, 1) := by decide +kernel
theorem dX12_comesWord_90 : decode cX12_comesWord 90 = .ok (.iconst 0, 1) := by decide +kernel
theorem dX12_comesWord_91 : decode cX12_comesWord 91 = .ok (.istore_n 3, 1) := by decide +kernel
theorem dX12_comesWord_92 : decode cX12_comesWord 92 = .ok (.iload_n 3, 1) := by decide +kernel
theorem dX12_comesWord_93 : decode cX12_comesWord 93 = .ok (.bipush 7, 2) := by decide +kernel
theorem dX12_comesWord_95 : decode cX12_comesWord 95 = .ok (.if_icmp .ge 35, 3) := by decide +kernel
theorem dX12_comesWord_98 : decode cX12_comesWord 98 = .ok (.aload_n 0, 1) := by decide +kernel
theorem dX12_comesWord_99 : decode cX12_comesWord 99 = .ok (.getfield 59, 3) := by decide +kernel
theorem dX12_comesWord_102 : decode cX12_comesWord 102 = .ok (.bipush 7, 2) := by decide +kernel
theorem dX12_comesWord_104 : decode cX12_comesWord 104 = .ok (.iload_n 2, 1) := by decide +kernel
theorem dX12_comesWord_105 : decode cX12_comesWord 105 = .ok (.imul, 1) := by decide +kernel
theorem dX12_comesWord_106 : decode cX12_comesWord 106 = .ok (.iload_n 3, 1) := by decide +kernel
theorem dX12_comesWord_107 : decode cX12_comesWord 107 = .ok (.iadd, 1) := by decide +kernel
theorem dX12_comesWord_108 : decode cX12_comesWord 108 = .ok (.iload_n 3, 1) := by decide +kernel
theorem dX12_comesWord_109 : decode cX12_comesWord 109 = .ok (.iload_n 1, 1) := by decide +kernel
theorem dX12_comesWord_110 : decode cX12_comesWord 110 = .ok (.if_icmp .ge 12, 3) := by decide +kernel
theorem dX12_comesWord_113 : decode cX12_comesWord 113 = .ok (.aload_n 0, 1) := by decide +kernel
theorem dX12_comesWord_114 : decode cX12_comesWord 114 = .ok (.getfield 53, 3) := by decide +kernel
theorem dX12_comesWord_117 : decode cX12_comesWord 117 = .ok (.iload_n 3, 1) := by decide +kernel
theorem dX12_comesWord_118 : decode cX12_comesWord 118 = .ok (.iaload, 1) := by decide +kernel
theorem dX12_comesWord_119 : decode cX12_comesWord 119 = .ok (.goto 4, 3) := by decide +kernel
theorem dX12_comesWord_122 : decode cX12_comesWord 122 = .ok (.iconst (-1), 1) := by decide +kernel
theorem dX12_comesWord_123 : decode cX12_comesWord 123 = .ok (.iastore, 1) := by decide +kernel
theorem dX12_comesWord_124 : decode cX12_comesWord 124 = .ok (.iinc 3 1, 3) := by decide +kernel
theorem dX12_comesWord_127 : decode cX12_comesWord 127 = .ok (.goto (-35), 3) := by decide +kernel
theorem dX12_comesWord_130 : decode cX12_comesWord 130 = .ok (.aload_n 0, 1) := by decide +kernel
theorem dX12_comesWord_131 : decode cX12_comesWord 131 = .ok (.getfield 62, 3) := by decide +kernel
theorem dX12_comesWord_134 : decode cX12_comesWord 134 = .ok (.iload_n 2, 1) := by decide +kernel
theorem dX12_comesWord_135 : decode cX12_comesWord 135 = .ok (.dup2, 1) := by decide +kernel
theorem dX12_comesWord_136 : decode cX12_comesWord 136 = .ok (.iaload, 1) := by decide +kernel
theorem dX12_comesWord_137 : decode cX12_comesWord 137 = .ok (.iconst 1, 1) := by decide +kernel
theorem dX12_comesWord_138 : decode cX12_comesWord 138 = .ok (.iadd, 1) := by decide +kernel
theorem dX12_comesWord_139 : decode cX12_comesWord 139 = .ok (.iastore, 1) := by decide +kernel
theorem dX12_comesWord_140 : decode cX12_comesWord 140 = .ok (.return_, 1) := by decide +kernel
noncomputable def f_X12_comesWord_L2 (M : ZMem) (x1 : Int32) (s : (Int32)) : Option ((Int32) ⊕ (Int32)) := if (M.1 0 25) ≤ s then some (.inr s) else zbind (f_X12_against M x1 s) (fun r_13 => if r_13 ≤ (zI 0) then some (.inr s) else zbnd (s + (zI 1)) (fun x2_19 => some (.inl x2_19)))
set_option maxRecDepth 100000 in
set_option maxHeartbeats 4000000 in
theorem w_X12_comesWord_L2 {E : ZEv} {G : ZG} {K : ZMem → Prop} (h : zRu lyR E G (zRv K) cX12_comesWord RX12 4 none 1) (M : ZMem) (x1 : Int32) (s : (Int32)) (hk : zOk (zloop (f_X12_comesWord_L2 M x1) s) (fun e => G M 25 [(0, zrf E 0), (1, .int x1), (2, .int e)] [])) : G M 2 [(0, zrf E 0), (1, .int x1), (2, .int s)] [] := by
  refine zloop_walk (P := fun s => G M 2 [(0, zrf E 0), (1, .int x1), (2, .int s)] []) hk (fun s hk => ?_)
  unfold f_X12_comesWord_L2 at hk
  refine zr_iload_n h dX12_comesWord_2 2 rfl rfl ?_
  refine zr_aload_n h dX12_comesWord_3 0 rfl rfl ?_
  refine zr_getI h zfo_X12_302 lR_0 rfl dX12_comesWord_4 ?_
  refine zr_icmp_ge (tgt := 25) h dX12_comesWord_7 (by decide) (fun c => ?_) (fun c => ?_)
  · have hk := zOk_t c hk
    have hk := zOk_some hk
    exact zr_weak h [0, 1, 2] rfl hk
  · have hk := zOk_f c hk
    refine zr_aload_n h dX12_comesWord_10 0 rfl rfl ?_
    refine zr_iload_n h dX12_comesWord_11 1 rfl rfl ?_
    refine zr_iload_n h dX12_comesWord_12 2 rfl rfl ?_
    refine zr_callVp h lR_0 zcw_X12_305 (by decide) (c_X12_against E M x1 s _ (zOk_bind hk)) rfl rfl (Nat.le_of_ble_eq_true rfl) dX12_comesWord_13 (fun r_13 hk => ?_)
    refine zr_if_le (tgt := 25) h dX12_comesWord_16 (by decide) (fun c => ?_) (fun c => ?_)
    · have hk := zOk_t c hk
      have hk := zOk_some hk
      exact zr_weak h [0, 1, 2] rfl hk
    · have hk := zOk_f c hk
      obtain ⟨x2_19, ex⟩ : ∃ y : Int32, y = s + (zI 1) := ⟨_, rfl⟩
      have hk := zOk_bnd ex hk
      refine zr_iinc (v := x2_19) (L' := [(0, zrf E 0), (1, .int x1), (2, .int x2_19)]) h 2 [1, 2, 0] dX12_comesWord_19 rfl (by rw [ex]; rfl) (by decide) rfl ?_
      refine zr_goto (tgt := 2) h dX12_comesWord_22 (by decide) ?_
      have hk := zOk_some hk
      exact zr_weak h [0, 1, 2] rfl hk
noncomputable def f_X12_comesWord_L47 (x1 : Int32) (x2 : Int32) (s : (ZMem × Int32)) : Option ((ZMem × Int32) ⊕ (ZMem)) := if s.2 ≤ x2 then some (.inr s.1) else zbind (f_X12_copiesWord s.1 (s.2 - (zI 1)) s.2) (fun M_57 => zbnd (s.2 + (zI (-1))) (fun x3_60 => some (.inl (M_57, x3_60))))
set_option maxRecDepth 100000 in
set_option maxHeartbeats 4000000 in
theorem w_X12_comesWord_L47 {E : ZEv} {G : ZG} {K : ZMem → Prop} (h : zRu lyR E G (zRv K) cX12_comesWord RX12 4 none 1) (x1 : Int32) (x2 : Int32) (s : (ZMem × Int32)) (hk : zOk (zloop (f_X12_comesWord_L47 x1 x2) s) (fun e => G e 66 [(0, zrf E 0), (1, .int x1), (2, .int x2)] [])) : G s.1 47 [(0, zrf E 0), (1, .int x1), (2, .int x2), (3, .int s.2)] [] := by
  refine zloop_walk (P := fun s => G s.1 47 [(0, zrf E 0), (1, .int x1), (2, .int x2), (3, .int s.2)] []) hk (fun s hk => ?_)
  unfold f_X12_comesWord_L47 at hk
  refine zr_iload_n h dX12_comesWord_47 3 rfl rfl ?_
  refine zr_iload_n h dX12_comesWord_48 2 rfl rfl ?_
  refine zr_icmp_le (tgt := 66) h dX12_comesWord_49 (by decide) (fun c => ?_) (fun c => ?_)
  · have hk := zOk_t c hk
    have hk := zOk_some hk
    exact zr_weak h [0, 1, 2] rfl hk
  · have hk := zOk_f c hk
    refine zr_aload_n h dX12_comesWord_52 0 rfl rfl ?_
    refine zr_iload_n h dX12_comesWord_53 3 rfl rfl ?_
    refine zr_iconst (v := (zI 1)) h dX12_comesWord_54 rfl ?_
    refine zr_isub h dX12_comesWord_55 ?_
    refine zr_iload_n h dX12_comesWord_56 3 rfl rfl ?_
    refine zr_callVv h lR_0 zcw_X12_308 (by decide) (c_X12_copiesWord E s.1 (s.2 - (zI 1)) s.2 _ (zOk_bind hk)) rfl rfl (Nat.le_of_ble_eq_true rfl) dX12_comesWord_57 (fun M_57 hk => ?_)
    obtain ⟨x3_60, ex⟩ : ∃ y : Int32, y = s.2 + (zI (-1)) := ⟨_, rfl⟩
    have hk := zOk_bnd ex hk
    refine zr_iinc (v := x3_60) (L' := [(0, zrf E 0), (1, .int x1), (2, .int x2), (3, .int x3_60)]) h 3 [1, 2, 3, 0] dX12_comesWord_60 rfl (by rw [ex]; rfl) (by decide) rfl ?_
    refine zr_goto (tgt := 47) h dX12_comesWord_63 (by decide) ?_
    have hk := zOk_some hk
    exact zr_weak h [0, 1, 2, 3] rfl hk
noncomputable def f_X12_comesWord_123_L92 (M : ZMem) (x1 : Int32) (x2 : Int32) (x3 : Int32) (v1 : Int32) (v2 : Int32) : Option ((ZMem × Int32) ⊕ (ZMem)) := zchk (zin v1 1687) (zbnd (zstI M 17 (zix v1) v2) (fun M_123 => zbnd (x3 + (zI 1)) (fun x3_124 => some (.inl (M_123, x3_124)))))
set_option maxRecDepth 100000 in
set_option maxHeartbeats 4000000 in
theorem w_X12_comesWord_123_L92 {E : ZEv} {G : ZG} {K : ZMem → Prop} (h : zRu lyR E G (zRv K) cX12_comesWord RX12 4 none 1) (M : ZMem) (x1 : Int32) (x2 : Int32) (x3 : Int32) (v1 : Int32) (v2 : Int32) (hk : zOk (f_X12_comesWord_123_L92 M x1 x2 x3 v1 v2) (zlp (fun s => G s.1 92 [(0, zrf E 0), (1, .int x1), (2, .int x2), (3, .int s.2)] []) (fun e => G e 130 [(0, zrf E 0), (2, .int x2)] []))) : G M 123 [(0, zrf E 0), (1, .int x1), (2, .int x2), (3, .int x3)] [.int v2, .int v1, zrf E 17] := by
  unfold f_X12_comesWord_123_L92 at hk
  have hb := zOk_chk hk
  have hk := hb.2
  refine zr_iast h lR_17 hb.1 dX12_comesWord_123 ?_
  refine zr_mem (fun M_123 eM => ?_)
  have hk := zOk_bnd eM hk
  obtain ⟨x3_124, ex⟩ : ∃ y : Int32, y = x3 + (zI 1) := ⟨_, rfl⟩
  have hk := zOk_bnd ex hk
  refine zr_iinc (v := x3_124) (L' := [(0, zrf E 0), (1, .int x1), (2, .int x2), (3, .int x3_124)]) h 3 [1, 2, 3, 0] dX12_comesWord_124 rfl (by rw [ex]; rfl) (by decide) rfl ?_
  refine zr_goto (tgt := 92) h dX12_comesWord_127 (by decide) ?_
  have hk := zOk_some hk
  exact zr_weak h [0, 1, 2, 3] rfl hk
noncomputable def f_X12_comesWord_L92 (x1 : Int32) (x2 : Int32) (s : (ZMem × Int32)) : Option ((ZMem × Int32) ⊕ (ZMem)) := if (zI 7) ≤ s.2 then some (.inr s.1) else if x1 ≤ s.2 then f_X12_comesWord_123_L92 s.1 x1 x2 s.2 (((zI 7) * x2) + s.2) (zI (-1)) else zchk (zin s.2 7) (f_X12_comesWord_123_L92 s.1 x1 x2 s.2 (((zI 7) * x2) + s.2) (s.1.1 15 (zix s.2)))
set_option maxRecDepth 100000 in
set_option maxHeartbeats 4000000 in
theorem w_X12_comesWord_L92 {E : ZEv} {G : ZG} {K : ZMem → Prop} (h : zRu lyR E G (zRv K) cX12_comesWord RX12 4 none 1) (x1 : Int32) (x2 : Int32) (s : (ZMem × Int32)) (hk : zOk (zloop (f_X12_comesWord_L92 x1 x2) s) (fun e => G e 130 [(0, zrf E 0), (2, .int x2)] [])) : G s.1 92 [(0, zrf E 0), (1, .int x1), (2, .int x2), (3, .int s.2)] [] := by
  refine zloop_walk (P := fun s => G s.1 92 [(0, zrf E 0), (1, .int x1), (2, .int x2), (3, .int s.2)] []) hk (fun s hk => ?_)
  unfold f_X12_comesWord_L92 at hk
  refine zr_iload_n h dX12_comesWord_92 3 rfl rfl ?_
  refine zr_bipush (v := (zI 7)) h dX12_comesWord_93 (by decide) ?_
  refine zr_icmp_ge (tgt := 130) h dX12_comesWord_95 (by decide) (fun c => ?_) (fun c => ?_)
  · have hk := zOk_t c hk
    have hk := zOk_some hk
    exact zr_weak h [0, 2] rfl hk
  · have hk := zOk_f c hk
    refine zr_aload_n h dX12_comesWord_98 0 rfl rfl ?_
    refine zr_getR h zfo_X12_59 lR_0 rfl dX12_comesWord_99 ?_
    refine zr_bipush (v := (zI 7)) h dX12_comesWord_102 (by decide) ?_
    refine zr_iload_n h dX12_comesWord_104 2 rfl rfl ?_
    refine zr_imul h dX12_comesWord_105 ?_
    refine zr_iload_n h dX12_comesWord_106 3 rfl rfl ?_
    refine zr_iadd h dX12_comesWord_107 ?_
    refine zr_iload_n h dX12_comesWord_108 3 rfl rfl ?_
    refine zr_iload_n h dX12_comesWord_109 1 rfl rfl ?_
    refine zr_icmp_ge (tgt := 122) h dX12_comesWord_110 (by decide) (fun c => ?_) (fun c => ?_)
    · have hk := zOk_t c hk
      refine zr_iconst (v := (zI (-1))) h dX12_comesWord_122 rfl ?_
      exact w_X12_comesWord_123_L92 h s.1 x1 x2 s.2 (((zI 7) * x2) + s.2) (zI (-1)) hk
    · have hk := zOk_f c hk
      refine zr_aload_n h dX12_comesWord_113 0 rfl rfl ?_
      refine zr_getR h zfo_X12_53 lR_0 rfl dX12_comesWord_114 ?_
      refine zr_iload_n h dX12_comesWord_117 3 rfl rfl ?_
      have hb := zOk_chk hk
      have hk := hb.2
      refine zr_iald h lR_15 hb.1 dX12_comesWord_118 ?_
      refine zr_goto (tgt := 123) h dX12_comesWord_119 (by decide) ?_
      exact w_X12_comesWord_123_L92 h s.1 x1 x2 s.2 (((zI 7) * x2) + s.2) (s.1.1 15 (zix s.2)) hk
noncomputable def f_X12_comesWord_130 (M : ZMem) (x2 : Int32) : Option ZMem := zchk (zin x2 241) (zchk (zin x2 241) (zbnd (zstI M 18 (zix x2) ((M.1 18 (zix x2)) + (zI 1))) (fun M_139 => some M_139)))
set_option maxRecDepth 100000 in
set_option maxHeartbeats 4000000 in
theorem w_X12_comesWord_130 {E : ZEv} {G : ZG} {K : ZMem → Prop} (h : zRu lyR E G (zRv K) cX12_comesWord RX12 4 none 1) (M : ZMem) (x2 : Int32) (hk : zOk (f_X12_comesWord_130 M x2) K) : G M 130 [(0, zrf E 0), (2, .int x2)] [] := by
  unfold f_X12_comesWord_130 at hk
  refine zr_aload_n h dX12_comesWord_130 0 rfl rfl ?_
  refine zr_getR h zfo_X12_62 lR_0 rfl dX12_comesWord_131 ?_
  refine zr_iload_n h dX12_comesWord_134 1 rfl rfl ?_
  refine zr_dup2_11 h dX12_comesWord_135 rfl rfl ?_
  have hb := zOk_chk hk
  have hk := hb.2
  refine zr_iald h lR_18 hb.1 dX12_comesWord_136 ?_
  refine zr_iconst (v := (zI 1)) h dX12_comesWord_137 rfl ?_
  refine zr_iadd h dX12_comesWord_138 ?_
  have hb := zOk_chk hk
  have hk := hb.2
  refine zr_iast h lR_18 hb.1 dX12_comesWord_139 ?_
  refine zr_mem (fun M_139 eM => ?_)
  have hk := zOk_bnd eM hk
  have hk := zOk_some hk
  exact zr_vret h dX12_comesWord_140 ⟨rfl, hk⟩
noncomputable def f_X12_comesWord_42 (M : ZMem) (x1 : Int32) (x2 : Int32) : Option ZMem := zbnd (M.1 0 25) (fun x3_46 => zbind (zloop (f_X12_comesWord_L47 x1 x2) (M, x3_46)) (fun e47 => zbnd (zstI e47 0 25 ((e47.1 0 25) + (zI 1))) (fun M_73 => zchk (zin x2 241) (zbnd (zstI M_73 16 (zix x2) x1) (fun M_82 => zchk (zin x2 241) (zbnd (zstI M_82 18 (zix x2) (zI 0)) (fun M_89 => zbind (zloop (f_X12_comesWord_L92 x1 x2) (M_89, (zI 0))) (fun e92 => f_X12_comesWord_130 e92 x2))))))))
set_option maxRecDepth 100000 in
set_option maxHeartbeats 4000000 in
theorem w_X12_comesWord_42 {E : ZEv} {G : ZG} {K : ZMem → Prop} (h : zRu lyR E G (zRv K) cX12_comesWord RX12 4 none 1) (M : ZMem) (x1 : Int32) (x2 : Int32) (hk : zOk (f_X12_comesWord_42 M x1 x2) K) : G M 42 [(0, zrf E 0), (1, .int x1), (2, .int x2)] [] := by
  unfold f_X12_comesWord_42 at hk
  refine zr_aload_n h dX12_comesWord_42 0 rfl rfl ?_
  refine zr_getI h zfo_X12_302 lR_0 rfl dX12_comesWord_43 ?_
  refine zr_topi (fun x3_46 ex => ?_)
  have hk := zOk_bnd ex hk
  refine zr_istore_n (L' := [(0, zrf E 0), (1, .int x1), (2, .int x2), (3, .int x3_46)]) h [1, 2, 3, 0] dX12_comesWord_46 rfl (by decide) rfl ?_
  refine w_X12_comesWord_L47 h x1 x2 (M, x3_46) (zOk_mono (zOk_bind hk) (fun e47 hk => ?_))
  refine zr_aload_n h dX12_comesWord_66 0 rfl rfl ?_
  refine zr_dup h dX12_comesWord_67 rfl ?_
  refine zr_getI h zfo_X12_302 lR_0 rfl dX12_comesWord_68 ?_
  refine zr_iconst (v := (zI 1)) h dX12_comesWord_71 rfl ?_
  refine zr_iadd h dX12_comesWord_72 ?_
  refine zr_putI h zfp_X12_302 lR_0 rfl dX12_comesWord_73 ?_
  refine zr_mem (fun M_73 eM => ?_)
  have hk := zOk_bnd eM hk
  refine zr_aload_n h dX12_comesWord_76 0 rfl rfl ?_
  refine zr_getR h zfo_X12_56 lR_0 rfl dX12_comesWord_77 ?_
  refine zr_iload_n h dX12_comesWord_80 2 rfl rfl ?_
  refine zr_iload_n h dX12_comesWord_81 1 rfl rfl ?_
  have hb := zOk_chk hk
  have hk := hb.2
  refine zr_iast h lR_16 hb.1 dX12_comesWord_82 ?_
  refine zr_mem (fun M_82 eM => ?_)
  have hk := zOk_bnd eM hk
  refine zr_aload_n h dX12_comesWord_83 0 rfl rfl ?_
  refine zr_getR h zfo_X12_62 lR_0 rfl dX12_comesWord_84 ?_
  refine zr_iload_n h dX12_comesWord_87 2 rfl rfl ?_
  refine zr_iconst (v := (zI 0)) h dX12_comesWord_88 rfl ?_
  have hb := zOk_chk hk
  have hk := hb.2
  refine zr_iast h lR_18 hb.1 dX12_comesWord_89 ?_
  refine zr_mem (fun M_89 eM => ?_)
  have hk := zOk_bnd eM hk
  refine zr_iconst (v := (zI 0)) h dX12_comesWord_90 rfl ?_
  refine zr_istore_n (L' := [(0, zrf E 0), (1, .int x1), (2, .int x2), (3, .int (zI 0))]) h [1, 2, 3, 0] dX12_comesWord_91 rfl (by decide) rfl ?_
  refine w_X12_comesWord_L92 h x1 x2 (M_89, (zI 0)) (zOk_mono (zOk_bind hk) (fun e92 hk => ?_))
  exact w_X12_comesWord_130 h e92 x2 hk
noncomputable def f_X12_comesWord (M : ZMem) (x1 : Int32) : Option ZMem := zbind (zloop (f_X12_comesWord_L2 M x1) (zI 0)) (fun e2 => if e2 = (M.1 0 25) then f_X12_comesWord_42 M x1 e2 else zbind (f_X12_against M x1 e2) (fun r_36 => if r_36 = (zI 0) then f_X12_comesWord_130 M e2 else f_X12_comesWord_42 M x1 e2))
set_option maxRecDepth 100000 in
set_option maxHeartbeats 4000000 in
theorem c_X12_comesWord (E : ZEv) (M : ZMem) (x1 : Int32) (K : ZMem → Prop) (hk : zOk (f_X12_comesWord M x1) K) : zCon lyR E yX12_comesWord cX12_comesWord 4 none 1 [zrf E 0, .int x1] M (zRv K) := by
  refine zcon_of (L0 := [(0, zrf E 0), (1, .int x1)]) (by decide) rfl (Nat.le_of_ble_eq_true rfl) (fun G h => ?_)
  have h : zRu lyR E G (zRv K) cX12_comesWord RX12 4 none 1 := h
  unfold f_X12_comesWord at hk
  refine zr_iconst (v := (zI 0)) h dX12_comesWord_0 rfl ?_
  refine zr_istore_n (L' := [(0, zrf E 0), (1, .int x1), (2, .int (zI 0))]) h [1, 2, 0] dX12_comesWord_1 rfl (by decide) rfl ?_
  refine w_X12_comesWord_L2 h M x1 (zI 0) (zOk_mono (zOk_bind hk) (fun e2 hk => ?_))
  refine zr_iload_n h dX12_comesWord_25 2 rfl rfl ?_
  refine zr_aload_n h dX12_comesWord_26 0 rfl rfl ?_
  refine zr_getI h zfo_X12_302 lR_0 rfl dX12_comesWord_27 ?_
  refine zr_icmp_eq (tgt := 42) h dX12_comesWord_30 (by decide) (fun c => ?_) (fun c => ?_)
  · have hk := zOk_t c hk
    exact w_X12_comesWord_42 h M x1 e2 hk
  · have hk := zOk_f c hk
    refine zr_aload_n h dX12_comesWord_33 0 rfl rfl ?_
    refine zr_iload_n h dX12_comesWord_34 1 rfl rfl ?_
    refine zr_iload_n h dX12_comesWord_35 2 rfl rfl ?_
    refine zr_callVp h lR_0 zcw_X12_305 (by decide) (c_X12_against E M x1 e2 _ (zOk_bind hk)) rfl rfl (Nat.le_of_ble_eq_true rfl) dX12_comesWord_36 (fun r_36 hk => ?_)
    refine zr_if_eq (tgt := 130) h dX12_comesWord_39 (by decide) (fun c => ?_) (fun c => ?_)
    · have hk := zOk_t c hk
      exact zr_weak h [0, 2] rfl (w_X12_comesWord_130 h M e2 hk)
    · have hk := zOk_f c hk
      exact w_X12_comesWord_42 h M x1 e2 hk
theorem dX12_laysWords_0 : decode cX12_laysWords 0 = .ok (.aload_n 0, 1) := by decide +kernel
theorem dX12_laysWords_1 : decode cX12_laysWords 1 = .ok (.iconst 0, 1) := by decide +kernel
theorem dX12_laysWords_2 : decode cX12_laysWords 2 = .ok (.putfield 302, 3) := by decide +kernel
theorem dX12_laysWords_5 : decode cX12_laysWords 5 = .ok (.aload_n 0, 1) := by decide +kernel
theorem dX12_laysWords_6 : decode cX12_laysWords 6 = .ok (.iconst 0, 1) := by decide +kernel
theorem dX12_laysWords_7 : decode cX12_laysWords 7 = .ok (.putfield 311, 3) := by decide +kernel
theorem dX12_laysWords_10 : decode cX12_laysWords 10 = .ok (.iconst 0, 1) := by decide +kernel
theorem dX12_laysWords_11 : decode cX12_laysWords 11 = .ok (.istore_n 1, 1) := by decide +kernel
theorem dX12_laysWords_12 : decode cX12_laysWords 12 = .ok (.iload_n 1, 1) := by decide +kernel
theorem dX12_laysWords_13 : decode cX12_laysWords 13 = .ok (.bipush 20, 2) := by decide +kernel
theorem dX12_laysWords_15 : decode cX12_laysWords 15 = .ok (.if_icmp .ge 23, 3) := by decide +kernel
theorem dX12_laysWords_18 : decode cX12_laysWords 18 = .ok (.aload_n 0, 1) := by decide +kernel
theorem dX12_laysWords_19 : decode cX12_laysWords 19 = .ok (.getfield 65, 3) := by decide +kernel
theorem dX12_laysWords_22 : decode cX12_laysWords 22 = .ok (.iload_n 1, 1) := by decide +kernel
theorem dX12_laysWords_23 : decode cX12_laysWords 23 = .ok (.iconst 0, 1) := by decide +kernel
theorem dX12_laysWords_24 : decode cX12_laysWords 24 = .ok (.iastore, 1) := by decide +kernel
theorem dX12_laysWords_25 : decode cX12_laysWords 25 = .ok (.aload_n 0, 1) := by decide +kernel
theorem dX12_laysWords_26 : decode cX12_laysWords 26 = .ok (.getfield 68, 3) := by decide +kernel
theorem dX12_laysWords_29 : decode cX12_laysWords 29 = .ok (.iload_n 1, 1) := by decide +kernel
theorem dX12_laysWords_30 : decode cX12_laysWords 30 = .ok (.iconst 0, 1) := by decide +kernel
theorem dX12_laysWords_31 : decode cX12_laysWords 31 = .ok (.iastore, 1) := by decide +kernel
theorem dX12_laysWords_32 : decode cX12_laysWords 32 = .ok (.iinc 1 1, 3) := by decide +kernel
theorem dX12_laysWords_35 : decode cX12_laysWords 35 = .ok (.goto (-23), 3) := by decide +kernel
theorem dX12_laysWords_38 : decode cX12_laysWords 38 = .ok (.iconst 0, 1) := by decide +kernel
theorem dX12_laysWords_39 : decode cX12_laysWords 39 = .ok (.istore_n 1, 1) := by decide +kernel
theorem dX12_laysWords_40 : decode cX12_laysWords 40 = .ok (.iload_n 1, 1) := by decide +kernel
theorem dX12_laysWords_41 : decode cX12_laysWords 41 = .ok (.aload_n 0, 1) := by decide +kernel
theorem dX12_laysWords_42 : decode cX12_laysWords 42 = .ok (.getfield 283, 3) := by decide +kernel
theorem dX12_laysWords_45 : decode cX12_laysWords 45 = .ok (.if_icmp .ge 98, 3) := by decide +kernel
theorem dX12_laysWords_48 : decode cX12_laysWords 48 = .ok (.aload_n 0, 1) := by decide +kernel
theorem dX12_laysWords_49 : decode cX12_laysWords 49 = .ok (.getfield 47, 3) := by decide +kernel
theorem dX12_laysWords_52 : decode cX12_laysWords 52 = .ok (.iload_n 1, 1) := by decide +kernel
theorem dX12_laysWords_53 : decode cX12_laysWords 53 = .ok (.iaload, 1) := by decide +kernel
theorem dX12_laysWords_54 : decode cX12_laysWords 54 = .ok (.istore_n 2, 1) := by decide +kernel
theorem dX12_laysWords_55 : decode cX12_laysWords 55 = .ok (.iload_n 2, 1) := by decide +kernel
theorem dX12_laysWords_56 : decode cX12_laysWords 56 = .ok (.aload_n 0, 1) := by decide +kernel
theorem dX12_laysWords_57 : decode cX12_laysWords 57 = .ok (.getfield 47, 3) := by decide +kernel
theorem dX12_laysWords_60 : decode cX12_laysWords 60 = .ok (.iload_n 1, 1) := by decide +kernel
theorem dX12_laysWords_61 : decode cX12_laysWords 61 = .ok (.iconst 1, 1) := by decide +kernel
theorem dX12_laysWords_62 : decode cX12_laysWords 62 = .ok (.iadd, 1) := by decide +kernel
theorem dX12_laysWords_63 : decode cX12_laysWords 63 = .ok (.iaload, 1) := by decide +kernel
theorem dX12_laysWords_64 : decode cX12_laysWords 64 = .ok (.if_icmp .ge 73, 3) := by decide +kernel
theorem dX12_laysWords_67 : decode cX12_laysWords 67 = .ok (.aload_n 0, 1) := by decide +kernel
theorem dX12_laysWords_68 : decode cX12_laysWords 68 = .ok (.iload_n 2, 1) := by decide +kernel
theorem dX12_laysWords_69 : decode cX12_laysWords 69 = .ok (.aload_n 0, 1) := by decide +kernel
theorem dX12_laysWords_70 : decode cX12_laysWords 70 = .ok (.getfield 47, 3) := by decide +kernel
theorem dX12_laysWords_73 : decode cX12_laysWords 73 = .ok (.iload_n 1, 1) := by decide +kernel
theorem dX12_laysWords_74 : decode cX12_laysWords 74 = .ok (.iconst 1, 1) := by decide +kernel
theorem dX12_laysWords_75 : decode cX12_laysWords 75 = .ok (.iadd, 1) := by decide +kernel
theorem dX12_laysWords_76 : decode cX12_laysWords 76 = .ok (.iaload, 1) := by decide +kernel
theorem dX12_laysWords_77 : decode cX12_laysWords 77 = .ok (.invokevirtual 314, 3) := by decide +kernel
theorem dX12_laysWords_80 : decode cX12_laysWords 80 = .ok (.istore_n 3, 1) := by decide +kernel
theorem dX12_laysWords_81 : decode cX12_laysWords 81 = .ok (.aload_n 0, 1) := by decide +kernel
theorem dX12_laysWords_82 : decode cX12_laysWords 82 = .ok (.iload_n 3, 1) := by decide +kernel
theorem dX12_laysWords_83 : decode cX12_laysWords 83 = .ok (.invokevirtual 316, 3) := by decide +kernel
theorem dX12_laysWords_86 : decode cX12_laysWords 86 = .ok (.aload_n 0, 1) := by decide +kernel
theorem dX12_laysWords_87 : decode cX12_laysWords 87 = .ok (.getfield 65, 3) := by decide +kernel
theorem dX12_laysWords_90 : decode cX12_laysWords 90 = .ok (.aload_n 0, 1) := by decide +kernel
theorem dX12_laysWords_91 : decode cX12_laysWords 91 = .ok (.getfield 50, 3) := by decide +kernel
theorem dX12_laysWords_94 : decode cX12_laysWords 94 = .ok (.iload_n 2, 1) := by decide +kernel
theorem dX12_laysWords_95 : decode cX12_laysWords 95 = .ok (.iaload, 1) := by decide +kernel
theorem dX12_laysWords_96 : decode cX12_laysWords 96 = .ok (.dup2, 1) := by decide +kernel
theorem dX12_laysWords_97 : decode cX12_laysWords 97 = .ok (.iaload, 1) := by decide +kernel
theorem dX12_laysWords_98 : decode cX12_laysWords 98 = .ok (.iconst 1, 1) := by decide +kernel
theorem dX12_laysWords_99 : decode cX12_laysWords 99 = .ok (.iadd, 1) := by decide +kernel
theorem dX12_laysWords_100 : decode cX12_laysWords 100 = .ok (.iastore, 1) := by decide +kernel
theorem dX12_laysWords_101 : decode cX12_laysWords 101 = .ok (.aload_n 0, 1) := by decide +kernel
theorem dX12_laysWords_102 : decode cX12_laysWords 102 = .ok (.getfield 68, 3) := by decide +kernel
theorem dX12_laysWords_105 : decode cX12_laysWords 105 = .ok (.aload_n 0, 1) := by decide +kernel
theorem dX12_laysWords_106 : decode cX12_laysWords 106 = .ok (.getfield 50, 3) := by decide +kernel
theorem dX12_laysWords_109 : decode cX12_laysWords 109 = .ok (.iload_n 2, 1) := by decide +kernel
theorem dX12_laysWords_110 : decode cX12_laysWords 110 = .ok (.iload_n 3, 1) := by decide +kernel
theorem dX12_laysWords_111 : decode cX12_laysWords 111 = .ok (.iadd, 1) := by decide +kernel
theorem dX12_laysWords_112 : decode cX12_laysWords 112 = .ok (.iconst 1, 1) := by decide +kernel
theorem dX12_laysWords_113 : decode cX12_laysWords 113 = .ok (.isub, 1) := by decide +kernel
theorem dX12_laysWords_114 : decode cX12_laysWords 114 = .ok (.iaload, 1) := by decide +kernel
theorem dX12_laysWords_115 : decode cX12_laysWords 115 = .ok (.dup2, 1) := by decide +kernel
theorem dX12_laysWords_116 : decode cX12_laysWords 116 = .ok (.iaload, 1) := by decide +kernel
theorem dX12_laysWords_117 : decode cX12_laysWords 117 = .ok (.iconst 1, 1) := by decide +kernel
theorem dX12_laysWords_118 : decode cX12_laysWords 118 = .ok (.iadd, 1) := by decide +kernel
theorem dX12_laysWords_119 : decode cX12_laysWords 119 = .ok (.iastore, 1) := by decide +kernel
theorem dX12_laysWords_120 : decode cX12_laysWords 120 = .ok (.aload_n 0, 1) := by decide +kernel
theorem dX12_laysWords_121 : decode cX12_laysWords 121 = .ok (.dup, 1) := by decide +kernel
theorem dX12_laysWords_122 : decode cX12_laysWords 122 = .ok (.getfield 311, 3) := by decide +kernel
theorem dX12_laysWords_125 : decode cX12_laysWords 125 = .ok (.iconst 1, 1) := by decide +kernel
theorem dX12_laysWords_126 : decode cX12_laysWords 126 = .ok (.iadd, 1) := by decide +kernel
theorem dX12_laysWords_127 : decode cX12_laysWords 127 = .ok (.putfield 311, 3) := by decide +kernel
theorem dX12_laysWords_130 : decode cX12_laysWords 130 = .ok (.iload_n 2, 1) := by decide +kernel
theorem dX12_laysWords_131 : decode cX12_laysWords 131 = .ok (.iload_n 3, 1) := by decide +kernel
theorem dX12_laysWords_132 : decode cX12_laysWords 132 = .ok (.iadd, 1) := by decide +kernel
theorem dX12_laysWords_133 : decode cX12_laysWords 133 = .ok (.istore_n 2, 1) := by decide +kernel
theorem dX12_laysWords_134 : decode cX12_laysWords 134 = .ok (.goto (-79), 3) := by decide +kernel
theorem dX12_laysWords_137 : decode cX12_laysWords 137 = .ok (.iinc 1 1, 3) := by decide +kernel
theorem dX12_laysWords_140 : decode cX12_laysWords 140 = .ok (.goto (-100), 3) := by decide +kernel
theorem dX12_laysWords_143 : decode cX12_laysWords 143 = .ok (.return_, 1) := by decide +kernel
noncomputable def f_X12_laysWords_L12 (s : (ZMem × Int32)) : Option ((ZMem × Int32) ⊕ (ZMem)) := if (zI 20) ≤ s.2 then some (.inr s.1) else zchk (zin s.2 20) (zbnd (zstI s.1 19 (zix s.2) (zI 0)) (fun M_24 => zchk (zin s.2 20) (zbnd (zstI M_24 20 (zix s.2) (zI 0)) (fun M_31 => zbnd (s.2 + (zI 1)) (fun x1_32 => some (.inl (M_31, x1_32)))))))
set_option maxRecDepth 100000 in
set_option maxHeartbeats 4000000 in
theorem w_X12_laysWords_L12 {E : ZEv} {G : ZG} {K : ZMem → Prop} (h : zRu lyR E G (zRv K) cX12_laysWords RX12 4 none 3) (s : (ZMem × Int32)) (hk : zOk (zloop (f_X12_laysWords_L12) s) (fun e => G e 38 [(0, zrf E 0)] [])) : G s.1 12 [(0, zrf E 0), (1, .int s.2)] [] := by
  refine zloop_walk (P := fun s => G s.1 12 [(0, zrf E 0), (1, .int s.2)] []) hk (fun s hk => ?_)
  unfold f_X12_laysWords_L12 at hk
  refine zr_iload_n h dX12_laysWords_12 1 rfl rfl ?_
  refine zr_bipush (v := (zI 20)) h dX12_laysWords_13 (by decide) ?_
  refine zr_icmp_ge (tgt := 38) h dX12_laysWords_15 (by decide) (fun c => ?_) (fun c => ?_)
  · have hk := zOk_t c hk
    have hk := zOk_some hk
    exact zr_weak h [0] rfl hk
  · have hk := zOk_f c hk
    refine zr_aload_n h dX12_laysWords_18 0 rfl rfl ?_
    refine zr_getR h zfo_X12_65 lR_0 rfl dX12_laysWords_19 ?_
    refine zr_iload_n h dX12_laysWords_22 1 rfl rfl ?_
    refine zr_iconst (v := (zI 0)) h dX12_laysWords_23 rfl ?_
    have hb := zOk_chk hk
    have hk := hb.2
    refine zr_iast h lR_19 hb.1 dX12_laysWords_24 ?_
    refine zr_mem (fun M_24 eM => ?_)
    have hk := zOk_bnd eM hk
    refine zr_aload_n h dX12_laysWords_25 0 rfl rfl ?_
    refine zr_getR h zfo_X12_68 lR_0 rfl dX12_laysWords_26 ?_
    refine zr_iload_n h dX12_laysWords_29 1 rfl rfl ?_
    refine zr_iconst (v := (zI 0)) h dX12_laysWords_30 rfl ?_
    have hb := zOk_chk hk
    have hk := hb.2
    refine zr_iast h lR_20 hb.1 dX12_laysWords_31 ?_
    refine zr_mem (fun M_31 eM => ?_)
    have hk := zOk_bnd eM hk
    obtain ⟨x1_32, ex⟩ : ∃ y : Int32, y = s.2 + (zI 1) := ⟨_, rfl⟩
    have hk := zOk_bnd ex hk
    refine zr_iinc (v := x1_32) (L' := [(0, zrf E 0), (1, .int x1_32)]) h 1 [1, 0] dX12_laysWords_32 rfl (by rw [ex]; rfl) (by decide) rfl ?_
    refine zr_goto (tgt := 12) h dX12_laysWords_35 (by decide) ?_
    have hk := zOk_some hk
    exact zr_weak h [0, 1] rfl hk
noncomputable def f_X12_laysWords_L55 (x1 : Int32) (s : (ZMem × Int32)) : Option ((ZMem × Int32) ⊕ (ZMem)) := zchk (zin (x1 + (zI 1)) 25) (if (s.1.1 13 (zix (x1 + (zI 1)))) ≤ s.2 then some (.inr s.1) else zchk (zin (x1 + (zI 1)) 25) (zbind (f_X12_length s.1 s.2 (s.1.1 13 (zix (x1 + (zI 1))))) (fun r_77 => zbind (f_X12_comesWord r_77.1 r_77.2) (fun M_83 => zchk (zin s.2 240) (zchk (zin (M_83.1 14 (zix s.2)) 20) (zchk (zin (M_83.1 14 (zix s.2)) 20) (zbnd (zstI M_83 19 (zix (M_83.1 14 (zix s.2))) ((M_83.1 19 (zix (M_83.1 14 (zix s.2)))) + (zI 1))) (fun M_100 => zchk (zin ((s.2 + r_77.2) - (zI 1)) 240) (zchk (zin (M_100.1 14 (zix ((s.2 + r_77.2) - (zI 1)))) 20) (zchk (zin (M_100.1 14 (zix ((s.2 + r_77.2) - (zI 1)))) 20) (zbnd (zstI M_100 20 (zix (M_100.1 14 (zix ((s.2 + r_77.2) - (zI 1))))) ((M_100.1 20 (zix (M_100.1 14 (zix ((s.2 + r_77.2) - (zI 1)))))) + (zI 1))) (fun M_119 => zbnd (zstI M_119 0 26 ((M_119.1 0 26) + (zI 1))) (fun M_127 => zbnd (s.2 + r_77.2) (fun x2_133 => some (.inl (M_127, x2_133))))))))))))))))
set_option maxRecDepth 100000 in
set_option maxHeartbeats 4000000 in
theorem w_X12_laysWords_L55 {E : ZEv} {G : ZG} {K : ZMem → Prop} (h : zRu lyR E G (zRv K) cX12_laysWords RX12 4 none 3) (x1 : Int32) (s : (ZMem × Int32)) (hk : zOk (zloop (f_X12_laysWords_L55 x1) s) (fun e => G e 137 [(0, zrf E 0), (1, .int x1)] [])) : G s.1 55 [(0, zrf E 0), (1, .int x1), (2, .int s.2)] [] := by
  refine zloop_walk (P := fun s => G s.1 55 [(0, zrf E 0), (1, .int x1), (2, .int s.2)] []) hk (fun s hk => ?_)
  unfold f_X12_laysWords_L55 at hk
  refine zr_iload_n h dX12_laysWords_55 2 rfl rfl ?_
  refine zr_aload_n h dX12_laysWords_56 0 rfl rfl ?_
  refine zr_getR h zfo_X12_47 lR_0 rfl dX12_laysWords_57 ?_
  refine zr_iload_n h dX12_laysWords_60 1 rfl rfl ?_
  refine zr_iconst (v := (zI 1)) h dX12_laysWords_61 rfl ?_
  refine zr_iadd h dX12_laysWords_62 ?_
  have hb := zOk_chk hk
  have hk := hb.2
  refine zr_iald h lR_13 hb.1 dX12_laysWords_63 ?_
  refine zr_icmp_ge (tgt := 137) h dX12_laysWords_64 (by decide) (fun c => ?_) (fun c => ?_)
  · have hk := zOk_t c hk
    have hk := zOk_some hk
    exact zr_weak h [0, 1] rfl hk
  · have hk := zOk_f c hk
    refine zr_aload_n h dX12_laysWords_67 0 rfl rfl ?_
    refine zr_iload_n h dX12_laysWords_68 2 rfl rfl ?_
    refine zr_aload_n h dX12_laysWords_69 0 rfl rfl ?_
    refine zr_getR h zfo_X12_47 lR_0 rfl dX12_laysWords_70 ?_
    refine zr_iload_n h dX12_laysWords_73 1 rfl rfl ?_
    refine zr_iconst (v := (zI 1)) h dX12_laysWords_74 rfl ?_
    refine zr_iadd h dX12_laysWords_75 ?_
    have hb := zOk_chk hk
    have hk := hb.2
    refine zr_iald h lR_13 hb.1 dX12_laysWords_76 ?_
    refine zr_callVm h lR_0 zcw_X12_314 (by decide) (c_X12_length E s.1 s.2 (s.1.1 13 (zix (x1 + (zI 1)))) _ (zOk_bind hk)) rfl rfl (Nat.le_of_ble_eq_true rfl) dX12_laysWords_77 (fun r_77 hk => ?_)
    refine zr_istore_n (L' := [(0, zrf E 0), (1, .int x1), (2, .int s.2), (3, .int r_77.2)]) h [1, 2, 3, 0] dX12_laysWords_80 rfl (by decide) rfl ?_
    refine zr_aload_n h dX12_laysWords_81 0 rfl rfl ?_
    refine zr_iload_n h dX12_laysWords_82 3 rfl rfl ?_
    refine zr_callVv h lR_0 zcw_X12_316 (by decide) (c_X12_comesWord E r_77.1 r_77.2 _ (zOk_bind hk)) rfl rfl (Nat.le_of_ble_eq_true rfl) dX12_laysWords_83 (fun M_83 hk => ?_)
    refine zr_aload_n h dX12_laysWords_86 0 rfl rfl ?_
    refine zr_getR h zfo_X12_65 lR_0 rfl dX12_laysWords_87 ?_
    refine zr_aload_n h dX12_laysWords_90 0 rfl rfl ?_
    refine zr_getR h zfo_X12_50 lR_0 rfl dX12_laysWords_91 ?_
    refine zr_iload_n h dX12_laysWords_94 2 rfl rfl ?_
    have hb := zOk_chk hk
    have hk := hb.2
    refine zr_iald h lR_14 hb.1 dX12_laysWords_95 ?_
    refine zr_dup2_11 h dX12_laysWords_96 rfl rfl ?_
    have hb := zOk_chk hk
    have hk := hb.2
    refine zr_iald h lR_19 hb.1 dX12_laysWords_97 ?_
    refine zr_iconst (v := (zI 1)) h dX12_laysWords_98 rfl ?_
    refine zr_iadd h dX12_laysWords_99 ?_
    have hb := zOk_chk hk
    have hk := hb.2
    refine zr_iast h lR_19 hb.1 dX12_laysWords_100 ?_
    refine zr_mem (fun M_100 eM => ?_)
    have hk := zOk_bnd eM hk
    refine zr_aload_n h dX12_laysWords_101 0 rfl rfl ?_
    refine zr_getR h zfo_X12_68 lR_0 rfl dX12_laysWords_102 ?_
    refine zr_aload_n h dX12_laysWords_105 0 rfl rfl ?_
    refine zr_getR h zfo_X12_50 lR_0 rfl dX12_laysWords_106 ?_
    refine zr_iload_n h dX12_laysWords_109 2 rfl rfl ?_
    refine zr_iload_n h dX12_laysWords_110 3 rfl rfl ?_
    refine zr_iadd h dX12_laysWords_111 ?_
    refine zr_iconst (v := (zI 1)) h dX12_laysWords_112 rfl ?_
    refine zr_isub h dX12_laysWords_113 ?_
    have hb := zOk_chk hk
    have hk := hb.2
    refine zr_iald h lR_14 hb.1 dX12_laysWords_114 ?_
    refine zr_dup2_11 h dX12_laysWords_115 rfl rfl ?_
    have hb := zOk_chk hk
    have hk := hb.2
    refine zr_iald h lR_20 hb.1 dX12_laysWords_116 ?_
    refine zr_iconst (v := (zI 1)) h dX12_laysWords_117 rfl ?_
    refine zr_iadd h dX12_laysWords_118 ?_
    have hb := zOk_chk hk
    have hk := hb.2
    refine zr_iast h lR_20 hb.1 dX12_laysWords_119 ?_
    refine zr_mem (fun M_119 eM => ?_)
    have hk := zOk_bnd eM hk
    refine zr_aload_n h dX12_laysWords_120 0 rfl rfl ?_
    refine zr_dup h dX12_laysWords_121 rfl ?_
    refine zr_getI h zfo_X12_311 lR_0 rfl dX12_laysWords_122 ?_
    refine zr_iconst (v := (zI 1)) h dX12_laysWords_125 rfl ?_
    refine zr_iadd h dX12_laysWords_126 ?_
    refine zr_putI h zfp_X12_311 lR_0 rfl dX12_laysWords_127 ?_
    refine zr_mem (fun M_127 eM => ?_)
    have hk := zOk_bnd eM hk
    refine zr_iload_n h dX12_laysWords_130 2 rfl rfl ?_
    refine zr_iload_n h dX12_laysWords_131 3 rfl rfl ?_
    refine zr_iadd h dX12_laysWords_132 ?_
    refine zr_topi (fun x2_133 ex => ?_)
    have hk := zOk_bnd ex hk
    refine zr_istore_n (L' := [(0, zrf E 0), (1, .int x1), (2, .int x2_133)]) h [1, 2, 0] dX12_laysWords_133 rfl (by decide) rfl ?_
    refine zr_goto (tgt := 55) h dX12_laysWords_134 (by decide) ?_
    have hk := zOk_some hk
    exact zr_weak h [0, 1, 2] rfl hk
noncomputable def f_X12_laysWords_L40 (s : (ZMem × Int32)) : Option ((ZMem × Int32) ⊕ (ZMem)) := if (s.1.1 0 23) ≤ s.2 then some (.inr s.1) else zchk (zin s.2 25) (zbnd (s.1.1 13 (zix s.2)) (fun x2_54 => zbind (zloop (f_X12_laysWords_L55 s.2) (s.1, x2_54)) (fun e55 => zbnd (s.2 + (zI 1)) (fun x1_137 => some (.inl (e55, x1_137))))))
set_option maxRecDepth 100000 in
set_option maxHeartbeats 4000000 in
theorem w_X12_laysWords_L40 {E : ZEv} {G : ZG} {K : ZMem → Prop} (h : zRu lyR E G (zRv K) cX12_laysWords RX12 4 none 3) (s : (ZMem × Int32)) (hk : zOk (zloop (f_X12_laysWords_L40) s) (fun e => G e 143 [] [])) : G s.1 40 [(0, zrf E 0), (1, .int s.2)] [] := by
  refine zloop_walk (P := fun s => G s.1 40 [(0, zrf E 0), (1, .int s.2)] []) hk (fun s hk => ?_)
  unfold f_X12_laysWords_L40 at hk
  refine zr_iload_n h dX12_laysWords_40 1 rfl rfl ?_
  refine zr_aload_n h dX12_laysWords_41 0 rfl rfl ?_
  refine zr_getI h zfo_X12_283 lR_0 rfl dX12_laysWords_42 ?_
  refine zr_icmp_ge (tgt := 143) h dX12_laysWords_45 (by decide) (fun c => ?_) (fun c => ?_)
  · have hk := zOk_t c hk
    have hk := zOk_some hk
    exact zr_weak h [] rfl hk
  · have hk := zOk_f c hk
    refine zr_aload_n h dX12_laysWords_48 0 rfl rfl ?_
    refine zr_getR h zfo_X12_47 lR_0 rfl dX12_laysWords_49 ?_
    refine zr_iload_n h dX12_laysWords_52 1 rfl rfl ?_
    have hb := zOk_chk hk
    have hk := hb.2
    refine zr_iald h lR_13 hb.1 dX12_laysWords_53 ?_
    refine zr_topi (fun x2_54 ex => ?_)
    have hk := zOk_bnd ex hk
    refine zr_istore_n (L' := [(0, zrf E 0), (1, .int s.2), (2, .int x2_54)]) h [1, 2, 0] dX12_laysWords_54 rfl (by decide) rfl ?_
    refine w_X12_laysWords_L55 h s.2 (s.1, x2_54) (zOk_mono (zOk_bind hk) (fun e55 hk => ?_))
    obtain ⟨x1_137, ex⟩ : ∃ y : Int32, y = s.2 + (zI 1) := ⟨_, rfl⟩
    have hk := zOk_bnd ex hk
    refine zr_iinc (v := x1_137) (L' := [(0, zrf E 0), (1, .int x1_137)]) h 1 [1, 0] dX12_laysWords_137 rfl (by rw [ex]; rfl) (by decide) rfl ?_
    refine zr_goto (tgt := 40) h dX12_laysWords_140 (by decide) ?_
    have hk := zOk_some hk
    exact zr_weak h [0, 1] rfl hk
noncomputable def f_X12_laysWords (M : ZMem) : Option ZMem := zbnd (zstI M 0 25 (zI 0)) (fun M_2 => zbnd (zstI M_2 0 26 (zI 0)) (fun M_7 => zbind (zloop (f_X12_laysWords_L12) (M_7, (zI 0))) (fun e12 => zbind (zloop (f_X12_laysWords_L40) (e12, (zI 0))) (fun e40 => some e40))))
set_option maxRecDepth 100000 in
set_option maxHeartbeats 4000000 in
theorem c_X12_laysWords (E : ZEv) (M : ZMem) (K : ZMem → Prop) (hk : zOk (f_X12_laysWords M) K) : zCon lyR E yX12_laysWords cX12_laysWords 4 none 3 [zrf E 0] M (zRv K) := by
  refine zcon_of (L0 := [(0, zrf E 0)]) (by decide) rfl (Nat.le_of_ble_eq_true rfl) (fun G h => ?_)
  have h : zRu lyR E G (zRv K) cX12_laysWords RX12 4 none 3 := h
  unfold f_X12_laysWords at hk
  refine zr_aload_n h dX12_laysWords_0 0 rfl rfl ?_
  refine zr_iconst (v := (zI 0)) h dX12_laysWords_1 rfl ?_
  refine zr_putI h zfp_X12_302 lR_0 rfl dX12_laysWords_2 ?_
  refine zr_mem (fun M_2 eM => ?_)
  have hk := zOk_bnd eM hk
  refine zr_aload_n h dX12_laysWords_5 0 rfl rfl ?_
  refine zr_iconst (v := (zI 0)) h dX12_laysWords_6 rfl ?_
  refine zr_putI h zfp_X12_311 lR_0 rfl dX12_laysWords_7 ?_
  refine zr_mem (fun M_7 eM => ?_)
  have hk := zOk_bnd eM hk
  refine zr_iconst (v := (zI 0)) h dX12_laysWords_10 rfl ?_
  refine zr_istore_n (L' := [(0, zrf E 0), (1, .int (zI 0))]) h [1, 0] dX12_laysWords_11 rfl (by decide) rfl ?_
  refine w_X12_laysWords_L12 h (M_7, (zI 0)) (zOk_mono (zOk_bind hk) (fun e12 hk => ?_))
  refine zr_iconst (v := (zI 0)) h dX12_laysWords_38 rfl ?_
  refine zr_istore_n (L' := [(0, zrf E 0), (1, .int (zI 0))]) h [1, 0] dX12_laysWords_39 rfl (by decide) rfl ?_
  refine w_X12_laysWords_L40 h (e12, (zI 0)) (zOk_mono (zOk_bind hk) (fun e40 hk => ?_))
  have hk := zOk_some hk
  exact zr_vret h dX12_laysWords_143 ⟨rfl, hk⟩
theorem dX12_unlikePlaces_0 : decode cX12_unlikePlaces 0 = .ok (.iconst 0, 1) := by decide +kernel
theorem dX12_unlikePlaces_1 : decode cX12_unlikePlaces 1 = .ok (.istore_n 3, 1) := by decide +kernel
theorem dX12_unlikePlaces_2 : decode cX12_unlikePlaces 2 = .ok (.iconst 0, 1) := by decide +kernel
theorem dX12_unlikePlaces_3 : decode cX12_unlikePlaces 3 = .ok (.istore 4, 2) := by decide +kernel
theorem dX12_unlikePlaces_5 : decode cX12_unlikePlaces 5 = .ok (.iload 4, 2) := by decide +kernel
theorem dX12_unlikePlaces_7 : decode cX12_unlikePlaces 7 = .ok (.aload_n 0, 1) := by decide +kernel
theorem dX12_unlikePlaces_8 : decode cX12_unlikePlaces 8 = .ok (.getfield 56, 3) := by decide +kernel
theorem dX12_unlikePlaces_11 : decode cX12_unlikePlaces 11 = .ok (.iload_n 1, 1) := by decide +kernel
theorem dX12_unlikePlaces_12 : decode cX12_unlikePlaces 12 = .ok (.iaload, 1) := by decide +kernel
theorem dX12_unlikePlaces_13 : decode cX12_unlikePlaces 13 = .ok (.if_icmp .ge 47, 3) := by decide +kernel
theorem dX12_unlikePlaces_16 : decode cX12_unlikePlaces 16 = .ok (.iload_n 3, 1) := by decide +kernel
theorem dX12_unlikePlaces_17 : decode cX12_unlikePlaces 17 = .ok (.aload_n 0, 1) := by decide +kernel
theorem dX12_unlikePlaces_18 : decode cX12_unlikePlaces 18 = .ok (.getfield 59, 3) := by decide +kernel
theorem dX12_unlikePlaces_21 : decode cX12_unlikePlaces 21 = .ok (.bipush 7, 2) := by decide +kernel
theorem dX12_unlikePlaces_23 : decode cX12_unlikePlaces 23 = .ok (.iload_n 1, 1) := by decide +kernel
theorem dX12_unlikePlaces_24 : decode cX12_unlikePlaces 24 = .ok (.imul, 1) := by decide +kernel
theorem dX12_unlikePlaces_25 : decode cX12_unlikePlaces 25 = .ok (.iload 4, 2) := by decide +kernel
theorem dX12_unlikePlaces_27 : decode cX12_unlikePlaces 27 = .ok (.iadd, 1) := by decide +kernel
theorem dX12_unlikePlaces_28 : decode cX12_unlikePlaces 28 = .ok (.iaload, 1) := by decide +kernel
theorem dX12_unlikePlaces_29 : decode cX12_unlikePlaces 29 = .ok (.aload_n 0, 1) := by decide +kernel
theorem dX12_unlikePlaces_30 : decode cX12_unlikePlaces 30 = .ok (.getfield 59, 3) := by decide +kernel
theorem dX12_unlikePlaces_33 : decode cX12_unlikePlaces 33 = .ok (.bipush 7, 2) := by decide +kernel
theorem dX12_unlikePlaces_35 : decode cX12_unlikePlaces 35 = .ok (.iload_n 2, 1) := by decide +kernel
theorem dX12_unlikePlaces_36 : decode cX12_unlikePlaces 36 = .ok (.imul, 1) := by decide +kernel
theorem dX12_unlikePlaces_37 : decode cX12_unlikePlaces 37 = .ok (.iload 4, 2) := by decide +kernel
theorem dX12_unlikePlaces_39 : decode cX12_unlikePlaces 39 = .ok (.iadd, 1) := by decide +kernel
theorem dX12_unlikePlaces_40 : decode cX12_unlikePlaces 40 = .ok (.iaload, 1) := by decide +kernel
theorem dX12_unlikePlaces_41 : decode cX12_unlikePlaces 41 = .ok (.if_icmp .eq 7, 3) := by decide +kernel
theorem dX12_unlikePlaces_44 : decode cX12_unlikePlaces 44 = .ok (.iconst 1, 1) := by decide +kernel
theorem dX12_unlikePlaces_45 : decode cX12_unlikePlaces 45 = .ok (.goto 4, 3) := by decide +kernel
theorem dX12_unlikePlaces_48 : decode cX12_unlikePlaces 48 = .ok (.iconst 0, 1) := by decide +kernel
theorem dX12_unlikePlaces_49 : decode cX12_unlikePlaces 49 = .ok (.invokestatic 177, 3) := by decide +kernel
theorem dX12_unlikePlaces_52 : decode cX12_unlikePlaces 52 = .ok (.iadd, 1) := by decide +kernel
theorem dX12_unlikePlaces_53 : decode cX12_unlikePlaces 53 = .ok (.istore_n 3, 1) := by decide +kernel
theorem dX12_unlikePlaces_54 : decode cX12_unlikePlaces 54 = .ok (.iinc 4 1, 3) := by decide +kernel
theorem dX12_unlikePlaces_57 : decode cX12_unlikePlaces 57 = .ok (.goto (-52), 3) := by decide +kernel
theorem dX12_unlikePlaces_60 : decode cX12_unlikePlaces 60 = .ok (.iload_n 3, 1) := by decide +kernel
theorem dX12_unlikePlaces_61 : decode cX12_unlikePlaces 61 = .ok (.ireturn, 1) := by decide +kernel
noncomputable def f_X12_unlikePlaces_49_L5 (M : ZMem) (x1 : Int32) (x2 : Int32) (x4 : Int32) (v0 : Int32) (v1 : Int32) : Option ((Int32 × Int32) ⊕ (Int32)) := zbind (f_X12_truth M v1) (fun r_49 => zbnd (v0 + r_49) (fun x3_53 => zbnd (x4 + (zI 1)) (fun x4_54 => some (.inl (x3_53, x4_54)))))
set_option maxRecDepth 100000 in
set_option maxHeartbeats 4000000 in
theorem w_X12_unlikePlaces_49_L5 {E : ZEv} {G : ZG} {K : Int32 → Prop} (M : ZMem) (h : zRu lyR E G (zRp M K) cX12_unlikePlaces RX12 5 (some .int) 1) (x1 : Int32) (x2 : Int32) (x4 : Int32) (v0 : Int32) (v1 : Int32) (hk : zOk (f_X12_unlikePlaces_49_L5 M x1 x2 x4 v0 v1) (zlp (fun s => G M 5 [(0, zrf E 0), (1, .int x1), (2, .int x2), (3, .int s.1), (4, .int s.2)] []) (fun e => G M 60 [(3, .int e)] []))) : G M 49 [(0, zrf E 0), (1, .int x1), (2, .int x2), (4, .int x4)] [.int v1, .int v0] := by
  unfold f_X12_unlikePlaces_49_L5 at hk
  refine zr_callSp h zcw_X12_177 (by decide) (c_X12_truth E M v1 _ (zOk_bind hk)) rfl rfl (Nat.le_of_ble_eq_true rfl) dX12_unlikePlaces_49 (fun r_49 hk => ?_)
  refine zr_iadd h dX12_unlikePlaces_52 ?_
  refine zr_topi (fun x3_53 ex => ?_)
  have hk := zOk_bnd ex hk
  refine zr_istore_n (L' := [(0, zrf E 0), (1, .int x1), (2, .int x2), (3, .int x3_53), (4, .int x4)]) h [1, 2, 3, 0, 4] dX12_unlikePlaces_53 rfl (by decide) rfl ?_
  obtain ⟨x4_54, ex⟩ : ∃ y : Int32, y = x4 + (zI 1) := ⟨_, rfl⟩
  have hk := zOk_bnd ex hk
  refine zr_iinc (v := x4_54) (L' := [(0, zrf E 0), (1, .int x1), (2, .int x2), (3, .int x3_53), (4, .int x4_54)]) h 4 [1, 2, 3, 4, 0] dX12_unlikePlaces_54 rfl (by rw [ex]; rfl) (by decide) rfl ?_
  refine zr_goto (tgt := 5) h dX12_unlikePlaces_57 (by decide) ?_
  have hk := zOk_some hk
  exact zr_weak h [0, 1, 2, 3, 4] rfl hk
noncomputable def f_X12_unlikePlaces_L5 (M : ZMem) (x1 : Int32) (x2 : Int32) (s : (Int32 × Int32)) : Option ((Int32 × Int32) ⊕ (Int32)) := zchk (zin x1 241) (if (M.1 16 (zix x1)) ≤ s.2 then some (.inr s.1) else zchk (zin (((zI 7) * x1) + s.2) 1687) (zchk (zin (((zI 7) * x2) + s.2) 1687) (if (M.1 17 (zix (((zI 7) * x1) + s.2))) = (M.1 17 (zix (((zI 7) * x2) + s.2))) then f_X12_unlikePlaces_49_L5 M x1 x2 s.2 s.1 (zI 0) else f_X12_unlikePlaces_49_L5 M x1 x2 s.2 s.1 (zI 1))))
set_option maxRecDepth 100000 in
set_option maxHeartbeats 4000000 in
theorem w_X12_unlikePlaces_L5 {E : ZEv} {G : ZG} {K : Int32 → Prop} (M : ZMem) (h : zRu lyR E G (zRp M K) cX12_unlikePlaces RX12 5 (some .int) 1) (x1 : Int32) (x2 : Int32) (s : (Int32 × Int32)) (hk : zOk (zloop (f_X12_unlikePlaces_L5 M x1 x2) s) (fun e => G M 60 [(3, .int e)] [])) : G M 5 [(0, zrf E 0), (1, .int x1), (2, .int x2), (3, .int s.1), (4, .int s.2)] [] := by
  refine zloop_walk (P := fun s => G M 5 [(0, zrf E 0), (1, .int x1), (2, .int x2), (3, .int s.1), (4, .int s.2)] []) hk (fun s hk => ?_)
  unfold f_X12_unlikePlaces_L5 at hk
  refine zr_iload h dX12_unlikePlaces_5 4 rfl ?_
  refine zr_aload_n h dX12_unlikePlaces_7 0 rfl rfl ?_
  refine zr_getR h zfo_X12_56 lR_0 rfl dX12_unlikePlaces_8 ?_
  refine zr_iload_n h dX12_unlikePlaces_11 1 rfl rfl ?_
  have hb := zOk_chk hk
  have hk := hb.2
  refine zr_iald h lR_16 hb.1 dX12_unlikePlaces_12 ?_
  refine zr_icmp_ge (tgt := 60) h dX12_unlikePlaces_13 (by decide) (fun c => ?_) (fun c => ?_)
  · have hk := zOk_t c hk
    have hk := zOk_some hk
    exact zr_weak h [3] rfl hk
  · have hk := zOk_f c hk
    refine zr_iload_n h dX12_unlikePlaces_16 3 rfl rfl ?_
    refine zr_aload_n h dX12_unlikePlaces_17 0 rfl rfl ?_
    refine zr_getR h zfo_X12_59 lR_0 rfl dX12_unlikePlaces_18 ?_
    refine zr_bipush (v := (zI 7)) h dX12_unlikePlaces_21 (by decide) ?_
    refine zr_iload_n h dX12_unlikePlaces_23 1 rfl rfl ?_
    refine zr_imul h dX12_unlikePlaces_24 ?_
    refine zr_iload h dX12_unlikePlaces_25 4 rfl ?_
    refine zr_iadd h dX12_unlikePlaces_27 ?_
    have hb := zOk_chk hk
    have hk := hb.2
    refine zr_iald h lR_17 hb.1 dX12_unlikePlaces_28 ?_
    refine zr_aload_n h dX12_unlikePlaces_29 0 rfl rfl ?_
    refine zr_getR h zfo_X12_59 lR_0 rfl dX12_unlikePlaces_30 ?_
    refine zr_bipush (v := (zI 7)) h dX12_unlikePlaces_33 (by decide) ?_
    refine zr_iload_n h dX12_unlikePlaces_35 2 rfl rfl ?_
    refine zr_imul h dX12_unlikePlaces_36 ?_
    refine zr_iload h dX12_unlikePlaces_37 4 rfl ?_
    refine zr_iadd h dX12_unlikePlaces_39 ?_
    have hb := zOk_chk hk
    have hk := hb.2
    refine zr_iald h lR_17 hb.1 dX12_unlikePlaces_40 ?_
    refine zr_icmp_eq (tgt := 48) h dX12_unlikePlaces_41 (by decide) (fun c => ?_) (fun c => ?_)
    · have hk := zOk_t c hk
      refine zr_iconst (v := (zI 0)) h dX12_unlikePlaces_48 rfl ?_
      exact zr_weak h [0, 1, 2, 4] rfl (w_X12_unlikePlaces_49_L5 M h x1 x2 s.2 s.1 (zI 0) hk)
    · have hk := zOk_f c hk
      refine zr_iconst (v := (zI 1)) h dX12_unlikePlaces_44 rfl ?_
      refine zr_goto (tgt := 49) h dX12_unlikePlaces_45 (by decide) ?_
      exact zr_weak h [0, 1, 2, 4] rfl (w_X12_unlikePlaces_49_L5 M h x1 x2 s.2 s.1 (zI 1) hk)
noncomputable def f_X12_unlikePlaces (M : ZMem) (x1 : Int32) (x2 : Int32) : Option Int32 := zbind (zloop (f_X12_unlikePlaces_L5 M x1 x2) ((zI 0), (zI 0))) (fun e5 => some e5)
set_option maxRecDepth 100000 in
set_option maxHeartbeats 4000000 in
theorem c_X12_unlikePlaces (E : ZEv) (M : ZMem) (x1 : Int32) (x2 : Int32) (K : Int32 → Prop) (hk : zOk (f_X12_unlikePlaces M x1 x2) K) : zCon lyR E yX12_unlikePlaces cX12_unlikePlaces 5 (some .int) 1 [zrf E 0, .int x1, .int x2] M (zRp M K) := by
  refine zcon_of (L0 := [(0, zrf E 0), (1, .int x1), (2, .int x2)]) (by decide) rfl (Nat.le_of_ble_eq_true rfl) (fun G h => ?_)
  have h : zRu lyR E G (zRp M K) cX12_unlikePlaces RX12 5 (some .int) 1 := h
  unfold f_X12_unlikePlaces at hk
  refine zr_iconst (v := (zI 0)) h dX12_unlikePlaces_0 rfl ?_
  refine zr_istore_n (L' := [(0, zrf E 0), (1, .int x1), (2, .int x2), (3, .int (zI 0))]) h [1, 2, 3, 0] dX12_unlikePlaces_1 rfl (by decide) rfl ?_
  refine zr_iconst (v := (zI 0)) h dX12_unlikePlaces_2 rfl ?_
  refine zr_istore (L' := [(0, zrf E 0), (1, .int x1), (2, .int x2), (3, .int (zI 0)), (4, .int (zI 0))]) h [1, 2, 3, 4, 0] dX12_unlikePlaces_3 (by decide) rfl ?_
  refine w_X12_unlikePlaces_L5 M h x1 x2 ((zI 0), (zI 0)) (zOk_mono (zOk_bind hk) (fun e5 hk => ?_))
  refine zr_iload_n h dX12_unlikePlaces_60 0 rfl rfl ?_
  have hk := zOk_some hk
  exact zr_iret h dX12_unlikePlaces_61 ⟨rfl, _, rfl, hk⟩
theorem dX12_clueAt_0 : decode cX12_clueAt 0 = .ok (.bipush 20, 2) := by decide +kernel
theorem dX12_clueAt_2 : decode cX12_clueAt 2 = .ok (.bipush 20, 2) := by decide +kernel
theorem dX12_clueAt_4 : decode cX12_clueAt 4 = .ok (.iload_n 0, 1) := by decide +kernel
theorem dX12_clueAt_5 : decode cX12_clueAt 5 = .ok (.imul, 1) := by decide +kernel
theorem dX12_clueAt_6 : decode cX12_clueAt 6 = .ok (.iload_n 1, 1) := by decide +kernel
theorem dX12_clueAt_7 : decode cX12_clueAt 7 = .ok (.iadd, 1) := by decide +kernel
theorem dX12_clueAt_8 : decode cX12_clueAt 8 = .ok (.imul, 1) := by decide +kernel
theorem dX12_clueAt_9 : decode cX12_clueAt 9 = .ok (.iload_n 2, 1) := by decide +kernel
theorem dX12_clueAt_10 : decode cX12_clueAt 10 = .ok (.iadd, 1) := by decide +kernel
theorem dX12_clueAt_11 : decode cX12_clueAt 11 = .ok (.ireturn, 1) := by decide +kernel
noncomputable def f_X12_clueAt (M : ZMem) (x0 : Int32) (x1 : Int32) (x2 : Int32) : Option Int32 := some (((zI 20) * (((zI 20) * x0) + x1)) + x2)
set_option maxRecDepth 100000 in
set_option maxHeartbeats 4000000 in
theorem c_X12_clueAt (E : ZEv) (M : ZMem) (x0 : Int32) (x1 : Int32) (x2 : Int32) (K : Int32 → Prop) (hk : zOk (f_X12_clueAt M x0 x1 x2) K) : zCon lyR E yX12_clueAt cX12_clueAt 3 (some .int) 0 [.int x0, .int x1, .int x2] M (zRp M K) := by
  refine zcon_of (L0 := [(0, .int x0), (1, .int x1), (2, .int x2)]) (by decide) rfl (Nat.le_of_ble_eq_true rfl) (fun G h => ?_)
  have h : zRu lyR E G (zRp M K) cX12_clueAt RX12 3 (some .int) 0 := h
  unfold f_X12_clueAt at hk
  refine zr_bipush (v := (zI 20)) h dX12_clueAt_0 (by decide) ?_
  refine zr_bipush (v := (zI 20)) h dX12_clueAt_2 (by decide) ?_
  refine zr_iload_n h dX12_clueAt_4 0 rfl rfl ?_
  refine zr_imul h dX12_clueAt_5 ?_
  refine zr_iload_n h dX12_clueAt_6 1 rfl rfl ?_
  refine zr_iadd h dX12_clueAt_7 ?_
  refine zr_imul h dX12_clueAt_8 ?_
  refine zr_iload_n h dX12_clueAt_9 2 rfl rfl ?_
  refine zr_iadd h dX12_clueAt_10 ?_
  have hk := zOk_some hk
  exact zr_iret h dX12_clueAt_11 ⟨rfl, _, rfl, hk⟩
theorem dX12_tellsClue_0 : decode cX12_tellsClue 0 = .ok (.iload_n 2, 1) := by decide +kernel
theorem dX12_tellsClue_1 : decode cX12_tellsClue 1 = .ok (.iload_n 3, 1) := by decide +kernel
theorem dX12_tellsClue_2 : decode cX12_tellsClue 2 = .ok (.if_icmp .eq 27, 3) := by decide +kernel
theorem dX12_tellsClue_5 : decode cX12_tellsClue 5 = .ok (.aload_n 0, 1) := by decide +kernel
theorem dX12_tellsClue_6 : decode cX12_tellsClue 6 = .ok (.getfield 74, 3) := by decide +kernel
theorem dX12_tellsClue_9 : decode cX12_tellsClue 9 = .ok (.iload_n 1, 1) := by decide +kernel
theorem dX12_tellsClue_10 : decode cX12_tellsClue 10 = .ok (.iload_n 2, 1) := by decide +kernel
theorem dX12_tellsClue_11 : decode cX12_tellsClue 11 = .ok (.iload_n 3, 1) := by decide +kernel
theorem dX12_tellsClue_12 : decode cX12_tellsClue 12 = .ok (.invokestatic 340, 3) := by decide +kernel
theorem dX12_tellsClue_15 : decode cX12_tellsClue 15 = .ok (.iconst 1, 1) := by decide +kernel
theorem dX12_tellsClue_16 : decode cX12_tellsClue 16 = .ok (.bastore, 1) := by decide +kernel
theorem dX12_tellsClue_17 : decode cX12_tellsClue 17 = .ok (.aload_n 0, 1) := by decide +kernel
theorem dX12_tellsClue_18 : decode cX12_tellsClue 18 = .ok (.getfield 74, 3) := by decide +kernel
theorem dX12_tellsClue_21 : decode cX12_tellsClue 21 = .ok (.iload_n 1, 1) := by decide +kernel
theorem dX12_tellsClue_22 : decode cX12_tellsClue 22 = .ok (.iload_n 3, 1) := by decide +kernel
theorem dX12_tellsClue_23 : decode cX12_tellsClue 23 = .ok (.iload_n 2, 1) := by decide +kernel
theorem dX12_tellsClue_24 : decode cX12_tellsClue 24 = .ok (.invokestatic 340, 3) := by decide +kernel
theorem dX12_tellsClue_27 : decode cX12_tellsClue 27 = .ok (.iconst 1, 1) := by decide +kernel
theorem dX12_tellsClue_28 : decode cX12_tellsClue 28 = .ok (.bastore, 1) := by decide +kernel
theorem dX12_tellsClue_29 : decode cX12_tellsClue 29 = .ok (.return_, 1) := by decide +kernel
noncomputable def f_X12_tellsClue (M : ZMem) (x1 : Int32) (x2 : Int32) (x3 : Int32) : Option ZMem := if x2 = x3 then some M else zbind (f_X12_clueAt M x1 x2 x3) (fun r_12 => zchk (zin r_12 800) (zbnd (zstI M 22 (zix r_12) (vp_nar .boolean (zI 1))) (fun M_16 => zbind (f_X12_clueAt M_16 x1 x3 x2) (fun r_24 => zchk (zin r_24 800) (zbnd (zstI M_16 22 (zix r_24) (vp_nar .boolean (zI 1))) (fun M_28 => some M_28))))))
set_option maxRecDepth 100000 in
set_option maxHeartbeats 4000000 in
theorem c_X12_tellsClue (E : ZEv) (M : ZMem) (x1 : Int32) (x2 : Int32) (x3 : Int32) (K : ZMem → Prop) (hk : zOk (f_X12_tellsClue M x1 x2 x3) K) : zCon lyR E yX12_tellsClue cX12_tellsClue 4 none 1 [zrf E 0, .int x1, .int x2, .int x3] M (zRv K) := by
  refine zcon_of (L0 := [(0, zrf E 0), (1, .int x1), (2, .int x2), (3, .int x3)]) (by decide) rfl (Nat.le_of_ble_eq_true rfl) (fun G h => ?_)
  have h : zRu lyR E G (zRv K) cX12_tellsClue RX12 4 none 1 := h
  unfold f_X12_tellsClue at hk
  refine zr_iload_n h dX12_tellsClue_0 2 rfl rfl ?_
  refine zr_iload_n h dX12_tellsClue_1 3 rfl rfl ?_
  refine zr_icmp_eq (tgt := 29) h dX12_tellsClue_2 (by decide) (fun c => ?_) (fun c => ?_)
  · have hk := zOk_t c hk
    have hk := zOk_some hk
    exact zr_vret h dX12_tellsClue_29 ⟨rfl, hk⟩
  · have hk := zOk_f c hk
    refine zr_aload_n h dX12_tellsClue_5 0 rfl rfl ?_
    refine zr_getR h zfo_X12_74 lR_0 rfl dX12_tellsClue_6 ?_
    refine zr_iload_n h dX12_tellsClue_9 1 rfl rfl ?_
    refine zr_iload_n h dX12_tellsClue_10 2 rfl rfl ?_
    refine zr_iload_n h dX12_tellsClue_11 3 rfl rfl ?_
    refine zr_callSp h zcw_X12_340 (by decide) (c_X12_clueAt E M x1 x2 x3 _ (zOk_bind hk)) rfl rfl (Nat.le_of_ble_eq_true rfl) dX12_tellsClue_12 (fun r_12 hk => ?_)
    refine zr_iconst (v := (zI 1)) h dX12_tellsClue_15 rfl ?_
    have hb := zOk_chk hk
    have hk := hb.2
    refine zr_zast h lR_22 hb.1 dX12_tellsClue_16 ?_
    refine zr_mem (fun M_16 eM => ?_)
    have hk := zOk_bnd eM hk
    refine zr_aload_n h dX12_tellsClue_17 0 rfl rfl ?_
    refine zr_getR h zfo_X12_74 lR_0 rfl dX12_tellsClue_18 ?_
    refine zr_iload_n h dX12_tellsClue_21 1 rfl rfl ?_
    refine zr_iload_n h dX12_tellsClue_22 3 rfl rfl ?_
    refine zr_iload_n h dX12_tellsClue_23 2 rfl rfl ?_
    refine zr_callSp h zcw_X12_340 (by decide) (c_X12_clueAt E M_16 x1 x3 x2 _ (zOk_bind hk)) rfl rfl (Nat.le_of_ble_eq_true rfl) dX12_tellsClue_24 (fun r_24 hk => ?_)
    refine zr_iconst (v := (zI 1)) h dX12_tellsClue_27 rfl ?_
    have hb := zOk_chk hk
    have hk := hb.2
    refine zr_zast h lR_22 hb.1 dX12_tellsClue_28 ?_
    refine zr_mem (fun M_28 eM => ?_)
    have hk := zOk_bnd eM hk
    have hk := zOk_some hk
    exact zr_vret h dX12_tellsClue_29 ⟨rfl, hk⟩
theorem dX12_cluesOf_0 : decode cX12_cluesOf 0 = .ok (.aload_n 0, 1) := by decide +kernel
theorem dX12_cluesOf_1 : decode cX12_cluesOf 1 = .ok (.getfield 56, 3) := by decide +kernel
theorem dX12_cluesOf_4 : decode cX12_cluesOf 4 = .ok (.iload_n 1, 1) := by decide +kernel
theorem dX12_cluesOf_5 : decode cX12_cluesOf 5 = .ok (.iaload, 1) := by decide +kernel
theorem dX12_cluesOf_6 : decode cX12_cluesOf 6 = .ok (.istore_n 3, 1) := by decide +kernel
theorem dX12_cluesOf_7 : decode cX12_cluesOf 7 = .ok (.iload_n 3, 1) := by decide +kernel
theorem dX12_cluesOf_8 : decode cX12_cluesOf 8 = .ok (.iconst 2, 1) := by decide +kernel
theorem dX12_cluesOf_9 : decode cX12_cluesOf 9 = .ok (.if_icmp .lt 23, 3) := by decide +kernel
theorem dX12_cluesOf_12 : decode cX12_cluesOf 12 = .ok (.aload_n 0, 1) := by decide +kernel
theorem dX12_cluesOf_13 : decode cX12_cluesOf 13 = .ok (.getfield 56, 3) := by decide +kernel
theorem dX12_cluesOf_16 : decode cX12_cluesOf 16 = .ok (.iload_n 2, 1) := by decide +kernel
theorem dX12_cluesOf_17 : decode cX12_cluesOf 17 = .ok (.iaload, 1) := by decide +kernel
theorem dX12_cluesOf_18 : decode cX12_cluesOf 18 = .ok (.iload_n 3, 1) := by decide +kernel
theorem dX12_cluesOf_19 : decode cX12_cluesOf 19 = .ok (.if_icmp .ne 13, 3) := by decide +kernel
theorem dX12_cluesOf_22 : decode cX12_cluesOf 22 = .ok (.aload_n 0, 1) := by decide +kernel
theorem dX12_cluesOf_23 : decode cX12_cluesOf 23 = .ok (.iload_n 1, 1) := by decide +kernel
theorem dX12_cluesOf_24 : decode cX12_cluesOf 24 = .ok (.iload_n 2, 1) := by decide +kernel
theorem dX12_cluesOf_25 : decode cX12_cluesOf 25 = .ok (.invokevirtual 343, 3) := by decide +kernel
theorem dX12_cluesOf_28 : decode cX12_cluesOf 28 = .ok (.iconst 1, 1) := by decide +kernel
theorem dX12_cluesOf_29 : decode cX12_cluesOf 29 = .ok (.if_icmp .eq 4, 3) := by decide +kernel
theorem dX12_cluesOf_32 : decode cX12_cluesOf 32 = .ok (.return_, 1) := by decide +kernel
theorem dX12_cluesOf_33 : decode cX12_cluesOf 33 = .ok (.bipush 7, 2) := by decide +kernel
theorem dX12_cluesOf_35 : decode cX12_cluesOf 35 = .ok (.iload_n 1, 1) := by decide +kernel
theorem dX12_cluesOf_36 : decode cX12_cluesOf 36 = .ok (.imul, 1) := by decide +kernel
theorem dX12_cluesOf_37 : decode cX12_cluesOf 37 = .ok (.iload_n 3, 1) := by decide +kernel
theorem dX12_cluesOf_38 : decode cX12_cluesOf 38 = .ok (.iadd, 1) := by decide +kernel
theorem dX12_cluesOf_39 : decode cX12_cluesOf 39 = .ok (.iconst 1, 1) := by decide +kernel
theorem dX12_cluesOf_40 : decode cX12_cluesOf 40 = .ok (.isub, 1) := by decide +kernel
theorem dX12_cluesOf_41 : decode cX12_cluesOf 41 = .ok (.istore 4, 2) := by decide +kernel
theorem dX12_cluesOf_43 : decode cX12_cluesOf 43 = .ok (.aload_n 0, 1) := by decide +kernel
theorem dX12_cluesOf_44 : decode cX12_cluesOf 44 = .ok (.getfield 59, 3) := by decide +kernel
theorem dX12_cluesOf_47 : decode cX12_cluesOf 47 = .ok (.iload 4, 2) := by decide +kernel
theorem dX12_cluesOf_49 : decode cX12_cluesOf 49 = .ok (.iaload, 1) := by decide +kernel
theorem dX12_cluesOf_50 : decode cX12_cluesOf 50 = .ok (.aload_n 0, 1) := by decide +kernel
theorem dX12_cluesOf_51 : decode cX12_cluesOf 51 = .ok (.getfield 59, 3) := by decide +kernel
theorem dX12_cluesOf_54 : decode cX12_cluesOf 54 = .ok (.bipush 7, 2) := by decide +kernel
theorem dX12_cluesOf_56 : decode cX12_cluesOf 56 = .ok (.iload_n 2, 1) := by decide +kernel
theorem dX12_cluesOf_57 : decode cX12_cluesOf 57 = .ok (.imul, 1) := by decide +kernel
theorem dX12_cluesOf_58 : decode cX12_cluesOf 58 = .ok (.iload_n 3, 1) := by decide +kernel
theorem dX12_cluesOf_59 : decode cX12_cluesOf 59 = .ok (.iadd, 1) := by decide +kernel
theorem dX12_cluesOf_60 : decode cX12_cluesOf 60 = .ok (.iconst 1, 1) := by decide +kernel
theorem dX12_cluesOf_61 : decode cX12_cluesOf 61 = .ok (.isub, 1) := by decide +kernel
theorem dX12_cluesOf_62 : decode cX12_cluesOf 62 = .ok (.iaload, 1) := by decide +kernel
theorem dX12_cluesOf_63 : decode cX12_cluesOf 63 = .ok (.if_icmp .eq 28, 3) := by decide +kernel
theorem dX12_cluesOf_66 : decode cX12_cluesOf 66 = .ok (.aload_n 0, 1) := by decide +kernel
theorem dX12_cluesOf_67 : decode cX12_cluesOf 67 = .ok (.iconst 0, 1) := by decide +kernel
theorem dX12_cluesOf_68 : decode cX12_cluesOf 68 = .ok (.aload_n 0, 1) := by decide +kernel
theorem dX12_cluesOf_69 : decode cX12_cluesOf 69 = .ok (.getfield 59, 3) := by decide +kernel
theorem dX12_cluesOf_72 : decode cX12_cluesOf 72 = .ok (.iload 4, 2) := by decide +kernel
theorem dX12_cluesOf_74 : decode cX12_cluesOf 74 = .ok (.iaload, 1) := by decide +kernel
theorem dX12_cluesOf_75 : decode cX12_cluesOf 75 = .ok (.aload_n 0, 1) := by decide +kernel
theorem dX12_cluesOf_76 : decode cX12_cluesOf 76 = .ok (.getfield 59, 3) := by decide +kernel
theorem dX12_cluesOf_79 : decode cX12_cluesOf 79 = .ok (.bipush 7, 2) := by decide +kernel
theorem dX12_cluesOf_81 : decode cX12_cluesOf 81 = .ok (.iload_n 2, 1) := by decide +kernel
theorem dX12_cluesOf_82 : decode cX12_cluesOf 82 = .ok (.imul, 1) := by decide +kernel
theorem dX12_cluesOf_83 : decode cX12_cluesOf 83 = .ok (.iload_n 3, 1) := by decide +kernel
theorem dX12_cluesOf_84 : decode cX12_cluesOf 84 = .ok (.iadd, 1) := by decide +kernel
theorem dX12_cluesOf_85 : decode cX12_cluesOf 85 = .ok (.iconst 1, 1) := by decide +kernel
theorem dX12_cluesOf_86 : decode cX12_cluesOf 86 = .ok (.isub, 1) := by decide +kernel
theorem dX12_cluesOf_87 : decode cX12_cluesOf 87 = .ok (.iaload, 1) := by decide +kernel
theorem dX12_cluesOf_88 : decode cX12_cluesOf 88 = .ok (.invokevirtual 346, 3) := by decide +kernel
theorem dX12_cluesOf_91 : decode cX12_cluesOf 91 = .ok (.aload_n 0, 1) := by decide +kernel
theorem dX12_cluesOf_92 : decode cX12_cluesOf 92 = .ok (.getfield 59, 3) := by decide +kernel
theorem dX12_cluesOf_95 : decode cX12_cluesOf 95 = .ok (.bipush 7, 2) := by decide +kernel
theorem dX12_cluesOf_97 : decode cX12_cluesOf 97 = .ok (.iload_n 1, 1) := by decide +kernel
theorem dX12_cluesOf_98 : decode cX12_cluesOf 98 = .ok (.imul, 1) := by decide +kernel
theorem dX12_cluesOf_99 : decode cX12_cluesOf 99 = .ok (.iaload, 1) := by decide +kernel
theorem dX12_cluesOf_100 : decode cX12_cluesOf 100 = .ok (.aload_n 0, 1) := by decide +kernel
theorem dX12_cluesOf_101 : decode cX12_cluesOf 101 = .ok (.getfield 59, 3) := by decide +kernel
theorem dX12_cluesOf_104 : decode cX12_cluesOf 104 = .ok (.bipush 7, 2) := by decide +kernel
theorem dX12_cluesOf_106 : decode cX12_cluesOf 106 = .ok (.iload_n 2, 1) := by decide +kernel
theorem dX12_cluesOf_107 : decode cX12_cluesOf 107 = .ok (.imul, 1) := by decide +kernel
theorem dX12_cluesOf_108 : decode cX12_cluesOf 108 = .ok (.iaload, 1) := by decide +kernel
theorem dX12_cluesOf_109 : decode cX12_cluesOf 109 = .ok (.if_icmp .eq 26, 3) := by decide +kernel
theorem dX12_cluesOf_112 : decode cX12_cluesOf 112 = .ok (.aload_n 0, 1) := by decide +kernel
theorem dX12_cluesOf_113 : decode cX12_cluesOf 113 = .ok (.iconst 1, 1) := by decide +kernel
theorem dX12_cluesOf_114 : decode cX12_cluesOf 114 = .ok (.aload_n 0, 1) := by decide +kernel
theorem dX12_cluesOf_115 : decode cX12_cluesOf 115 = .ok (.getfield 59, 3) := by decide +kernel
theorem dX12_cluesOf_118 : decode cX12_cluesOf 118 = .ok (.bipush 7, 2) := by decide +kernel
theorem dX12_cluesOf_120 : decode cX12_cluesOf 120 = .ok (.iload_n 1, 1) := by decide +kernel
theorem dX12_cluesOf_121 : decode cX12_cluesOf 121 = .ok (.imul, 1) := by decide +kernel
theorem dX12_cluesOf_122 : decode cX12_cluesOf 122 = .ok (.iaload, 1) := by decide +kernel
theorem dX12_cluesOf_123 : decode cX12_cluesOf 123 = .ok (.aload_n 0, 1) := by decide +kernel
theorem dX12_cluesOf_124 : decode cX12_cluesOf 124 = .ok (.getfield 59, 3) := by decide +kernel
theorem dX12_cluesOf_127 : decode cX12_cluesOf 127 = .ok (.bipush 7, 2) := by decide +kernel
theorem dX12_cluesOf_129 : decode cX12_cluesOf 129 = .ok (.iload_n 2, 1) := by decide +kernel
theorem dX12_cluesOf_130 : decode cX12_cluesOf 130 = .ok (.imul, 1) := by decide +kernel
theorem dX12_cluesOf_131 : decode cX12_cluesOf 131 = .ok (.iaload, 1) := by decide +kernel
theorem dX12_cluesOf_132 : decode cX12_cluesOf 132 = .ok (.invokevirtual 346, 3) := by decide +kernel
theorem dX12_cluesOf_135 : decode cX12_cluesOf 135 = .ok (.return_, 1) := by decide +kernel
noncomputable def f_X12_cluesOf_91 (M : ZMem) (x1 : Int32) (x2 : Int32) : Option ZMem := zchk (zin ((zI 7) * x1) 1687) (zchk (zin ((zI 7) * x2) 1687) (if (M.1 17 (zix ((zI 7) * x1))) = (M.1 17 (zix ((zI 7) * x2))) then some M else zchk (zin ((zI 7) * x1) 1687) (zchk (zin ((zI 7) * x2) 1687) (zbind (f_X12_tellsClue M (zI 1) (M.1 17 (zix ((zI 7) * x1))) (M.1 17 (zix ((zI 7) * x2)))) (fun M_132 => some M_132)))))
set_option maxRecDepth 100000 in
set_option maxHeartbeats 4000000 in
theorem w_X12_cluesOf_91 {E : ZEv} {G : ZG} {K : ZMem → Prop} (h : zRu lyR E G (zRv K) cX12_cluesOf RX12 5 none 2) (M : ZMem) (x1 : Int32) (x2 : Int32) (hk : zOk (f_X12_cluesOf_91 M x1 x2) K) : G M 91 [(0, zrf E 0), (1, .int x1), (2, .int x2)] [] := by
  unfold f_X12_cluesOf_91 at hk
  refine zr_aload_n h dX12_cluesOf_91 0 rfl rfl ?_
  refine zr_getR h zfo_X12_59 lR_0 rfl dX12_cluesOf_92 ?_
  refine zr_bipush (v := (zI 7)) h dX12_cluesOf_95 (by decide) ?_
  refine zr_iload_n h dX12_cluesOf_97 1 rfl rfl ?_
  refine zr_imul h dX12_cluesOf_98 ?_
  have hb := zOk_chk hk
  have hk := hb.2
  refine zr_iald h lR_17 hb.1 dX12_cluesOf_99 ?_
  refine zr_aload_n h dX12_cluesOf_100 0 rfl rfl ?_
  refine zr_getR h zfo_X12_59 lR_0 rfl dX12_cluesOf_101 ?_
  refine zr_bipush (v := (zI 7)) h dX12_cluesOf_104 (by decide) ?_
  refine zr_iload_n h dX12_cluesOf_106 2 rfl rfl ?_
  refine zr_imul h dX12_cluesOf_107 ?_
  have hb := zOk_chk hk
  have hk := hb.2
  refine zr_iald h lR_17 hb.1 dX12_cluesOf_108 ?_
  refine zr_icmp_eq (tgt := 135) h dX12_cluesOf_109 (by decide) (fun c => ?_) (fun c => ?_)
  · have hk := zOk_t c hk
    have hk := zOk_some hk
    exact zr_vret h dX12_cluesOf_135 ⟨rfl, hk⟩
  · have hk := zOk_f c hk
    refine zr_aload_n h dX12_cluesOf_112 0 rfl rfl ?_
    refine zr_iconst (v := (zI 1)) h dX12_cluesOf_113 rfl ?_
    refine zr_aload_n h dX12_cluesOf_114 0 rfl rfl ?_
    refine zr_getR h zfo_X12_59 lR_0 rfl dX12_cluesOf_115 ?_
    refine zr_bipush (v := (zI 7)) h dX12_cluesOf_118 (by decide) ?_
    refine zr_iload_n h dX12_cluesOf_120 1 rfl rfl ?_
    refine zr_imul h dX12_cluesOf_121 ?_
    have hb := zOk_chk hk
    have hk := hb.2
    refine zr_iald h lR_17 hb.1 dX12_cluesOf_122 ?_
    refine zr_aload_n h dX12_cluesOf_123 0 rfl rfl ?_
    refine zr_getR h zfo_X12_59 lR_0 rfl dX12_cluesOf_124 ?_
    refine zr_bipush (v := (zI 7)) h dX12_cluesOf_127 (by decide) ?_
    refine zr_iload_n h dX12_cluesOf_129 2 rfl rfl ?_
    refine zr_imul h dX12_cluesOf_130 ?_
    have hb := zOk_chk hk
    have hk := hb.2
    refine zr_iald h lR_17 hb.1 dX12_cluesOf_131 ?_
    refine zr_callVv h lR_0 zcw_X12_346 (by decide) (c_X12_tellsClue E M (zI 1) (M.1 17 (zix ((zI 7) * x1))) (M.1 17 (zix ((zI 7) * x2))) _ (zOk_bind hk)) rfl rfl (Nat.le_of_ble_eq_true rfl) dX12_cluesOf_132 (fun M_132 hk => ?_)
    have hk := zOk_some hk
    exact zr_vret h dX12_cluesOf_135 ⟨rfl, hk⟩
noncomputable def f_X12_cluesOf (M : ZMem) (x1 : Int32) (x2 : Int32) : Option ZMem := zchk (zin x1 241) (zbnd (M.1 16 (zix x1)) (fun x3_6 => if x3_6 < (zI 2) then some M else zchk (zin x2 241) (if (M.1 16 (zix x2)) = x3_6 then zbind (f_X12_unlikePlaces M x1 x2) (fun r_25 => if r_25 = (zI 1) then zbnd ((((zI 7) * x1) + x3_6) - (zI 1)) (fun x4_41 => zchk (zin x4_41 1687) (zchk (zin ((((zI 7) * x2) + x3_6) - (zI 1)) 1687) (if (M.1 17 (zix x4_41)) = (M.1 17 (zix ((((zI 7) * x2) + x3_6) - (zI 1)))) then f_X12_cluesOf_91 M x1 x2 else zchk (zin x4_41 1687) (zchk (zin ((((zI 7) * x2) + x3_6) - (zI 1)) 1687) (zbind (f_X12_tellsClue M (zI 0) (M.1 17 (zix x4_41)) (M.1 17 (zix ((((zI 7) * x2) + x3_6) - (zI 1))))) (fun M_88 => f_X12_cluesOf_91 M_88 x1 x2)))))) else some M) else some M)))
set_option maxRecDepth 100000 in
set_option maxHeartbeats 4000000 in
theorem c_X12_cluesOf (E : ZEv) (M : ZMem) (x1 : Int32) (x2 : Int32) (K : ZMem → Prop) (hk : zOk (f_X12_cluesOf M x1 x2) K) : zCon lyR E yX12_cluesOf cX12_cluesOf 5 none 2 [zrf E 0, .int x1, .int x2] M (zRv K) := by
  refine zcon_of (L0 := [(0, zrf E 0), (1, .int x1), (2, .int x2)]) (by decide) rfl (Nat.le_of_ble_eq_true rfl) (fun G h => ?_)
  have h : zRu lyR E G (zRv K) cX12_cluesOf RX12 5 none 2 := h
  unfold f_X12_cluesOf at hk
  refine zr_aload_n h dX12_cluesOf_0 0 rfl rfl ?_
  refine zr_getR h zfo_X12_56 lR_0 rfl dX12_cluesOf_1 ?_
  refine zr_iload_n h dX12_cluesOf_4 1 rfl rfl ?_
  have hb := zOk_chk hk
  have hk := hb.2
  refine zr_iald h lR_16 hb.1 dX12_cluesOf_5 ?_
  refine zr_topi (fun x3_6 ex => ?_)
  have hk := zOk_bnd ex hk
  refine zr_istore_n (L' := [(0, zrf E 0), (1, .int x1), (2, .int x2), (3, .int x3_6)]) h [1, 2, 3, 0] dX12_cluesOf_6 rfl (by decide) rfl ?_
  refine zr_iload_n h dX12_cluesOf_7 3 rfl rfl ?_
  refine zr_iconst (v := (zI 2)) h dX12_cluesOf_8 rfl ?_
  refine zr_icmp_lt (tgt := 32) h dX12_cluesOf_9 (by decide) (fun c => ?_) (fun c => ?_)
  · have hk := zOk_t c hk
    have hk := zOk_some hk
    exact zr_vret h dX12_cluesOf_32 ⟨rfl, hk⟩
  · have hk := zOk_f c hk
    refine zr_aload_n h dX12_cluesOf_12 0 rfl rfl ?_
    refine zr_getR h zfo_X12_56 lR_0 rfl dX12_cluesOf_13 ?_
    refine zr_iload_n h dX12_cluesOf_16 2 rfl rfl ?_
    have hb := zOk_chk hk
    have hk := hb.2
    refine zr_iald h lR_16 hb.1 dX12_cluesOf_17 ?_
    refine zr_iload_n h dX12_cluesOf_18 3 rfl rfl ?_
    refine zr_icmp_ne (tgt := 32) h dX12_cluesOf_19 (by decide) (fun c => ?_) (fun c => ?_)
    · have hk := zOk_t c hk
      refine zr_aload_n h dX12_cluesOf_22 0 rfl rfl ?_
      refine zr_iload_n h dX12_cluesOf_23 1 rfl rfl ?_
      refine zr_iload_n h dX12_cluesOf_24 2 rfl rfl ?_
      refine zr_callVp h lR_0 zcw_X12_343 (by decide) (c_X12_unlikePlaces E M x1 x2 _ (zOk_bind hk)) rfl rfl (Nat.le_of_ble_eq_true rfl) dX12_cluesOf_25 (fun r_25 hk => ?_)
      refine zr_iconst (v := (zI 1)) h dX12_cluesOf_28 rfl ?_
      refine zr_icmp_eq (tgt := 33) h dX12_cluesOf_29 (by decide) (fun c => ?_) (fun c => ?_)
      · have hk := zOk_t c hk
        refine zr_bipush (v := (zI 7)) h dX12_cluesOf_33 (by decide) ?_
        refine zr_iload_n h dX12_cluesOf_35 1 rfl rfl ?_
        refine zr_imul h dX12_cluesOf_36 ?_
        refine zr_iload_n h dX12_cluesOf_37 3 rfl rfl ?_
        refine zr_iadd h dX12_cluesOf_38 ?_
        refine zr_iconst (v := (zI 1)) h dX12_cluesOf_39 rfl ?_
        refine zr_isub h dX12_cluesOf_40 ?_
        refine zr_topi (fun x4_41 ex => ?_)
        have hk := zOk_bnd ex hk
        refine zr_istore (L' := [(0, zrf E 0), (1, .int x1), (2, .int x2), (3, .int x3_6), (4, .int x4_41)]) h [1, 2, 3, 4, 0] dX12_cluesOf_41 (by decide) rfl ?_
        refine zr_aload_n h dX12_cluesOf_43 0 rfl rfl ?_
        refine zr_getR h zfo_X12_59 lR_0 rfl dX12_cluesOf_44 ?_
        refine zr_iload h dX12_cluesOf_47 4 rfl ?_
        have hb := zOk_chk hk
        have hk := hb.2
        refine zr_iald h lR_17 hb.1 dX12_cluesOf_49 ?_
        refine zr_aload_n h dX12_cluesOf_50 0 rfl rfl ?_
        refine zr_getR h zfo_X12_59 lR_0 rfl dX12_cluesOf_51 ?_
        refine zr_bipush (v := (zI 7)) h dX12_cluesOf_54 (by decide) ?_
        refine zr_iload_n h dX12_cluesOf_56 2 rfl rfl ?_
        refine zr_imul h dX12_cluesOf_57 ?_
        refine zr_iload_n h dX12_cluesOf_58 3 rfl rfl ?_
        refine zr_iadd h dX12_cluesOf_59 ?_
        refine zr_iconst (v := (zI 1)) h dX12_cluesOf_60 rfl ?_
        refine zr_isub h dX12_cluesOf_61 ?_
        have hb := zOk_chk hk
        have hk := hb.2
        refine zr_iald h lR_17 hb.1 dX12_cluesOf_62 ?_
        refine zr_icmp_eq (tgt := 91) h dX12_cluesOf_63 (by decide) (fun c => ?_) (fun c => ?_)
        · have hk := zOk_t c hk
          exact zr_weak h [0, 1, 2] rfl (w_X12_cluesOf_91 h M x1 x2 hk)
        · have hk := zOk_f c hk
          refine zr_aload_n h dX12_cluesOf_66 0 rfl rfl ?_
          refine zr_iconst (v := (zI 0)) h dX12_cluesOf_67 rfl ?_
          refine zr_aload_n h dX12_cluesOf_68 0 rfl rfl ?_
          refine zr_getR h zfo_X12_59 lR_0 rfl dX12_cluesOf_69 ?_
          refine zr_iload h dX12_cluesOf_72 4 rfl ?_
          have hb := zOk_chk hk
          have hk := hb.2
          refine zr_iald h lR_17 hb.1 dX12_cluesOf_74 ?_
          refine zr_aload_n h dX12_cluesOf_75 0 rfl rfl ?_
          refine zr_getR h zfo_X12_59 lR_0 rfl dX12_cluesOf_76 ?_
          refine zr_bipush (v := (zI 7)) h dX12_cluesOf_79 (by decide) ?_
          refine zr_iload_n h dX12_cluesOf_81 2 rfl rfl ?_
          refine zr_imul h dX12_cluesOf_82 ?_
          refine zr_iload_n h dX12_cluesOf_83 3 rfl rfl ?_
          refine zr_iadd h dX12_cluesOf_84 ?_
          refine zr_iconst (v := (zI 1)) h dX12_cluesOf_85 rfl ?_
          refine zr_isub h dX12_cluesOf_86 ?_
          have hb := zOk_chk hk
          have hk := hb.2
          refine zr_iald h lR_17 hb.1 dX12_cluesOf_87 ?_
          refine zr_callVv h lR_0 zcw_X12_346 (by decide) (c_X12_tellsClue E M (zI 0) (M.1 17 (zix x4_41)) (M.1 17 (zix ((((zI 7) * x2) + x3_6) - (zI 1)))) _ (zOk_bind hk)) rfl rfl (Nat.le_of_ble_eq_true rfl) dX12_cluesOf_88 (fun M_88 hk => ?_)
          exact zr_weak h [0, 1, 2] rfl (w_X12_cluesOf_91 h M_88 x1 x2 hk)
      · have hk := zOk_f c hk
        have hk := zOk_some hk
        exact zr_vret h dX12_cluesOf_32 ⟨rfl, hk⟩
    · have hk := zOk_f c hk
      have hk := zOk_some hk
      exact zr_vret h dX12_cluesOf_32 ⟨rfl, hk⟩
theorem dX12_laysGroups_0 : decode cX12_laysGroups 0 = .ok (.iconst 0, 1) := by decide +kernel
theorem dX12_laysGroups_1 : decode cX12_laysGroups 1 = .ok (.istore_n 2, 1) := by decide +kernel
theorem dX12_laysGroups_2 : decode cX12_laysGroups 2 = .ok (.iload_n 2, 1) := by decide +kernel
theorem dX12_laysGroups_3 : decode cX12_laysGroups 3 = .ok (.aload_n 0, 1) := by decide +kernel
theorem dX12_laysGroups_4 : decode cX12_laysGroups 4 = .ok (.getfield 162, 3) := by decide +kernel
theorem dX12_laysGroups_7 : decode cX12_laysGroups 7 = .ok (.if_icmp .ge 26, 3) := by decide +kernel
theorem dX12_laysGroups_10 : decode cX12_laysGroups 10 = .ok (.aload_n 0, 1) := by decide +kernel
theorem dX12_laysGroups_11 : decode cX12_laysGroups 11 = .ok (.getfield 78, 3) := by decide +kernel
theorem dX12_laysGroups_14 : decode cX12_laysGroups 14 = .ok (.bipush 20, 2) := by decide +kernel
theorem dX12_laysGroups_16 : decode cX12_laysGroups 16 = .ok (.iload_n 1, 1) := by decide +kernel
theorem dX12_laysGroups_17 : decode cX12_laysGroups 17 = .ok (.imul, 1) := by decide +kernel
theorem dX12_laysGroups_18 : decode cX12_laysGroups 18 = .ok (.iload_n 2, 1) := by decide +kernel
theorem dX12_laysGroups_19 : decode cX12_laysGroups 19 = .ok (.iadd, 1) := by decide +kernel
theorem dX12_laysGroups_20 : decode cX12_laysGroups 20 = .ok (.aload_n 0, 1) := by decide +kernel
theorem dX12_laysGroups_21 : decode cX12_laysGroups 21 = .ok (.getfield 41, 3) := by decide +kernel
theorem dX12_laysGroups_24 : decode cX12_laysGroups 24 = .ok (.iload_n 2, 1) := by decide +kernel
theorem dX12_laysGroups_25 : decode cX12_laysGroups 25 = .ok (.iaload, 1) := by decide +kernel
theorem dX12_laysGroups_26 : decode cX12_laysGroups 26 = .ok (.iastore, 1) := by decide +kernel
theorem dX12_laysGroups_27 : decode cX12_laysGroups 27 = .ok (.iinc 2 1, 3) := by decide +kernel
theorem dX12_laysGroups_30 : decode cX12_laysGroups 30 = .ok (.goto (-28), 3) := by decide +kernel
theorem dX12_laysGroups_33 : decode cX12_laysGroups 33 = .ok (.iconst 1, 1) := by decide +kernel
theorem dX12_laysGroups_34 : decode cX12_laysGroups 34 = .ok (.istore_n 2, 1) := by decide +kernel
theorem dX12_laysGroups_35 : decode cX12_laysGroups 35 = .ok (.iload_n 2, 1) := by decide +kernel
theorem dX12_laysGroups_36 : decode cX12_laysGroups 36 = .ok (.ifCond .eq 146, 3) := by decide +kernel
theorem dX12_laysGroups_39 : decode cX12_laysGroups 39 = .ok (.iconst 0, 1) := by decide +kernel
theorem dX12_laysGroups_40 : decode cX12_laysGroups 40 = .ok (.istore_n 2, 1) := by decide +kernel
theorem dX12_laysGroups_41 : decode cX12_laysGroups 41 = .ok (.iconst 0, 1) := by decide +kernel
theorem dX12_laysGroups_42 : decode cX12_laysGroups 42 = .ok (.istore_n 3, 1) := by decide +kernel
theorem dX12_laysGroups_43 : decode cX12_laysGroups 43 = .ok (.iload_n 3, 1) := by decide +kernel
theorem dX12_laysGroups_44 : decode cX12_laysGroups 44 = .ok (.aload_n 0, 1) := by decide +kernel
theorem dX12_laysGroups_45 : decode cX12_laysGroups 45 = .ok (.getfield 162, 3) := by decide +kernel
theorem dX12_laysGroups_48 : decode cX12_laysGroups 48 = .ok (.if_icmp .ge 131, 3) := by decide +kernel
theorem dX12_laysGroups_51 : decode cX12_laysGroups 51 = .ok (.iconst 0, 1) := by decide +kernel
theorem dX12_laysGroups_52 : decode cX12_laysGroups 52 = .ok (.istore 4, 2) := by decide +kernel
theorem dX12_laysGroups_54 : decode cX12_laysGroups 54 = .ok (.iload 4, 2) := by decide +kernel
theorem dX12_laysGroups_56 : decode cX12_laysGroups 56 = .ok (.aload_n 0, 1) := by decide +kernel
theorem dX12_laysGroups_57 : decode cX12_laysGroups 57 = .ok (.getfield 162, 3) := by decide +kernel
theorem dX12_laysGroups_60 : decode cX12_laysGroups 60 = .ok (.if_icmp .ge 113, 3) := by decide +kernel
theorem dX12_laysGroups_63 : decode cX12_laysGroups 63 = .ok (.aload_n 0, 1) := by decide +kernel
theorem dX12_laysGroups_64 : decode cX12_laysGroups 64 = .ok (.getfield 41, 3) := by decide +kernel
theorem dX12_laysGroups_67 : decode cX12_laysGroups 67 = .ok (.iload_n 3, 1) := by decide +kernel
theorem dX12_laysGroups_68 : decode cX12_laysGroups 68 = .ok (.iaload, 1) := by decide +kernel
theorem dX12_laysGroups_69 : decode cX12_laysGroups 69 = .ok (.aload_n 0, 1) := by decide +kernel
theorem dX12_laysGroups_70 : decode cX12_laysGroups 70 = .ok (.getfield 41, 3) := by decide +kernel
theorem dX12_laysGroups_73 : decode cX12_laysGroups 73 = .ok (.iload 4, 2) := by decide +kernel
theorem dX12_laysGroups_75 : decode cX12_laysGroups 75 = .ok (.iaload, 1) := by decide +kernel
theorem dX12_laysGroups_76 : decode cX12_laysGroups 76 = .ok (.if_icmp .eq 28, 3) := by decide +kernel
theorem dX12_laysGroups_79 : decode cX12_laysGroups 79 = .ok (.aload_n 0, 1) := by decide +kernel
theorem dX12_laysGroups_80 : decode cX12_laysGroups 80 = .ok (.getfield 74, 3) := by decide +kernel
theorem dX12_laysGroups_83 : decode cX12_laysGroups 83 = .ok (.iload_n 1, 1) := by decide +kernel
theorem dX12_laysGroups_84 : decode cX12_laysGroups 84 = .ok (.aload_n 0, 1) := by decide +kernel
theorem dX12_laysGroups_85 : decode cX12_laysGroups 85 = .ok (.getfield 41, 3) := by decide +kernel
theorem dX12_laysGroups_88 : decode cX12_laysGroups 88 = .ok (.iload_n 3, 1) := by decide +kernel
theorem dX12_laysGroups_89 : decode cX12_laysGroups 89 = .ok (.iaload, 1) := by decide +kernel
theorem dX12_laysGroups_90 : decode cX12_laysGroups 90 = .ok (.aload_n 0, 1) := by decide +kernel
theorem dX12_laysGroups_91 : decode cX12_laysGroups 91 = .ok (.getfield 41, 3) := by decide +kernel
theorem dX12_laysGroups_94 : decode cX12_laysGroups 94 = .ok (.iload 4, 2) := by decide +kernel
theorem dX12_laysGroups_96 : decode cX12_laysGroups 96 = .ok (.iaload, 1) := by decide +kernel
theorem dX12_laysGroups_97 : decode cX12_laysGroups 97 = .ok (.invokestatic 340, 3) := by decide +kernel
theorem dX12_laysGroups_100 : decode cX12_laysGroups 100 = .ok (.baload, 1) := by decide +kernel
theorem dX12_laysGroups_101 : decode cX12_laysGroups 101 = .ok (.ifCond .eq 7, 3) := by decide +kernel
theorem dX12_laysGroups_104 : decode cX12_laysGroups 104 = .ok (.iconst 1, 1) := by decide +kernel
theorem dX12_laysGroups_105 : decode cX12_laysGroups 105 = .ok (.goto 4, 3) := by decide +kernel
theorem dX12_laysGroups_108 : decode cX12_laysGroups 108 = .ok (.iconst 0, 1) := by decide +kernel
theorem dX12_laysGroups_109 : decode cX12_laysGroups 109 = .ok (.istore 5, 2) := by decide +kernel
theorem dX12_laysGroups_111 : decode cX12_laysGroups 111 = .ok (.iload 5, 2) := by decide +kernel
theorem dX12_laysGroups_113 : decode cX12_laysGroups 113 = .ok (.ifCond .eq 54, 3) := by decide +kernel
theorem dX12_laysGroups_116 : decode cX12_laysGroups 116 = .ok (.aload_n 0, 1) := by decide +kernel
theorem dX12_laysGroups_117 : decode cX12_laysGroups 117 = .ok (.getfield 78, 3) := by decide +kernel
theorem dX12_laysGroups_120 : decode cX12_laysGroups 120 = .ok (.bipush 20, 2) := by decide +kernel
theorem dX12_laysGroups_122 : decode cX12_laysGroups 122 = .ok (.iload_n 1, 1) := by decide +kernel
theorem dX12_laysGroups_123 : decode cX12_laysGroups 123 = .ok (.imul, 1) := by decide +kernel
theorem dX12_laysGroups_124 : decode cX12_laysGroups 124 = .ok (.iload_n 3, 1) := by decide +kernel
theorem dX12_laysGroups_125 : decode cX12_laysGroups 125 = .ok (.iadd, 1) := by decide +kernel
theorem dX12_laysGroups_126 : decode cX12_laysGroups 126 = .ok (.iaload, 1) := by decide +kernel
theorem dX12_laysGroups_127 : decode cX12_laysGroups 127 = .ok (.aload_n 0, 1) := by decide +kernel
theorem dX12_laysGroups_128 : decode cX12_laysGroups 128 = .ok (.getfield 78, 3) := by decide +kernel
theorem dX12_laysGroups_131 : decode cX12_laysGroups 131 = .ok (.bipush 20, 2) := by decide +kernel
theorem dX12_laysGroups_133 : decode cX12_laysGroups 133 = .ok (.iload_n 1, 1) := by decide +kernel
theorem dX12_laysGroups_134 : decode cX12_laysGroups 134 = .ok (.imul, 1) := by decide +kernel
theorem dX12_laysGroups_135 : decode cX12_laysGroups 135 = .ok (.iload 4, 2) := by decide +kernel
theorem dX12_laysGroups_137 : decode cX12_laysGroups 137 = .ok (.iadd, 1) := by decide +kernel
theorem dX12_laysGroups_138 : decode cX12_laysGroups 138 = .ok (.iaload, 1) := by decide +kernel
theorem dX12_laysGroups_139 : decode cX12_laysGroups 139 = .ok (.if_icmp .ge 28, 3) := by decide +kernel
theorem dX12_laysGroups_142 : decode cX12_laysGroups 142 = .ok (.aload_n 0, 1) := by decide +kernel
theorem dX12_laysGroups_143 : decode cX12_laysGroups 143 = .ok (.getfield 78, 3) := by decide +kernel
theorem dX12_laysGroups_146 : decode cX12_laysGroups 146 = .ok (.bipush 20, 2) := by decide +kernel
theorem dX12_laysGroups_148 : decode cX12_laysGroups 148 = .ok (.iload_n 1, 1) := by decide +kernel
theorem dX12_laysGroups_149 : decode cX12_laysGroups 149 = .ok (.imul, 1) := by decide +kernel
theorem dX12_laysGroups_150 : decode cX12_laysGroups 150 = .ok (.iload 4, 2) := by decide +kernel
theorem dX12_laysGroups_152 : decode cX12_laysGroups 152 = .ok (.iadd, 1) := by decide +kernel
theorem dX12_laysGroups_153 : decode cX12_laysGroups 153 = .ok (.aload_n 0, 1) := by decide +kernel
theorem dX12_laysGroups_154 : decode cX12_laysGroups 154 = .ok (.getfield 78, 3) := by decide +kernel
theorem dX12_laysGroups_157 : decode cX12_laysGroups 157 = .ok (.bipush 20, 2) := by decide +kernel
theorem dX12_laysGroups_159 : decode cX12_laysGroups 159 = .ok (.iload_n 1, 1) := by decide +kernel
theorem dX12_laysGroups_160 : decode cX12_laysGroups 160 = .ok (.imul, 1) := by decide +kernel
theorem dX12_laysGroups_161 : decode cX12_laysGroups 161 = .ok (.iload_n 3, 1) := by decide +kernel
theorem dX12_laysGroups_162 : decode cX12_laysGroups 162 = .ok (.iadd, 1) := by decide +kernel
theorem dX12_laysGroups_163 : decode cX12_laysGroups 163 = .ok (.iaload, 1) := by decide +kernel
theorem dX12_laysGroups_164 : decode cX12_laysGroups 164 = .ok (.iastore, 1) := by decide +kernel
theorem dX12_laysGroups_165 : decode cX12_laysGroups 165 = .ok (.iconst 1, 1) := by decide +kernel
theorem dX12_laysGroups_166 : decode cX12_laysGroups 166 = .ok (.istore_n 2, 1) := by decide +kernel
theorem dX12_laysGroups_167 : decode cX12_laysGroups 167 = .ok (.iinc 4 1, 3) := by decide +kernel
theorem dX12_laysGroups_170 : decode cX12_laysGroups 170 = .ok (.goto (-116), 3) := by decide +kernel
theorem dX12_laysGroups_173 : decode cX12_laysGroups 173 = .ok (.iinc 3 1, 3) := by decide +kernel
theorem dX12_laysGroups_176 : decode cX12_laysGroups 176 = .ok (.goto (-133), 3) := by decide +kernel
theorem dX12_laysGroups_179 : decode cX12_laysGroups 179 = .ok (.goto (-144), 3) := by decide +kernel
theorem dX12_laysGroups_182 : decode cX12_laysGroups 182 = .ok (.return_, 1) := by decide +kernel
noncomputable def f_X12_laysGroups_L2 (x1 : Int32) (s : (ZMem × Int32)) : Option ((ZMem × Int32) ⊕ (ZMem)) := if (s.1.1 0 4) ≤ s.2 then some (.inr s.1) else zchk (zin s.2 20) (zchk (zin (((zI 20) * x1) + s.2) 40) (zbnd (zstI s.1 23 (zix (((zI 20) * x1) + s.2)) (s.1.1 11 (zix s.2))) (fun M_26 => zbnd (s.2 + (zI 1)) (fun x2_27 => some (.inl (M_26, x2_27))))))
set_option maxRecDepth 100000 in
set_option maxHeartbeats 4000000 in
theorem w_X12_laysGroups_L2 {E : ZEv} {G : ZG} {K : ZMem → Prop} (h : zRu lyR E G (zRv K) cX12_laysGroups RX12 6 none 1) (x1 : Int32) (s : (ZMem × Int32)) (hk : zOk (zloop (f_X12_laysGroups_L2 x1) s) (fun e => G e 33 [(0, zrf E 0), (1, .int x1)] [])) : G s.1 2 [(0, zrf E 0), (1, .int x1), (2, .int s.2)] [] := by
  refine zloop_walk (P := fun s => G s.1 2 [(0, zrf E 0), (1, .int x1), (2, .int s.2)] []) hk (fun s hk => ?_)
  unfold f_X12_laysGroups_L2 at hk
  refine zr_iload_n h dX12_laysGroups_2 2 rfl rfl ?_
  refine zr_aload_n h dX12_laysGroups_3 0 rfl rfl ?_
  refine zr_getI h zfo_X12_162 lR_0 rfl dX12_laysGroups_4 ?_
  refine zr_icmp_ge (tgt := 33) h dX12_laysGroups_7 (by decide) (fun c => ?_) (fun c => ?_)
  · have hk := zOk_t c hk
    have hk := zOk_some hk
    exact zr_weak h [0, 1] rfl hk
  · have hk := zOk_f c hk
    refine zr_aload_n h dX12_laysGroups_10 0 rfl rfl ?_
    refine zr_getR h zfo_X12_78 lR_0 rfl dX12_laysGroups_11 ?_
    refine zr_bipush (v := (zI 20)) h dX12_laysGroups_14 (by decide) ?_
    refine zr_iload_n h dX12_laysGroups_16 1 rfl rfl ?_
    refine zr_imul h dX12_laysGroups_17 ?_
    refine zr_iload_n h dX12_laysGroups_18 2 rfl rfl ?_
    refine zr_iadd h dX12_laysGroups_19 ?_
    refine zr_aload_n h dX12_laysGroups_20 0 rfl rfl ?_
    refine zr_getR h zfo_X12_41 lR_0 rfl dX12_laysGroups_21 ?_
    refine zr_iload_n h dX12_laysGroups_24 2 rfl rfl ?_
    have hb := zOk_chk hk
    have hk := hb.2
    refine zr_iald h lR_11 hb.1 dX12_laysGroups_25 ?_
    have hb := zOk_chk hk
    have hk := hb.2
    refine zr_iast h lR_23 hb.1 dX12_laysGroups_26 ?_
    refine zr_mem (fun M_26 eM => ?_)
    have hk := zOk_bnd eM hk
    obtain ⟨x2_27, ex⟩ : ∃ y : Int32, y = s.2 + (zI 1) := ⟨_, rfl⟩
    have hk := zOk_bnd ex hk
    refine zr_iinc (v := x2_27) (L' := [(0, zrf E 0), (1, .int x1), (2, .int x2_27)]) h 2 [1, 2, 0] dX12_laysGroups_27 rfl (by rw [ex]; rfl) (by decide) rfl ?_
    refine zr_goto (tgt := 2) h dX12_laysGroups_30 (by decide) ?_
    have hk := zOk_some hk
    exact zr_weak h [0, 1, 2] rfl hk
noncomputable def f_X12_laysGroups_109_L54 (M : ZMem) (x1 : Int32) (x2 : Int32) (x3 : Int32) (x4 : Int32) (v0 : Int32) : Option ((ZMem × Int32 × Int32) ⊕ (ZMem × Int32)) := if v0 = (zI 0) then zbnd (x4 + (zI 1)) (fun x4_167 => some (.inl (M, x2, x4_167))) else zchk (zin (((zI 20) * x1) + x3) 40) (zchk (zin (((zI 20) * x1) + x4) 40) (if (M.1 23 (zix (((zI 20) * x1) + x4))) ≤ (M.1 23 (zix (((zI 20) * x1) + x3))) then zbnd (x4 + (zI 1)) (fun x4_167 => some (.inl (M, x2, x4_167))) else zchk (zin (((zI 20) * x1) + x3) 40) (zchk (zin (((zI 20) * x1) + x4) 40) (zbnd (zstI M 23 (zix (((zI 20) * x1) + x4)) (M.1 23 (zix (((zI 20) * x1) + x3)))) (fun M_164 => zbnd (x4 + (zI 1)) (fun x4_167 => some (.inl (M_164, (zI 1), x4_167))))))))
set_option maxRecDepth 100000 in
set_option maxHeartbeats 4000000 in
theorem w_X12_laysGroups_109_L54 {E : ZEv} {G : ZG} {K : ZMem → Prop} (h : zRu lyR E G (zRv K) cX12_laysGroups RX12 6 none 1) (M : ZMem) (x1 : Int32) (x2 : Int32) (x3 : Int32) (x4 : Int32) (v0 : Int32) (hk : zOk (f_X12_laysGroups_109_L54 M x1 x2 x3 x4 v0) (zlp (fun s => G s.1 54 [(0, zrf E 0), (1, .int x1), (2, .int s.2.1), (3, .int x3), (4, .int s.2.2)] []) (fun e => G e.1 173 [(0, zrf E 0), (1, .int x1), (2, .int e.2), (3, .int x3)] []))) : G M 109 [(0, zrf E 0), (1, .int x1), (2, .int x2), (3, .int x3), (4, .int x4)] [.int v0] := by
  unfold f_X12_laysGroups_109_L54 at hk
  refine zr_istore (L' := [(0, zrf E 0), (1, .int x1), (2, .int x2), (3, .int x3), (4, .int x4), (5, .int v0)]) h [1, 2, 3, 4, 5, 0] dX12_laysGroups_109 (by decide) rfl ?_
  refine zr_iload h dX12_laysGroups_111 5 rfl ?_
  refine zr_if_eq (tgt := 167) h dX12_laysGroups_113 (by decide) (fun c => ?_) (fun c => ?_)
  · have hk := zOk_t c hk
    obtain ⟨x4_167, ex⟩ : ∃ y : Int32, y = x4 + (zI 1) := ⟨_, rfl⟩
    have hk := zOk_bnd ex hk
    refine zr_iinc (v := x4_167) (L' := [(0, zrf E 0), (1, .int x1), (2, .int x2), (3, .int x3), (4, .int x4_167)]) h 4 [1, 2, 3, 4, 0] dX12_laysGroups_167 rfl (by rw [ex]; rfl) (by decide) rfl ?_
    refine zr_goto (tgt := 54) h dX12_laysGroups_170 (by decide) ?_
    have hk := zOk_some hk
    exact zr_weak h [0, 1, 2, 3, 4] rfl hk
  · have hk := zOk_f c hk
    refine zr_aload_n h dX12_laysGroups_116 0 rfl rfl ?_
    refine zr_getR h zfo_X12_78 lR_0 rfl dX12_laysGroups_117 ?_
    refine zr_bipush (v := (zI 20)) h dX12_laysGroups_120 (by decide) ?_
    refine zr_iload_n h dX12_laysGroups_122 1 rfl rfl ?_
    refine zr_imul h dX12_laysGroups_123 ?_
    refine zr_iload_n h dX12_laysGroups_124 3 rfl rfl ?_
    refine zr_iadd h dX12_laysGroups_125 ?_
    have hb := zOk_chk hk
    have hk := hb.2
    refine zr_iald h lR_23 hb.1 dX12_laysGroups_126 ?_
    refine zr_aload_n h dX12_laysGroups_127 0 rfl rfl ?_
    refine zr_getR h zfo_X12_78 lR_0 rfl dX12_laysGroups_128 ?_
    refine zr_bipush (v := (zI 20)) h dX12_laysGroups_131 (by decide) ?_
    refine zr_iload_n h dX12_laysGroups_133 1 rfl rfl ?_
    refine zr_imul h dX12_laysGroups_134 ?_
    refine zr_iload h dX12_laysGroups_135 4 rfl ?_
    refine zr_iadd h dX12_laysGroups_137 ?_
    have hb := zOk_chk hk
    have hk := hb.2
    refine zr_iald h lR_23 hb.1 dX12_laysGroups_138 ?_
    refine zr_icmp_ge (tgt := 167) h dX12_laysGroups_139 (by decide) (fun c => ?_) (fun c => ?_)
    · have hk := zOk_t c hk
      obtain ⟨x4_167, ex⟩ : ∃ y : Int32, y = x4 + (zI 1) := ⟨_, rfl⟩
      have hk := zOk_bnd ex hk
      refine zr_iinc (v := x4_167) (L' := [(0, zrf E 0), (1, .int x1), (2, .int x2), (3, .int x3), (4, .int x4_167)]) h 4 [1, 2, 3, 4, 0] dX12_laysGroups_167 rfl (by rw [ex]; rfl) (by decide) rfl ?_
      refine zr_goto (tgt := 54) h dX12_laysGroups_170 (by decide) ?_
      have hk := zOk_some hk
      exact zr_weak h [0, 1, 2, 3, 4] rfl hk
    · have hk := zOk_f c hk
      refine zr_aload_n h dX12_laysGroups_142 0 rfl rfl ?_
      refine zr_getR h zfo_X12_78 lR_0 rfl dX12_laysGroups_143 ?_
      refine zr_bipush (v := (zI 20)) h dX12_laysGroups_146 (by decide) ?_
      refine zr_iload_n h dX12_laysGroups_148 1 rfl rfl ?_
      refine zr_imul h dX12_laysGroups_149 ?_
      refine zr_iload h dX12_laysGroups_150 4 rfl ?_
      refine zr_iadd h dX12_laysGroups_152 ?_
      refine zr_aload_n h dX12_laysGroups_153 0 rfl rfl ?_
      refine zr_getR h zfo_X12_78 lR_0 rfl dX12_laysGroups_154 ?_
      refine zr_bipush (v := (zI 20)) h dX12_laysGroups_157 (by decide) ?_
      refine zr_iload_n h dX12_laysGroups_159 1 rfl rfl ?_
      refine zr_imul h dX12_laysGroups_160 ?_
      refine zr_iload_n h dX12_laysGroups_161 3 rfl rfl ?_
      refine zr_iadd h dX12_laysGroups_162 ?_
      have hb := zOk_chk hk
      have hk := hb.2
      refine zr_iald h lR_23 hb.1 dX12_laysGroups_163 ?_
      have hb := zOk_chk hk
      have hk := hb.2
      refine zr_iast h lR_23 hb.1 dX12_laysGroups_164 ?_
      refine zr_mem (fun M_164 eM => ?_)
      have hk := zOk_bnd eM hk
      refine zr_iconst (v := (zI 1)) h dX12_laysGroups_165 rfl ?_
      refine zr_istore_n (L' := [(0, zrf E 0), (1, .int x1), (2, .int (zI 1)), (3, .int x3), (4, .int x4)]) h [1, 2, 0, 3, 4] dX12_laysGroups_166 rfl (by decide) rfl ?_
      obtain ⟨x4_167, ex⟩ : ∃ y : Int32, y = x4 + (zI 1) := ⟨_, rfl⟩
      have hk := zOk_bnd ex hk
      refine zr_iinc (v := x4_167) (L' := [(0, zrf E 0), (1, .int x1), (2, .int (zI 1)), (3, .int x3), (4, .int x4_167)]) h 4 [1, 2, 3, 4, 0] dX12_laysGroups_167 rfl (by rw [ex]; rfl) (by decide) rfl ?_
      refine zr_goto (tgt := 54) h dX12_laysGroups_170 (by decide) ?_
      have hk := zOk_some hk
      exact zr_weak h [0, 1, 2, 3, 4] rfl hk
noncomputable def f_X12_laysGroups_104_L54 (M : ZMem) (x1 : Int32) (x2 : Int32) (x3 : Int32) (x4 : Int32) : Option ((ZMem × Int32 × Int32) ⊕ (ZMem × Int32)) := f_X12_laysGroups_109_L54 M x1 x2 x3 x4 (zI 1)
set_option maxRecDepth 100000 in
set_option maxHeartbeats 4000000 in
theorem w_X12_laysGroups_104_L54 {E : ZEv} {G : ZG} {K : ZMem → Prop} (h : zRu lyR E G (zRv K) cX12_laysGroups RX12 6 none 1) (M : ZMem) (x1 : Int32) (x2 : Int32) (x3 : Int32) (x4 : Int32) (hk : zOk (f_X12_laysGroups_104_L54 M x1 x2 x3 x4) (zlp (fun s => G s.1 54 [(0, zrf E 0), (1, .int x1), (2, .int s.2.1), (3, .int x3), (4, .int s.2.2)] []) (fun e => G e.1 173 [(0, zrf E 0), (1, .int x1), (2, .int e.2), (3, .int x3)] []))) : G M 104 [(0, zrf E 0), (1, .int x1), (2, .int x2), (3, .int x3), (4, .int x4)] [] := by
  unfold f_X12_laysGroups_104_L54 at hk
  refine zr_iconst (v := (zI 1)) h dX12_laysGroups_104 rfl ?_
  refine zr_goto (tgt := 109) h dX12_laysGroups_105 (by decide) ?_
  exact w_X12_laysGroups_109_L54 h M x1 x2 x3 x4 (zI 1) hk
noncomputable def f_X12_laysGroups_L54 (x1 : Int32) (x3 : Int32) (s : (ZMem × Int32 × Int32)) : Option ((ZMem × Int32 × Int32) ⊕ (ZMem × Int32)) := if (s.1.1 0 4) ≤ s.2.2 then some (.inr (s.1, s.2.1)) else zchk (zin x3 20) (zchk (zin s.2.2 20) (if (s.1.1 11 (zix x3)) = (s.1.1 11 (zix s.2.2)) then f_X12_laysGroups_104_L54 s.1 x1 s.2.1 x3 s.2.2 else zchk (zin x3 20) (zchk (zin s.2.2 20) (zbind (f_X12_clueAt s.1 x1 (s.1.1 11 (zix x3)) (s.1.1 11 (zix s.2.2))) (fun r_97 => zchk (zin r_97 800) (if (s.1.1 22 (zix r_97)) = (zI 0) then f_X12_laysGroups_109_L54 s.1 x1 s.2.1 x3 s.2.2 (zI 0) else f_X12_laysGroups_104_L54 s.1 x1 s.2.1 x3 s.2.2))))))
set_option maxRecDepth 100000 in
set_option maxHeartbeats 4000000 in
theorem w_X12_laysGroups_L54 {E : ZEv} {G : ZG} {K : ZMem → Prop} (h : zRu lyR E G (zRv K) cX12_laysGroups RX12 6 none 1) (x1 : Int32) (x3 : Int32) (s : (ZMem × Int32 × Int32)) (hk : zOk (zloop (f_X12_laysGroups_L54 x1 x3) s) (fun e => G e.1 173 [(0, zrf E 0), (1, .int x1), (2, .int e.2), (3, .int x3)] [])) : G s.1 54 [(0, zrf E 0), (1, .int x1), (2, .int s.2.1), (3, .int x3), (4, .int s.2.2)] [] := by
  refine zloop_walk (P := fun s => G s.1 54 [(0, zrf E 0), (1, .int x1), (2, .int s.2.1), (3, .int x3), (4, .int s.2.2)] []) hk (fun s hk => ?_)
  unfold f_X12_laysGroups_L54 at hk
  refine zr_iload h dX12_laysGroups_54 4 rfl ?_
  refine zr_aload_n h dX12_laysGroups_56 0 rfl rfl ?_
  refine zr_getI h zfo_X12_162 lR_0 rfl dX12_laysGroups_57 ?_
  refine zr_icmp_ge (tgt := 173) h dX12_laysGroups_60 (by decide) (fun c => ?_) (fun c => ?_)
  · have hk := zOk_t c hk
    have hk := zOk_some hk
    exact zr_weak h [0, 1, 2, 3] rfl hk
  · have hk := zOk_f c hk
    refine zr_aload_n h dX12_laysGroups_63 0 rfl rfl ?_
    refine zr_getR h zfo_X12_41 lR_0 rfl dX12_laysGroups_64 ?_
    refine zr_iload_n h dX12_laysGroups_67 3 rfl rfl ?_
    have hb := zOk_chk hk
    have hk := hb.2
    refine zr_iald h lR_11 hb.1 dX12_laysGroups_68 ?_
    refine zr_aload_n h dX12_laysGroups_69 0 rfl rfl ?_
    refine zr_getR h zfo_X12_41 lR_0 rfl dX12_laysGroups_70 ?_
    refine zr_iload h dX12_laysGroups_73 4 rfl ?_
    have hb := zOk_chk hk
    have hk := hb.2
    refine zr_iald h lR_11 hb.1 dX12_laysGroups_75 ?_
    refine zr_icmp_eq (tgt := 104) h dX12_laysGroups_76 (by decide) (fun c => ?_) (fun c => ?_)
    · have hk := zOk_t c hk
      exact w_X12_laysGroups_104_L54 h s.1 x1 s.2.1 x3 s.2.2 hk
    · have hk := zOk_f c hk
      refine zr_aload_n h dX12_laysGroups_79 0 rfl rfl ?_
      refine zr_getR h zfo_X12_74 lR_0 rfl dX12_laysGroups_80 ?_
      refine zr_iload_n h dX12_laysGroups_83 1 rfl rfl ?_
      refine zr_aload_n h dX12_laysGroups_84 0 rfl rfl ?_
      refine zr_getR h zfo_X12_41 lR_0 rfl dX12_laysGroups_85 ?_
      refine zr_iload_n h dX12_laysGroups_88 3 rfl rfl ?_
      have hb := zOk_chk hk
      have hk := hb.2
      refine zr_iald h lR_11 hb.1 dX12_laysGroups_89 ?_
      refine zr_aload_n h dX12_laysGroups_90 0 rfl rfl ?_
      refine zr_getR h zfo_X12_41 lR_0 rfl dX12_laysGroups_91 ?_
      refine zr_iload h dX12_laysGroups_94 4 rfl ?_
      have hb := zOk_chk hk
      have hk := hb.2
      refine zr_iald h lR_11 hb.1 dX12_laysGroups_96 ?_
      refine zr_callSp h zcw_X12_340 (by decide) (c_X12_clueAt E s.1 x1 (s.1.1 11 (zix x3)) (s.1.1 11 (zix s.2.2)) _ (zOk_bind hk)) rfl rfl (Nat.le_of_ble_eq_true rfl) dX12_laysGroups_97 (fun r_97 hk => ?_)
      have hb := zOk_chk hk
      have hk := hb.2
      refine zr_zald h lR_22 hb.1 dX12_laysGroups_100 ?_
      refine zr_if_eq (tgt := 108) h dX12_laysGroups_101 (by decide) (fun c => ?_) (fun c => ?_)
      · have hk := zOk_t c hk
        refine zr_iconst (v := (zI 0)) h dX12_laysGroups_108 rfl ?_
        exact w_X12_laysGroups_109_L54 h s.1 x1 s.2.1 x3 s.2.2 (zI 0) hk
      · have hk := zOk_f c hk
        exact w_X12_laysGroups_104_L54 h s.1 x1 s.2.1 x3 s.2.2 hk
noncomputable def f_X12_laysGroups_L43 (x1 : Int32) (s : (ZMem × Int32 × Int32)) : Option ((ZMem × Int32 × Int32) ⊕ (ZMem × Int32)) := if (s.1.1 0 4) ≤ s.2.2 then some (.inr (s.1, s.2.1)) else zbind (zloop (f_X12_laysGroups_L54 x1 s.2.2) (s.1, s.2.1, (zI 0))) (fun e54 => zbnd (s.2.2 + (zI 1)) (fun x3_173 => some (.inl (e54.1, e54.2, x3_173))))
set_option maxRecDepth 100000 in
set_option maxHeartbeats 4000000 in
theorem w_X12_laysGroups_L43 {E : ZEv} {G : ZG} {K : ZMem → Prop} (h : zRu lyR E G (zRv K) cX12_laysGroups RX12 6 none 1) (x1 : Int32) (s : (ZMem × Int32 × Int32)) (hk : zOk (zloop (f_X12_laysGroups_L43 x1) s) (fun e => G e.1 179 [(0, zrf E 0), (1, .int x1), (2, .int e.2)] [])) : G s.1 43 [(0, zrf E 0), (1, .int x1), (2, .int s.2.1), (3, .int s.2.2)] [] := by
  refine zloop_walk (P := fun s => G s.1 43 [(0, zrf E 0), (1, .int x1), (2, .int s.2.1), (3, .int s.2.2)] []) hk (fun s hk => ?_)
  unfold f_X12_laysGroups_L43 at hk
  refine zr_iload_n h dX12_laysGroups_43 3 rfl rfl ?_
  refine zr_aload_n h dX12_laysGroups_44 0 rfl rfl ?_
  refine zr_getI h zfo_X12_162 lR_0 rfl dX12_laysGroups_45 ?_
  refine zr_icmp_ge (tgt := 179) h dX12_laysGroups_48 (by decide) (fun c => ?_) (fun c => ?_)
  · have hk := zOk_t c hk
    have hk := zOk_some hk
    exact zr_weak h [0, 1, 2] rfl hk
  · have hk := zOk_f c hk
    refine zr_iconst (v := (zI 0)) h dX12_laysGroups_51 rfl ?_
    refine zr_istore (L' := [(0, zrf E 0), (1, .int x1), (2, .int s.2.1), (3, .int s.2.2), (4, .int (zI 0))]) h [1, 2, 3, 4, 0] dX12_laysGroups_52 (by decide) rfl ?_
    refine w_X12_laysGroups_L54 h x1 s.2.2 (s.1, s.2.1, (zI 0)) (zOk_mono (zOk_bind hk) (fun e54 hk => ?_))
    obtain ⟨x3_173, ex⟩ : ∃ y : Int32, y = s.2.2 + (zI 1) := ⟨_, rfl⟩
    have hk := zOk_bnd ex hk
    refine zr_iinc (v := x3_173) (L' := [(0, zrf E 0), (1, .int x1), (2, .int e54.2), (3, .int x3_173)]) h 3 [1, 2, 3, 0] dX12_laysGroups_173 rfl (by rw [ex]; rfl) (by decide) rfl ?_
    refine zr_goto (tgt := 43) h dX12_laysGroups_176 (by decide) ?_
    have hk := zOk_some hk
    exact zr_weak h [0, 1, 2, 3] rfl hk
noncomputable def f_X12_laysGroups_L35 (x1 : Int32) (s : (ZMem × Int32)) : Option ((ZMem × Int32) ⊕ (ZMem)) := if s.2 = (zI 0) then some (.inr s.1) else zbind (zloop (f_X12_laysGroups_L43 x1) (s.1, (zI 0), (zI 0))) (fun e43 => some (.inl (e43.1, e43.2)))
set_option maxRecDepth 100000 in
set_option maxHeartbeats 4000000 in
theorem w_X12_laysGroups_L35 {E : ZEv} {G : ZG} {K : ZMem → Prop} (h : zRu lyR E G (zRv K) cX12_laysGroups RX12 6 none 1) (x1 : Int32) (s : (ZMem × Int32)) (hk : zOk (zloop (f_X12_laysGroups_L35 x1) s) (fun e => G e 182 [] [])) : G s.1 35 [(0, zrf E 0), (1, .int x1), (2, .int s.2)] [] := by
  refine zloop_walk (P := fun s => G s.1 35 [(0, zrf E 0), (1, .int x1), (2, .int s.2)] []) hk (fun s hk => ?_)
  unfold f_X12_laysGroups_L35 at hk
  refine zr_iload_n h dX12_laysGroups_35 2 rfl rfl ?_
  refine zr_if_eq (tgt := 182) h dX12_laysGroups_36 (by decide) (fun c => ?_) (fun c => ?_)
  · have hk := zOk_t c hk
    have hk := zOk_some hk
    exact zr_weak h [] rfl hk
  · have hk := zOk_f c hk
    refine zr_iconst (v := (zI 0)) h dX12_laysGroups_39 rfl ?_
    refine zr_istore_n (L' := [(0, zrf E 0), (1, .int x1), (2, .int (zI 0))]) h [1, 2, 0] dX12_laysGroups_40 rfl (by decide) rfl ?_
    refine zr_iconst (v := (zI 0)) h dX12_laysGroups_41 rfl ?_
    refine zr_istore_n (L' := [(0, zrf E 0), (1, .int x1), (2, .int (zI 0)), (3, .int (zI 0))]) h [1, 2, 3, 0] dX12_laysGroups_42 rfl (by decide) rfl ?_
    refine w_X12_laysGroups_L43 h x1 (s.1, (zI 0), (zI 0)) (zOk_mono (zOk_bind hk) (fun e43 hk => ?_))
    refine zr_goto (tgt := 35) h dX12_laysGroups_179 (by decide) ?_
    have hk := zOk_some hk
    exact zr_weak h [0, 1, 2] rfl hk
noncomputable def f_X12_laysGroups (M : ZMem) (x1 : Int32) : Option ZMem := zbind (zloop (f_X12_laysGroups_L2 x1) (M, (zI 0))) (fun e2 => zbind (zloop (f_X12_laysGroups_L35 x1) (e2, (zI 1))) (fun e35 => some e35))
set_option maxRecDepth 100000 in
set_option maxHeartbeats 4000000 in
theorem c_X12_laysGroups (E : ZEv) (M : ZMem) (x1 : Int32) (K : ZMem → Prop) (hk : zOk (f_X12_laysGroups M x1) K) : zCon lyR E yX12_laysGroups cX12_laysGroups 6 none 1 [zrf E 0, .int x1] M (zRv K) := by
  refine zcon_of (L0 := [(0, zrf E 0), (1, .int x1)]) (by decide) rfl (Nat.le_of_ble_eq_true rfl) (fun G h => ?_)
  have h : zRu lyR E G (zRv K) cX12_laysGroups RX12 6 none 1 := h
  unfold f_X12_laysGroups at hk
  refine zr_iconst (v := (zI 0)) h dX12_laysGroups_0 rfl ?_
  refine zr_istore_n (L' := [(0, zrf E 0), (1, .int x1), (2, .int (zI 0))]) h [1, 2, 0] dX12_laysGroups_1 rfl (by decide) rfl ?_
  refine w_X12_laysGroups_L2 h x1 (M, (zI 0)) (zOk_mono (zOk_bind hk) (fun e2 hk => ?_))
  refine zr_iconst (v := (zI 1)) h dX12_laysGroups_33 rfl ?_
  refine zr_istore_n (L' := [(0, zrf E 0), (1, .int x1), (2, .int (zI 1))]) h [1, 2, 0] dX12_laysGroups_34 rfl (by decide) rfl ?_
  refine w_X12_laysGroups_L35 h x1 (e2, (zI 1)) (zOk_mono (zOk_bind hk) (fun e35 hk => ?_))
  have hk := zOk_some hk
  exact zr_vret h dX12_laysGroups_182 ⟨rfl, hk⟩
theorem dX12_laysGrid_0 : decode cX12_laysGrid 0 = .ok (.iconst 0, 1) := by decide +kernel
theorem dX12_laysGrid_1 : decode cX12_laysGrid 1 = .ok (.istore_n 1, 1) := by decide +kernel
theorem dX12_laysGrid_2 : decode cX12_laysGrid 2 = .ok (.iload_n 1, 1) := by decide +kernel
theorem dX12_laysGrid_3 : decode cX12_laysGrid 3 = .ok (.sipush 800, 3) := by decide +kernel
theorem dX12_laysGrid_6 : decode cX12_laysGrid 6 = .ok (.if_icmp .ge 16, 3) := by decide +kernel
theorem dX12_laysGrid_9 : decode cX12_laysGrid 9 = .ok (.aload_n 0, 1) := by decide +kernel
theorem dX12_laysGrid_10 : decode cX12_laysGrid 10 = .ok (.getfield 74, 3) := by decide +kernel
theorem dX12_laysGrid_13 : decode cX12_laysGrid 13 = .ok (.iload_n 1, 1) := by decide +kernel
theorem dX12_laysGrid_14 : decode cX12_laysGrid 14 = .ok (.iconst 0, 1) := by decide +kernel
theorem dX12_laysGrid_15 : decode cX12_laysGrid 15 = .ok (.bastore, 1) := by decide +kernel
theorem dX12_laysGrid_16 : decode cX12_laysGrid 16 = .ok (.iinc 1 1, 3) := by decide +kernel
theorem dX12_laysGrid_19 : decode cX12_laysGrid 19 = .ok (.goto (-17), 3) := by decide +kernel
theorem dX12_laysGrid_22 : decode cX12_laysGrid 22 = .ok (.iconst 0, 1) := by decide +kernel
theorem dX12_laysGrid_23 : decode cX12_laysGrid 23 = .ok (.istore_n 1, 1) := by decide +kernel
theorem dX12_laysGrid_24 : decode cX12_laysGrid 24 = .ok (.iload_n 1, 1) := by decide +kernel
theorem dX12_laysGrid_25 : decode cX12_laysGrid 25 = .ok (.aload_n 0, 1) := by decide +kernel
theorem dX12_laysGrid_26 : decode cX12_laysGrid 26 = .ok (.getfield 302, 3) := by decide +kernel
theorem dX12_laysGrid_29 : decode cX12_laysGrid 29 = .ok (.if_icmp .ge 33, 3) := by decide +kernel
theorem dX12_laysGrid_32 : decode cX12_laysGrid 32 = .ok (.iload_n 1, 1) := by decide +kernel
theorem dX12_laysGrid_33 : decode cX12_laysGrid 33 = .ok (.iconst 1, 1) := by decide +kernel
theorem dX12_laysGrid_34 : decode cX12_laysGrid 34 = .ok (.iadd, 1) := by decide +kernel
theorem dX12_laysGrid_35 : decode cX12_laysGrid 35 = .ok (.istore_n 2, 1) := by decide +kernel
theorem dX12_laysGrid_36 : decode cX12_laysGrid 36 = .ok (.iload_n 2, 1) := by decide +kernel
theorem dX12_laysGrid_37 : decode cX12_laysGrid 37 = .ok (.aload_n 0, 1) := by decide +kernel
theorem dX12_laysGrid_38 : decode cX12_laysGrid 38 = .ok (.getfield 302, 3) := by decide +kernel
theorem dX12_laysGrid_41 : decode cX12_laysGrid 41 = .ok (.if_icmp .ge 15, 3) := by decide +kernel
theorem dX12_laysGrid_44 : decode cX12_laysGrid 44 = .ok (.aload_n 0, 1) := by decide +kernel
theorem dX12_laysGrid_45 : decode cX12_laysGrid 45 = .ok (.iload_n 1, 1) := by decide +kernel
theorem dX12_laysGrid_46 : decode cX12_laysGrid 46 = .ok (.iload_n 2, 1) := by decide +kernel
theorem dX12_laysGrid_47 : decode cX12_laysGrid 47 = .ok (.invokevirtual 350, 3) := by decide +kernel
theorem dX12_laysGrid_50 : decode cX12_laysGrid 50 = .ok (.iinc 2 1, 3) := by decide +kernel
theorem dX12_laysGrid_53 : decode cX12_laysGrid 53 = .ok (.goto (-17), 3) := by decide +kernel
theorem dX12_laysGrid_56 : decode cX12_laysGrid 56 = .ok (.iinc 1 1, 3) := by decide +kernel
theorem dX12_laysGrid_59 : decode cX12_laysGrid 59 = .ok (.goto (-35), 3) := by decide +kernel
theorem dX12_laysGrid_62 : decode cX12_laysGrid 62 = .ok (.iconst 0, 1) := by decide +kernel
theorem dX12_laysGrid_63 : decode cX12_laysGrid 63 = .ok (.istore_n 1, 1) := by decide +kernel
theorem dX12_laysGrid_64 : decode cX12_laysGrid 64 = .ok (.iload_n 1, 1) := by decide +kernel
theorem dX12_laysGrid_65 : decode cX12_laysGrid 65 = .ok (.aload_n 0, 1) := by decide +kernel
theorem dX12_laysGrid_66 : decode cX12_laysGrid 66 = .ok (.getfield 35, 3) := by decide +kernel
theorem dX12_laysGrid_69 : decode cX12_laysGrid 69 = .ok (.iconst 3, 1) := by decide +kernel
theorem dX12_laysGrid_70 : decode cX12_laysGrid 70 = .ok (.iaload, 1) := by decide +kernel
theorem dX12_laysGrid_71 : decode cX12_laysGrid 71 = .ok (.if_icmp .ge 53, 3) := by decide +kernel
theorem dX12_laysGrid_74 : decode cX12_laysGrid 74 = .ok (.sipush 424, 3) := by decide +kernel
theorem dX12_laysGrid_77 : decode cX12_laysGrid 77 = .ok (.iconst 3, 1) := by decide +kernel
theorem dX12_laysGrid_78 : decode cX12_laysGrid 78 = .ok (.iload_n 1, 1) := by decide +kernel
theorem dX12_laysGrid_79 : decode cX12_laysGrid 79 = .ok (.imul, 1) := by decide +kernel
theorem dX12_laysGrid_80 : decode cX12_laysGrid 80 = .ok (.iadd, 1) := by decide +kernel
theorem dX12_laysGrid_81 : decode cX12_laysGrid 81 = .ok (.istore_n 2, 1) := by decide +kernel
theorem dX12_laysGrid_82 : decode cX12_laysGrid 82 = .ok (.aload_n 0, 1) := by decide +kernel
theorem dX12_laysGrid_83 : decode cX12_laysGrid 83 = .ok (.aload_n 0, 1) := by decide +kernel
theorem dX12_laysGrid_84 : decode cX12_laysGrid 84 = .ok (.getfield 35, 3) := by decide +kernel
theorem dX12_laysGrid_87 : decode cX12_laysGrid 87 = .ok (.iload_n 2, 1) := by decide +kernel
theorem dX12_laysGrid_88 : decode cX12_laysGrid 88 = .ok (.iconst 2, 1) := by decide +kernel
theorem dX12_laysGrid_89 : decode cX12_laysGrid 89 = .ok (.iadd, 1) := by decide +kernel
theorem dX12_laysGrid_90 : decode cX12_laysGrid 90 = .ok (.iaload, 1) := by decide +kernel
theorem dX12_laysGrid_91 : decode cX12_laysGrid 91 = .ok (.aload_n 0, 1) := by decide +kernel
theorem dX12_laysGrid_92 : decode cX12_laysGrid 92 = .ok (.getfield 41, 3) := by decide +kernel
theorem dX12_laysGrid_95 : decode cX12_laysGrid 95 = .ok (.aload_n 0, 1) := by decide +kernel
theorem dX12_laysGrid_96 : decode cX12_laysGrid 96 = .ok (.getfield 35, 3) := by decide +kernel
theorem dX12_laysGrid_99 : decode cX12_laysGrid 99 = .ok (.iload_n 2, 1) := by decide +kernel
theorem dX12_laysGrid_100 : decode cX12_laysGrid 100 = .ok (.iaload, 1) := by decide +kernel
theorem dX12_laysGrid_101 : decode cX12_laysGrid 101 = .ok (.iaload, 1) := by decide +kernel
theorem dX12_laysGrid_102 : decode cX12_laysGrid 102 = .ok (.aload_n 0, 1) := by decide +kernel
theorem dX12_laysGrid_103 : decode cX12_laysGrid 103 = .ok (.getfield 41, 3) := by decide +kernel
theorem dX12_laysGrid_106 : decode cX12_laysGrid 106 = .ok (.aload_n 0, 1) := by decide +kernel
theorem dX12_laysGrid_107 : decode cX12_laysGrid 107 = .ok (.getfield 35, 3) := by decide +kernel
theorem dX12_laysGrid_110 : decode cX12_laysGrid 110 = .ok (.iload_n 2, 1) := by decide +kernel
theorem dX12_laysGrid_111 : decode cX12_laysGrid 111 = .ok (.iconst 1, 1) := by decide +kernel
theorem dX12_laysGrid_112 : decode cX12_laysGrid 112 = .ok (.iadd, 1) := by decide +kernel
theorem dX12_laysGrid_113 : decode cX12_laysGrid 113 = .ok (.iaload, 1) := by decide +kernel
theorem dX12_laysGrid_114 : decode cX12_laysGrid 114 = .ok (.iaload, 1) := by decide +kernel
theorem dX12_laysGrid_115 : decode cX12_laysGrid 115 = .ok (.invokevirtual 346, 3) := by decide +kernel
theorem dX12_laysGrid_118 : decode cX12_laysGrid 118 = .ok (.iinc 1 1, 3) := by decide +kernel
theorem dX12_laysGrid_121 : decode cX12_laysGrid 121 = .ok (.goto (-57), 3) := by decide +kernel
theorem dX12_laysGrid_124 : decode cX12_laysGrid 124 = .ok (.aload_n 0, 1) := by decide +kernel
theorem dX12_laysGrid_125 : decode cX12_laysGrid 125 = .ok (.iconst 0, 1) := by decide +kernel
theorem dX12_laysGrid_126 : decode cX12_laysGrid 126 = .ok (.invokevirtual 353, 3) := by decide +kernel
theorem dX12_laysGrid_129 : decode cX12_laysGrid 129 = .ok (.aload_n 0, 1) := by decide +kernel
theorem dX12_laysGrid_130 : decode cX12_laysGrid 130 = .ok (.iconst 1, 1) := by decide +kernel
theorem dX12_laysGrid_131 : decode cX12_laysGrid 131 = .ok (.invokevirtual 353, 3) := by decide +kernel
theorem dX12_laysGrid_134 : decode cX12_laysGrid 134 = .ok (.return_, 1) := by decide +kernel
noncomputable def f_X12_laysGrid_L2 (s : (ZMem × Int32)) : Option ((ZMem × Int32) ⊕ (ZMem)) := if (zI 800) ≤ s.2 then some (.inr s.1) else zchk (zin s.2 800) (zbnd (zstI s.1 22 (zix s.2) (vp_nar .boolean (zI 0))) (fun M_15 => zbnd (s.2 + (zI 1)) (fun x1_16 => some (.inl (M_15, x1_16)))))
set_option maxRecDepth 100000 in
set_option maxHeartbeats 4000000 in
theorem w_X12_laysGrid_L2 {E : ZEv} {G : ZG} {K : ZMem → Prop} (h : zRu lyR E G (zRv K) cX12_laysGrid RX12 3 none 3) (s : (ZMem × Int32)) (hk : zOk (zloop (f_X12_laysGrid_L2) s) (fun e => G e 22 [(0, zrf E 0)] [])) : G s.1 2 [(0, zrf E 0), (1, .int s.2)] [] := by
  refine zloop_walk (P := fun s => G s.1 2 [(0, zrf E 0), (1, .int s.2)] []) hk (fun s hk => ?_)
  unfold f_X12_laysGrid_L2 at hk
  refine zr_iload_n h dX12_laysGrid_2 1 rfl rfl ?_
  refine zr_sipush (v := (zI 800)) h dX12_laysGrid_3 (by decide) ?_
  refine zr_icmp_ge (tgt := 22) h dX12_laysGrid_6 (by decide) (fun c => ?_) (fun c => ?_)
  · have hk := zOk_t c hk
    have hk := zOk_some hk
    exact zr_weak h [0] rfl hk
  · have hk := zOk_f c hk
    refine zr_aload_n h dX12_laysGrid_9 0 rfl rfl ?_
    refine zr_getR h zfo_X12_74 lR_0 rfl dX12_laysGrid_10 ?_
    refine zr_iload_n h dX12_laysGrid_13 1 rfl rfl ?_
    refine zr_iconst (v := (zI 0)) h dX12_laysGrid_14 rfl ?_
    have hb := zOk_chk hk
    have hk := hb.2
    refine zr_zast h lR_22 hb.1 dX12_laysGrid_15 ?_
    refine zr_mem (fun M_15 eM => ?_)
    have hk := zOk_bnd eM hk
    obtain ⟨x1_16, ex⟩ : ∃ y : Int32, y = s.2 + (zI 1) := ⟨_, rfl⟩
    have hk := zOk_bnd ex hk
    refine zr_iinc (v := x1_16) (L' := [(0, zrf E 0), (1, .int x1_16)]) h 1 [1, 0] dX12_laysGrid_16 rfl (by rw [ex]; rfl) (by decide) rfl ?_
    refine zr_goto (tgt := 2) h dX12_laysGrid_19 (by decide) ?_
    have hk := zOk_some hk
    exact zr_weak h [0, 1] rfl hk
noncomputable def f_X12_laysGrid_L36 (x1 : Int32) (s : (ZMem × Int32)) : Option ((ZMem × Int32) ⊕ (ZMem)) := if (s.1.1 0 25) ≤ s.2 then some (.inr s.1) else zbind (f_X12_cluesOf s.1 x1 s.2) (fun M_47 => zbnd (s.2 + (zI 1)) (fun x2_50 => some (.inl (M_47, x2_50))))
set_option maxRecDepth 100000 in
set_option maxHeartbeats 4000000 in
theorem w_X12_laysGrid_L36 {E : ZEv} {G : ZG} {K : ZMem → Prop} (h : zRu lyR E G (zRv K) cX12_laysGrid RX12 3 none 3) (x1 : Int32) (s : (ZMem × Int32)) (hk : zOk (zloop (f_X12_laysGrid_L36 x1) s) (fun e => G e 56 [(0, zrf E 0), (1, .int x1)] [])) : G s.1 36 [(0, zrf E 0), (1, .int x1), (2, .int s.2)] [] := by
  refine zloop_walk (P := fun s => G s.1 36 [(0, zrf E 0), (1, .int x1), (2, .int s.2)] []) hk (fun s hk => ?_)
  unfold f_X12_laysGrid_L36 at hk
  refine zr_iload_n h dX12_laysGrid_36 2 rfl rfl ?_
  refine zr_aload_n h dX12_laysGrid_37 0 rfl rfl ?_
  refine zr_getI h zfo_X12_302 lR_0 rfl dX12_laysGrid_38 ?_
  refine zr_icmp_ge (tgt := 56) h dX12_laysGrid_41 (by decide) (fun c => ?_) (fun c => ?_)
  · have hk := zOk_t c hk
    have hk := zOk_some hk
    exact zr_weak h [0, 1] rfl hk
  · have hk := zOk_f c hk
    refine zr_aload_n h dX12_laysGrid_44 0 rfl rfl ?_
    refine zr_iload_n h dX12_laysGrid_45 1 rfl rfl ?_
    refine zr_iload_n h dX12_laysGrid_46 2 rfl rfl ?_
    refine zr_callVv h lR_0 zcw_X12_350 (by decide) (c_X12_cluesOf E s.1 x1 s.2 _ (zOk_bind hk)) rfl rfl (Nat.le_of_ble_eq_true rfl) dX12_laysGrid_47 (fun M_47 hk => ?_)
    obtain ⟨x2_50, ex⟩ : ∃ y : Int32, y = s.2 + (zI 1) := ⟨_, rfl⟩
    have hk := zOk_bnd ex hk
    refine zr_iinc (v := x2_50) (L' := [(0, zrf E 0), (1, .int x1), (2, .int x2_50)]) h 2 [1, 2, 0] dX12_laysGrid_50 rfl (by rw [ex]; rfl) (by decide) rfl ?_
    refine zr_goto (tgt := 36) h dX12_laysGrid_53 (by decide) ?_
    have hk := zOk_some hk
    exact zr_weak h [0, 1, 2] rfl hk
noncomputable def f_X12_laysGrid_L24 (s : (ZMem × Int32)) : Option ((ZMem × Int32) ⊕ (ZMem)) := if (s.1.1 0 25) ≤ s.2 then some (.inr s.1) else zbnd (s.2 + (zI 1)) (fun x2_35 => zbind (zloop (f_X12_laysGrid_L36 s.2) (s.1, x2_35)) (fun e36 => zbnd (s.2 + (zI 1)) (fun x1_56 => some (.inl (e36, x1_56)))))
set_option maxRecDepth 100000 in
set_option maxHeartbeats 4000000 in
theorem w_X12_laysGrid_L24 {E : ZEv} {G : ZG} {K : ZMem → Prop} (h : zRu lyR E G (zRv K) cX12_laysGrid RX12 3 none 3) (s : (ZMem × Int32)) (hk : zOk (zloop (f_X12_laysGrid_L24) s) (fun e => G e 62 [(0, zrf E 0)] [])) : G s.1 24 [(0, zrf E 0), (1, .int s.2)] [] := by
  refine zloop_walk (P := fun s => G s.1 24 [(0, zrf E 0), (1, .int s.2)] []) hk (fun s hk => ?_)
  unfold f_X12_laysGrid_L24 at hk
  refine zr_iload_n h dX12_laysGrid_24 1 rfl rfl ?_
  refine zr_aload_n h dX12_laysGrid_25 0 rfl rfl ?_
  refine zr_getI h zfo_X12_302 lR_0 rfl dX12_laysGrid_26 ?_
  refine zr_icmp_ge (tgt := 62) h dX12_laysGrid_29 (by decide) (fun c => ?_) (fun c => ?_)
  · have hk := zOk_t c hk
    have hk := zOk_some hk
    exact zr_weak h [0] rfl hk
  · have hk := zOk_f c hk
    refine zr_iload_n h dX12_laysGrid_32 1 rfl rfl ?_
    refine zr_iconst (v := (zI 1)) h dX12_laysGrid_33 rfl ?_
    refine zr_iadd h dX12_laysGrid_34 ?_
    refine zr_topi (fun x2_35 ex => ?_)
    have hk := zOk_bnd ex hk
    refine zr_istore_n (L' := [(0, zrf E 0), (1, .int s.2), (2, .int x2_35)]) h [1, 2, 0] dX12_laysGrid_35 rfl (by decide) rfl ?_
    refine w_X12_laysGrid_L36 h s.2 (s.1, x2_35) (zOk_mono (zOk_bind hk) (fun e36 hk => ?_))
    obtain ⟨x1_56, ex⟩ : ∃ y : Int32, y = s.2 + (zI 1) := ⟨_, rfl⟩
    have hk := zOk_bnd ex hk
    refine zr_iinc (v := x1_56) (L' := [(0, zrf E 0), (1, .int x1_56)]) h 1 [1, 0] dX12_laysGrid_56 rfl (by rw [ex]; rfl) (by decide) rfl ?_
    refine zr_goto (tgt := 24) h dX12_laysGrid_59 (by decide) ?_
    have hk := zOk_some hk
    exact zr_weak h [0, 1] rfl hk
noncomputable def f_X12_laysGrid_L64 (s : (ZMem × Int32)) : Option ((ZMem × Int32) ⊕ (ZMem)) := if (s.1.1 9 (zix (zI 3))) ≤ s.2 then some (.inr s.1) else zbnd ((zI 424) + ((zI 3) * s.2)) (fun x2_81 => zchk (zin (x2_81 + (zI 2)) 460) (zchk (zin x2_81 460) (zchk (zin (s.1.1 9 (zix x2_81)) 20) (zchk (zin (x2_81 + (zI 1)) 460) (zchk (zin (s.1.1 9 (zix (x2_81 + (zI 1)))) 20) (zbind (f_X12_tellsClue s.1 (s.1.1 9 (zix (x2_81 + (zI 2)))) (s.1.1 11 (zix (s.1.1 9 (zix x2_81)))) (s.1.1 11 (zix (s.1.1 9 (zix (x2_81 + (zI 1))))))) (fun M_115 => zbnd (s.2 + (zI 1)) (fun x1_118 => some (.inl (M_115, x1_118))))))))))
set_option maxRecDepth 100000 in
set_option maxHeartbeats 4000000 in
theorem w_X12_laysGrid_L64 {E : ZEv} {G : ZG} {K : ZMem → Prop} (h : zRu lyR E G (zRv K) cX12_laysGrid RX12 3 none 3) (s : (ZMem × Int32)) (hk : zOk (zloop (f_X12_laysGrid_L64) s) (fun e => G e 124 [(0, zrf E 0)] [])) : G s.1 64 [(0, zrf E 0), (1, .int s.2)] [] := by
  refine zloop_walk (P := fun s => G s.1 64 [(0, zrf E 0), (1, .int s.2)] []) hk (fun s hk => ?_)
  unfold f_X12_laysGrid_L64 at hk
  refine zr_iload_n h dX12_laysGrid_64 1 rfl rfl ?_
  refine zr_aload_n h dX12_laysGrid_65 0 rfl rfl ?_
  refine zr_getR h zfo_X12_35 lR_0 rfl dX12_laysGrid_66 ?_
  refine zr_iconst (v := (zI 3)) h dX12_laysGrid_69 rfl ?_
  refine zr_iald h lR_9 (by decide) dX12_laysGrid_70 ?_
  refine zr_icmp_ge (tgt := 124) h dX12_laysGrid_71 (by decide) (fun c => ?_) (fun c => ?_)
  · have hk := zOk_t c hk
    have hk := zOk_some hk
    exact zr_weak h [0] rfl hk
  · have hk := zOk_f c hk
    refine zr_sipush (v := (zI 424)) h dX12_laysGrid_74 (by decide) ?_
    refine zr_iconst (v := (zI 3)) h dX12_laysGrid_77 rfl ?_
    refine zr_iload_n h dX12_laysGrid_78 1 rfl rfl ?_
    refine zr_imul h dX12_laysGrid_79 ?_
    refine zr_iadd h dX12_laysGrid_80 ?_
    refine zr_topi (fun x2_81 ex => ?_)
    have hk := zOk_bnd ex hk
    refine zr_istore_n (L' := [(0, zrf E 0), (1, .int s.2), (2, .int x2_81)]) h [1, 2, 0] dX12_laysGrid_81 rfl (by decide) rfl ?_
    refine zr_aload_n h dX12_laysGrid_82 0 rfl rfl ?_
    refine zr_aload_n h dX12_laysGrid_83 0 rfl rfl ?_
    refine zr_getR h zfo_X12_35 lR_0 rfl dX12_laysGrid_84 ?_
    refine zr_iload_n h dX12_laysGrid_87 2 rfl rfl ?_
    refine zr_iconst (v := (zI 2)) h dX12_laysGrid_88 rfl ?_
    refine zr_iadd h dX12_laysGrid_89 ?_
    have hb := zOk_chk hk
    have hk := hb.2
    refine zr_iald h lR_9 hb.1 dX12_laysGrid_90 ?_
    refine zr_aload_n h dX12_laysGrid_91 0 rfl rfl ?_
    refine zr_getR h zfo_X12_41 lR_0 rfl dX12_laysGrid_92 ?_
    refine zr_aload_n h dX12_laysGrid_95 0 rfl rfl ?_
    refine zr_getR h zfo_X12_35 lR_0 rfl dX12_laysGrid_96 ?_
    refine zr_iload_n h dX12_laysGrid_99 2 rfl rfl ?_
    have hb := zOk_chk hk
    have hk := hb.2
    refine zr_iald h lR_9 hb.1 dX12_laysGrid_100 ?_
    have hb := zOk_chk hk
    have hk := hb.2
    refine zr_iald h lR_11 hb.1 dX12_laysGrid_101 ?_
    refine zr_aload_n h dX12_laysGrid_102 0 rfl rfl ?_
    refine zr_getR h zfo_X12_41 lR_0 rfl dX12_laysGrid_103 ?_
    refine zr_aload_n h dX12_laysGrid_106 0 rfl rfl ?_
    refine zr_getR h zfo_X12_35 lR_0 rfl dX12_laysGrid_107 ?_
    refine zr_iload_n h dX12_laysGrid_110 2 rfl rfl ?_
    refine zr_iconst (v := (zI 1)) h dX12_laysGrid_111 rfl ?_
    refine zr_iadd h dX12_laysGrid_112 ?_
    have hb := zOk_chk hk
    have hk := hb.2
    refine zr_iald h lR_9 hb.1 dX12_laysGrid_113 ?_
    have hb := zOk_chk hk
    have hk := hb.2
    refine zr_iald h lR_11 hb.1 dX12_laysGrid_114 ?_
    refine zr_callVv h lR_0 zcw_X12_346 (by decide) (c_X12_tellsClue E s.1 (s.1.1 9 (zix (x2_81 + (zI 2)))) (s.1.1 11 (zix (s.1.1 9 (zix x2_81)))) (s.1.1 11 (zix (s.1.1 9 (zix (x2_81 + (zI 1)))))) _ (zOk_bind hk)) rfl rfl (Nat.le_of_ble_eq_true rfl) dX12_laysGrid_115 (fun M_115 hk => ?_)
    obtain ⟨x1_118, ex⟩ : ∃ y : Int32, y = s.2 + (zI 1) := ⟨_, rfl⟩
    have hk := zOk_bnd ex hk
    refine zr_iinc (v := x1_118) (L' := [(0, zrf E 0), (1, .int x1_118)]) h 1 [1, 0] dX12_laysGrid_118 rfl (by rw [ex]; rfl) (by decide) rfl ?_
    refine zr_goto (tgt := 64) h dX12_laysGrid_121 (by decide) ?_
    have hk := zOk_some hk
    exact zr_weak h [0, 1] rfl hk
noncomputable def f_X12_laysGrid (M : ZMem) : Option ZMem := zbind (zloop (f_X12_laysGrid_L2) (M, (zI 0))) (fun e2 => zbind (zloop (f_X12_laysGrid_L24) (e2, (zI 0))) (fun e24 => zbind (zloop (f_X12_laysGrid_L64) (e24, (zI 0))) (fun e64 => zbind (f_X12_laysGroups e64 (zI 0)) (fun M_126 => zbind (f_X12_laysGroups M_126 (zI 1)) (fun M_131 => some M_131)))))
set_option maxRecDepth 100000 in
set_option maxHeartbeats 4000000 in
theorem c_X12_laysGrid (E : ZEv) (M : ZMem) (K : ZMem → Prop) (hk : zOk (f_X12_laysGrid M) K) : zCon lyR E yX12_laysGrid cX12_laysGrid 3 none 3 [zrf E 0] M (zRv K) := by
  refine zcon_of (L0 := [(0, zrf E 0)]) (by decide) rfl (Nat.le_of_ble_eq_true rfl) (fun G h => ?_)
  have h : zRu lyR E G (zRv K) cX12_laysGrid RX12 3 none 3 := h
  unfold f_X12_laysGrid at hk
  refine zr_iconst (v := (zI 0)) h dX12_laysGrid_0 rfl ?_
  refine zr_istore_n (L' := [(0, zrf E 0), (1, .int (zI 0))]) h [1, 0] dX12_laysGrid_1 rfl (by decide) rfl ?_
  refine w_X12_laysGrid_L2 h (M, (zI 0)) (zOk_mono (zOk_bind hk) (fun e2 hk => ?_))
  refine zr_iconst (v := (zI 0)) h dX12_laysGrid_22 rfl ?_
  refine zr_istore_n (L' := [(0, zrf E 0), (1, .int (zI 0))]) h [1, 0] dX12_laysGrid_23 rfl (by decide) rfl ?_
  refine w_X12_laysGrid_L24 h (e2, (zI 0)) (zOk_mono (zOk_bind hk) (fun e24 hk => ?_))
  refine zr_iconst (v := (zI 0)) h dX12_laysGrid_62 rfl ?_
  refine zr_istore_n (L' := [(0, zrf E 0), (1, .int (zI 0))]) h [1, 0] dX12_laysGrid_63 rfl (by decide) rfl ?_
  refine w_X12_laysGrid_L64 h (e24, (zI 0)) (zOk_mono (zOk_bind hk) (fun e64 hk => ?_))
  refine zr_aload_n h dX12_laysGrid_124 0 rfl rfl ?_
  refine zr_iconst (v := (zI 0)) h dX12_laysGrid_125 rfl ?_
  refine zr_callVv h lR_0 zcw_X12_353 (by decide) (c_X12_laysGroups E e64 (zI 0) _ (zOk_bind hk)) rfl rfl (Nat.le_of_ble_eq_true rfl) dX12_laysGrid_126 (fun M_126 hk => ?_)
  refine zr_aload_n h dX12_laysGrid_129 0 rfl rfl ?_
  refine zr_iconst (v := (zI 1)) h dX12_laysGrid_130 rfl ?_
  refine zr_callVv h lR_0 zcw_X12_353 (by decide) (c_X12_laysGroups E M_126 (zI 1) _ (zOk_bind hk)) rfl rfl (Nat.le_of_ble_eq_true rfl) dX12_laysGrid_131 (fun M_131 hk => ?_)
  have hk := zOk_some hk
  exact zr_vret h dX12_laysGrid_134 ⟨rfl, hk⟩
theorem dX12_partOf_0 : decode cX12_partOf 0 = .ok (.iload_n 1, 1) := by decide +kernel
theorem dX12_partOf_1 : decode cX12_partOf 1 = .ok (.ifCond .ne 9, 3) := by decide +kernel
theorem dX12_partOf_4 : decode cX12_partOf 4 = .ok (.iload_n 0, 1) := by decide +kernel
theorem dX12_partOf_5 : decode cX12_partOf 5 = .ok (.iconst 5, 1) := by decide +kernel
theorem dX12_partOf_6 : decode cX12_partOf 6 = .ok (.idiv, 1) := by decide +kernel
theorem dX12_partOf_7 : decode cX12_partOf 7 = .ok (.goto 6, 3) := by decide +kernel
theorem dX12_partOf_10 : decode cX12_partOf 10 = .ok (.iload_n 0, 1) := by decide +kernel
theorem dX12_partOf_11 : decode cX12_partOf 11 = .ok (.iconst 5, 1) := by decide +kernel
theorem dX12_partOf_12 : decode cX12_partOf 12 = .ok (.irem, 1) := by decide +kernel
theorem dX12_partOf_13 : decode cX12_partOf 13 = .ok (.ireturn, 1) := by decide +kernel
noncomputable def f_X12_partOf (M : ZMem) (x0 : Int32) (x1 : Int32) : Option Int32 := if x1 = (zI 0) then some (x0 / (zI 5)) else some (x0 - x0 / (zI 5) * (zI 5))
set_option maxRecDepth 100000 in
set_option maxHeartbeats 4000000 in
theorem c_X12_partOf (E : ZEv) (M : ZMem) (x0 : Int32) (x1 : Int32) (K : Int32 → Prop) (hk : zOk (f_X12_partOf M x0 x1) K) : zCon lyR E yX12_partOf cX12_partOf 2 (some .int) 0 [.int x0, .int x1] M (zRp M K) := by
  refine zcon_of (L0 := [(0, .int x0), (1, .int x1)]) (by decide) rfl (Nat.le_of_ble_eq_true rfl) (fun G h => ?_)
  have h : zRu lyR E G (zRp M K) cX12_partOf RX12 2 (some .int) 0 := h
  unfold f_X12_partOf at hk
  refine zr_iload_n h dX12_partOf_0 1 rfl rfl ?_
  refine zr_if_ne (tgt := 10) h dX12_partOf_1 (by decide) (fun c => ?_) (fun c => ?_)
  · have hk := zOk_t c hk
    refine zr_iload_n h dX12_partOf_4 0 rfl rfl ?_
    refine zr_iconst (v := (zI 5)) h dX12_partOf_5 rfl ?_
    refine zr_idiv h dX12_partOf_6 (by decide) ?_
    refine zr_goto (tgt := 13) h dX12_partOf_7 (by decide) ?_
    have hk := zOk_some hk
    exact zr_iret h dX12_partOf_13 ⟨rfl, _, rfl, hk⟩
  · have hk := zOk_f c hk
    refine zr_iload_n h dX12_partOf_10 0 rfl rfl ?_
    refine zr_iconst (v := (zI 5)) h dX12_partOf_11 rfl ?_
    refine zr_irem h dX12_partOf_12 (by decide) ?_
    have hk := zOk_some hk
    exact zr_iret h dX12_partOf_13 ⟨rfl, _, rfl, hk⟩
theorem dX12_laysKnown_0 : decode cX12_laysKnown 0 = .ok (.iconst 0, 1) := by decide +kernel
theorem dX12_laysKnown_1 : decode cX12_laysKnown 1 = .ok (.istore_n 1, 1) := by decide +kernel
theorem dX12_laysKnown_2 : decode cX12_laysKnown 2 = .ok (.iload_n 1, 1) := by decide +kernel
theorem dX12_laysKnown_3 : decode cX12_laysKnown 3 = .ok (.iconst 2, 1) := by decide +kernel
theorem dX12_laysKnown_4 : decode cX12_laysKnown 4 = .ok (.if_icmp .ge 114, 3) := by decide +kernel
theorem dX12_laysKnown_7 : decode cX12_laysKnown 7 = .ok (.iconst 0, 1) := by decide +kernel
theorem dX12_laysKnown_8 : decode cX12_laysKnown 8 = .ok (.istore_n 2, 1) := by decide +kernel
theorem dX12_laysKnown_9 : decode cX12_laysKnown 9 = .ok (.iload_n 2, 1) := by decide +kernel
theorem dX12_laysKnown_10 : decode cX12_laysKnown 10 = .ok (.aload_n 0, 1) := by decide +kernel
theorem dX12_laysKnown_11 : decode cX12_laysKnown 11 = .ok (.getfield 162, 3) := by decide +kernel
theorem dX12_laysKnown_14 : decode cX12_laysKnown 14 = .ok (.if_icmp .ge 98, 3) := by decide +kernel
theorem dX12_laysKnown_17 : decode cX12_laysKnown 17 = .ok (.aload_n 0, 1) := by decide +kernel
theorem dX12_laysKnown_18 : decode cX12_laysKnown 18 = .ok (.getfield 84, 3) := by decide +kernel
theorem dX12_laysKnown_21 : decode cX12_laysKnown 21 = .ok (.bipush 20, 2) := by decide +kernel
theorem dX12_laysKnown_23 : decode cX12_laysKnown 23 = .ok (.iload_n 1, 1) := by decide +kernel
theorem dX12_laysKnown_24 : decode cX12_laysKnown 24 = .ok (.imul, 1) := by decide +kernel
theorem dX12_laysKnown_25 : decode cX12_laysKnown 25 = .ok (.iload_n 2, 1) := by decide +kernel
theorem dX12_laysKnown_26 : decode cX12_laysKnown 26 = .ok (.iadd, 1) := by decide +kernel
theorem dX12_laysKnown_27 : decode cX12_laysKnown 27 = .ok (.iconst (-1), 1) := by decide +kernel
theorem dX12_laysKnown_28 : decode cX12_laysKnown 28 = .ok (.iastore, 1) := by decide +kernel
theorem dX12_laysKnown_29 : decode cX12_laysKnown 29 = .ok (.aload_n 0, 1) := by decide +kernel
theorem dX12_laysKnown_30 : decode cX12_laysKnown 30 = .ok (.getfield 162, 3) := by decide +kernel
theorem dX12_laysKnown_33 : decode cX12_laysKnown 33 = .ok (.iconst 1, 1) := by decide +kernel
theorem dX12_laysKnown_34 : decode cX12_laysKnown 34 = .ok (.isub, 1) := by decide +kernel
theorem dX12_laysKnown_35 : decode cX12_laysKnown 35 = .ok (.istore_n 3, 1) := by decide +kernel
theorem dX12_laysKnown_36 : decode cX12_laysKnown 36 = .ok (.iload_n 3, 1) := by decide +kernel
theorem dX12_laysKnown_37 : decode cX12_laysKnown 37 = .ok (.ifCond .lt 69, 3) := by decide +kernel
theorem dX12_laysKnown_40 : decode cX12_laysKnown 40 = .ok (.aload_n 0, 1) := by decide +kernel
theorem dX12_laysKnown_41 : decode cX12_laysKnown 41 = .ok (.getfield 35, 3) := by decide +kernel
theorem dX12_laysKnown_44 : decode cX12_laysKnown 44 = .ok (.iconst 4, 1) := by decide +kernel
theorem dX12_laysKnown_45 : decode cX12_laysKnown 45 = .ok (.iload_n 3, 1) := by decide +kernel
theorem dX12_laysKnown_46 : decode cX12_laysKnown 46 = .ok (.iadd, 1) := by decide +kernel
theorem dX12_laysKnown_47 : decode cX12_laysKnown 47 = .ok (.iaload, 1) := by decide +kernel
theorem dX12_laysKnown_48 : decode cX12_laysKnown 48 = .ok (.iconst (-1), 1) := by decide +kernel
theorem dX12_laysKnown_49 : decode cX12_laysKnown 49 = .ok (.if_icmp .eq 51, 3) := by decide +kernel
theorem dX12_laysKnown_52 : decode cX12_laysKnown 52 = .ok (.aload_n 0, 1) := by decide +kernel
theorem dX12_laysKnown_53 : decode cX12_laysKnown 53 = .ok (.getfield 78, 3) := by decide +kernel
theorem dX12_laysKnown_56 : decode cX12_laysKnown 56 = .ok (.bipush 20, 2) := by decide +kernel
theorem dX12_laysKnown_58 : decode cX12_laysKnown 58 = .ok (.iload_n 1, 1) := by decide +kernel
theorem dX12_laysKnown_59 : decode cX12_laysKnown 59 = .ok (.imul, 1) := by decide +kernel
theorem dX12_laysKnown_60 : decode cX12_laysKnown 60 = .ok (.iload_n 3, 1) := by decide +kernel
theorem dX12_laysKnown_61 : decode cX12_laysKnown 61 = .ok (.iadd, 1) := by decide +kernel
theorem dX12_laysKnown_62 : decode cX12_laysKnown 62 = .ok (.iaload, 1) := by decide +kernel
theorem dX12_laysKnown_63 : decode cX12_laysKnown 63 = .ok (.aload_n 0, 1) := by decide +kernel
theorem dX12_laysKnown_64 : decode cX12_laysKnown 64 = .ok (.getfield 78, 3) := by decide +kernel
theorem dX12_laysKnown_67 : decode cX12_laysKnown 67 = .ok (.bipush 20, 2) := by decide +kernel
theorem dX12_laysKnown_69 : decode cX12_laysKnown 69 = .ok (.iload_n 1, 1) := by decide +kernel
theorem dX12_laysKnown_70 : decode cX12_laysKnown 70 = .ok (.imul, 1) := by decide +kernel
theorem dX12_laysKnown_71 : decode cX12_laysKnown 71 = .ok (.iload_n 2, 1) := by decide +kernel
theorem dX12_laysKnown_72 : decode cX12_laysKnown 72 = .ok (.iadd, 1) := by decide +kernel
theorem dX12_laysKnown_73 : decode cX12_laysKnown 73 = .ok (.iaload, 1) := by decide +kernel
theorem dX12_laysKnown_74 : decode cX12_laysKnown 74 = .ok (.if_icmp .ne 26, 3) := by decide +kernel
theorem dX12_laysKnown_77 : decode cX12_laysKnown 77 = .ok (.aload_n 0, 1) := by decide +kernel
theorem dX12_laysKnown_78 : decode cX12_laysKnown 78 = .ok (.getfield 84, 3) := by decide +kernel
theorem dX12_laysKnown_81 : decode cX12_laysKnown 81 = .ok (.bipush 20, 2) := by decide +kernel
theorem dX12_laysKnown_83 : decode cX12_laysKnown 83 = .ok (.iload_n 1, 1) := by decide +kernel
theorem dX12_laysKnown_84 : decode cX12_laysKnown 84 = .ok (.imul, 1) := by decide +kernel
theorem dX12_laysKnown_85 : decode cX12_laysKnown 85 = .ok (.iload_n 2, 1) := by decide +kernel
theorem dX12_laysKnown_86 : decode cX12_laysKnown 86 = .ok (.iadd, 1) := by decide +kernel
theorem dX12_laysKnown_87 : decode cX12_laysKnown 87 = .ok (.aload_n 0, 1) := by decide +kernel
theorem dX12_laysKnown_88 : decode cX12_laysKnown 88 = .ok (.getfield 35, 3) := by decide +kernel
theorem dX12_laysKnown_91 : decode cX12_laysKnown 91 = .ok (.iconst 4, 1) := by decide +kernel
theorem dX12_laysKnown_92 : decode cX12_laysKnown 92 = .ok (.iload_n 3, 1) := by decide +kernel
theorem dX12_laysKnown_93 : decode cX12_laysKnown 93 = .ok (.iadd, 1) := by decide +kernel
theorem dX12_laysKnown_94 : decode cX12_laysKnown 94 = .ok (.iaload, 1) := by decide +kernel
theorem dX12_laysKnown_95 : decode cX12_laysKnown 95 = .ok (.iload_n 1, 1) := by decide +kernel
theorem dX12_laysKnown_96 : decode cX12_laysKnown 96 = .ok (.invokestatic 365, 3) := by decide +kernel
theorem dX12_laysKnown_99 : decode cX12_laysKnown 99 = .ok (.iastore, 1) := by decide +kernel
theorem dX12_laysKnown_100 : decode cX12_laysKnown 100 = .ok (.iinc 3 (-1), 3) := by decide +kernel
theorem dX12_laysKnown_103 : decode cX12_laysKnown 103 = .ok (.goto (-67), 3) := by decide +kernel
theorem dX12_laysKnown_106 : decode cX12_laysKnown 106 = .ok (.iinc 2 1, 3) := by decide +kernel
theorem dX12_laysKnown_109 : decode cX12_laysKnown 109 = .ok (.goto (-100), 3) := by decide +kernel
theorem dX12_laysKnown_112 : decode cX12_laysKnown 112 = .ok (.iinc 1 1, 3) := by decide +kernel
theorem dX12_laysKnown_115 : decode cX12_laysKnown 115 = .ok (.goto (-113), 3) := by decide +kernel
theorem dX12_laysKnown_118 : decode cX12_laysKnown 118 = .ok (.return_, 1) := by decide +kernel
noncomputable def f_X12_laysKnown_L36 (x1 : Int32) (x2 : Int32) (s : (ZMem × Int32)) : Option ((ZMem × Int32) ⊕ (ZMem)) := if s.2 < (zI 0) then some (.inr s.1) else zchk (zin ((zI 4) + s.2) 460) (if (s.1.1 9 (zix ((zI 4) + s.2))) = (zI (-1)) then zbnd (s.2 + (zI (-1))) (fun x3_100 => some (.inl (s.1, x3_100))) else zchk (zin (((zI 20) * x1) + s.2) 40) (zchk (zin (((zI 20) * x1) + x2) 40) (if (s.1.1 23 (zix (((zI 20) * x1) + s.2))) = (s.1.1 23 (zix (((zI 20) * x1) + x2))) then zchk (zin ((zI 4) + s.2) 460) (zbind (f_X12_partOf s.1 (s.1.1 9 (zix ((zI 4) + s.2))) x1) (fun r_96 => zchk (zin (((zI 20) * x1) + x2) 40) (zbnd (zstI s.1 25 (zix (((zI 20) * x1) + x2)) r_96) (fun M_99 => zbnd (s.2 + (zI (-1))) (fun x3_100 => some (.inl (M_99, x3_100))))))) else zbnd (s.2 + (zI (-1))) (fun x3_100 => some (.inl (s.1, x3_100))))))
set_option maxRecDepth 100000 in
set_option maxHeartbeats 4000000 in
theorem w_X12_laysKnown_L36 {E : ZEv} {G : ZG} {K : ZMem → Prop} (h : zRu lyR E G (zRv K) cX12_laysKnown RX12 4 none 1) (x1 : Int32) (x2 : Int32) (s : (ZMem × Int32)) (hk : zOk (zloop (f_X12_laysKnown_L36 x1 x2) s) (fun e => G e 106 [(0, zrf E 0), (1, .int x1), (2, .int x2)] [])) : G s.1 36 [(0, zrf E 0), (1, .int x1), (2, .int x2), (3, .int s.2)] [] := by
  refine zloop_walk (P := fun s => G s.1 36 [(0, zrf E 0), (1, .int x1), (2, .int x2), (3, .int s.2)] []) hk (fun s hk => ?_)
  unfold f_X12_laysKnown_L36 at hk
  refine zr_iload_n h dX12_laysKnown_36 3 rfl rfl ?_
  refine zr_if_lt (tgt := 106) h dX12_laysKnown_37 (by decide) (fun c => ?_) (fun c => ?_)
  · have hk := zOk_t c hk
    have hk := zOk_some hk
    exact zr_weak h [0, 1, 2] rfl hk
  · have hk := zOk_f c hk
    refine zr_aload_n h dX12_laysKnown_40 0 rfl rfl ?_
    refine zr_getR h zfo_X12_35 lR_0 rfl dX12_laysKnown_41 ?_
    refine zr_iconst (v := (zI 4)) h dX12_laysKnown_44 rfl ?_
    refine zr_iload_n h dX12_laysKnown_45 3 rfl rfl ?_
    refine zr_iadd h dX12_laysKnown_46 ?_
    have hb := zOk_chk hk
    have hk := hb.2
    refine zr_iald h lR_9 hb.1 dX12_laysKnown_47 ?_
    refine zr_iconst (v := (zI (-1))) h dX12_laysKnown_48 rfl ?_
    refine zr_icmp_eq (tgt := 100) h dX12_laysKnown_49 (by decide) (fun c => ?_) (fun c => ?_)
    · have hk := zOk_t c hk
      obtain ⟨x3_100, ex⟩ : ∃ y : Int32, y = s.2 + (zI (-1)) := ⟨_, rfl⟩
      have hk := zOk_bnd ex hk
      refine zr_iinc (v := x3_100) (L' := [(0, zrf E 0), (1, .int x1), (2, .int x2), (3, .int x3_100)]) h 3 [1, 2, 3, 0] dX12_laysKnown_100 rfl (by rw [ex]; rfl) (by decide) rfl ?_
      refine zr_goto (tgt := 36) h dX12_laysKnown_103 (by decide) ?_
      have hk := zOk_some hk
      exact zr_weak h [0, 1, 2, 3] rfl hk
    · have hk := zOk_f c hk
      refine zr_aload_n h dX12_laysKnown_52 0 rfl rfl ?_
      refine zr_getR h zfo_X12_78 lR_0 rfl dX12_laysKnown_53 ?_
      refine zr_bipush (v := (zI 20)) h dX12_laysKnown_56 (by decide) ?_
      refine zr_iload_n h dX12_laysKnown_58 1 rfl rfl ?_
      refine zr_imul h dX12_laysKnown_59 ?_
      refine zr_iload_n h dX12_laysKnown_60 3 rfl rfl ?_
      refine zr_iadd h dX12_laysKnown_61 ?_
      have hb := zOk_chk hk
      have hk := hb.2
      refine zr_iald h lR_23 hb.1 dX12_laysKnown_62 ?_
      refine zr_aload_n h dX12_laysKnown_63 0 rfl rfl ?_
      refine zr_getR h zfo_X12_78 lR_0 rfl dX12_laysKnown_64 ?_
      refine zr_bipush (v := (zI 20)) h dX12_laysKnown_67 (by decide) ?_
      refine zr_iload_n h dX12_laysKnown_69 1 rfl rfl ?_
      refine zr_imul h dX12_laysKnown_70 ?_
      refine zr_iload_n h dX12_laysKnown_71 2 rfl rfl ?_
      refine zr_iadd h dX12_laysKnown_72 ?_
      have hb := zOk_chk hk
      have hk := hb.2
      refine zr_iald h lR_23 hb.1 dX12_laysKnown_73 ?_
      refine zr_icmp_ne (tgt := 100) h dX12_laysKnown_74 (by decide) (fun c => ?_) (fun c => ?_)
      · have hk := zOk_t c hk
        refine zr_aload_n h dX12_laysKnown_77 0 rfl rfl ?_
        refine zr_getR h zfo_X12_84 lR_0 rfl dX12_laysKnown_78 ?_
        refine zr_bipush (v := (zI 20)) h dX12_laysKnown_81 (by decide) ?_
        refine zr_iload_n h dX12_laysKnown_83 1 rfl rfl ?_
        refine zr_imul h dX12_laysKnown_84 ?_
        refine zr_iload_n h dX12_laysKnown_85 2 rfl rfl ?_
        refine zr_iadd h dX12_laysKnown_86 ?_
        refine zr_aload_n h dX12_laysKnown_87 0 rfl rfl ?_
        refine zr_getR h zfo_X12_35 lR_0 rfl dX12_laysKnown_88 ?_
        refine zr_iconst (v := (zI 4)) h dX12_laysKnown_91 rfl ?_
        refine zr_iload_n h dX12_laysKnown_92 3 rfl rfl ?_
        refine zr_iadd h dX12_laysKnown_93 ?_
        have hb := zOk_chk hk
        have hk := hb.2
        refine zr_iald h lR_9 hb.1 dX12_laysKnown_94 ?_
        refine zr_iload_n h dX12_laysKnown_95 1 rfl rfl ?_
        refine zr_callSp h zcw_X12_365 (by decide) (c_X12_partOf E s.1 (s.1.1 9 (zix ((zI 4) + s.2))) x1 _ (zOk_bind hk)) rfl rfl (Nat.le_of_ble_eq_true rfl) dX12_laysKnown_96 (fun r_96 hk => ?_)
        have hb := zOk_chk hk
        have hk := hb.2
        refine zr_iast h lR_25 hb.1 dX12_laysKnown_99 ?_
        refine zr_mem (fun M_99 eM => ?_)
        have hk := zOk_bnd eM hk
        obtain ⟨x3_100, ex⟩ : ∃ y : Int32, y = s.2 + (zI (-1)) := ⟨_, rfl⟩
        have hk := zOk_bnd ex hk
        refine zr_iinc (v := x3_100) (L' := [(0, zrf E 0), (1, .int x1), (2, .int x2), (3, .int x3_100)]) h 3 [1, 2, 3, 0] dX12_laysKnown_100 rfl (by rw [ex]; rfl) (by decide) rfl ?_
        refine zr_goto (tgt := 36) h dX12_laysKnown_103 (by decide) ?_
        have hk := zOk_some hk
        exact zr_weak h [0, 1, 2, 3] rfl hk
      · have hk := zOk_f c hk
        obtain ⟨x3_100, ex⟩ : ∃ y : Int32, y = s.2 + (zI (-1)) := ⟨_, rfl⟩
        have hk := zOk_bnd ex hk
        refine zr_iinc (v := x3_100) (L' := [(0, zrf E 0), (1, .int x1), (2, .int x2), (3, .int x3_100)]) h 3 [1, 2, 3, 0] dX12_laysKnown_100 rfl (by rw [ex]; rfl) (by decide) rfl ?_
        refine zr_goto (tgt := 36) h dX12_laysKnown_103 (by decide) ?_
        have hk := zOk_some hk
        exact zr_weak h [0, 1, 2, 3] rfl hk
noncomputable def f_X12_laysKnown_L9 (x1 : Int32) (s : (ZMem × Int32)) : Option ((ZMem × Int32) ⊕ (ZMem)) := if (s.1.1 0 4) ≤ s.2 then some (.inr s.1) else zchk (zin (((zI 20) * x1) + s.2) 40) (zbnd (zstI s.1 25 (zix (((zI 20) * x1) + s.2)) (zI (-1))) (fun M_28 => zbnd ((M_28.1 0 4) - (zI 1)) (fun x3_35 => zbind (zloop (f_X12_laysKnown_L36 x1 s.2) (M_28, x3_35)) (fun e36 => zbnd (s.2 + (zI 1)) (fun x2_106 => some (.inl (e36, x2_106)))))))
set_option maxRecDepth 100000 in
set_option maxHeartbeats 4000000 in
theorem w_X12_laysKnown_L9 {E : ZEv} {G : ZG} {K : ZMem → Prop} (h : zRu lyR E G (zRv K) cX12_laysKnown RX12 4 none 1) (x1 : Int32) (s : (ZMem × Int32)) (hk : zOk (zloop (f_X12_laysKnown_L9 x1) s) (fun e => G e 112 [(0, zrf E 0), (1, .int x1)] [])) : G s.1 9 [(0, zrf E 0), (1, .int x1), (2, .int s.2)] [] := by
  refine zloop_walk (P := fun s => G s.1 9 [(0, zrf E 0), (1, .int x1), (2, .int s.2)] []) hk (fun s hk => ?_)
  unfold f_X12_laysKnown_L9 at hk
  refine zr_iload_n h dX12_laysKnown_9 2 rfl rfl ?_
  refine zr_aload_n h dX12_laysKnown_10 0 rfl rfl ?_
  refine zr_getI h zfo_X12_162 lR_0 rfl dX12_laysKnown_11 ?_
  refine zr_icmp_ge (tgt := 112) h dX12_laysKnown_14 (by decide) (fun c => ?_) (fun c => ?_)
  · have hk := zOk_t c hk
    have hk := zOk_some hk
    exact zr_weak h [0, 1] rfl hk
  · have hk := zOk_f c hk
    refine zr_aload_n h dX12_laysKnown_17 0 rfl rfl ?_
    refine zr_getR h zfo_X12_84 lR_0 rfl dX12_laysKnown_18 ?_
    refine zr_bipush (v := (zI 20)) h dX12_laysKnown_21 (by decide) ?_
    refine zr_iload_n h dX12_laysKnown_23 1 rfl rfl ?_
    refine zr_imul h dX12_laysKnown_24 ?_
    refine zr_iload_n h dX12_laysKnown_25 2 rfl rfl ?_
    refine zr_iadd h dX12_laysKnown_26 ?_
    refine zr_iconst (v := (zI (-1))) h dX12_laysKnown_27 rfl ?_
    have hb := zOk_chk hk
    have hk := hb.2
    refine zr_iast h lR_25 hb.1 dX12_laysKnown_28 ?_
    refine zr_mem (fun M_28 eM => ?_)
    have hk := zOk_bnd eM hk
    refine zr_aload_n h dX12_laysKnown_29 0 rfl rfl ?_
    refine zr_getI h zfo_X12_162 lR_0 rfl dX12_laysKnown_30 ?_
    refine zr_iconst (v := (zI 1)) h dX12_laysKnown_33 rfl ?_
    refine zr_isub h dX12_laysKnown_34 ?_
    refine zr_topi (fun x3_35 ex => ?_)
    have hk := zOk_bnd ex hk
    refine zr_istore_n (L' := [(0, zrf E 0), (1, .int x1), (2, .int s.2), (3, .int x3_35)]) h [1, 2, 3, 0] dX12_laysKnown_35 rfl (by decide) rfl ?_
    refine w_X12_laysKnown_L36 h x1 s.2 (M_28, x3_35) (zOk_mono (zOk_bind hk) (fun e36 hk => ?_))
    obtain ⟨x2_106, ex⟩ : ∃ y : Int32, y = s.2 + (zI 1) := ⟨_, rfl⟩
    have hk := zOk_bnd ex hk
    refine zr_iinc (v := x2_106) (L' := [(0, zrf E 0), (1, .int x1), (2, .int x2_106)]) h 2 [1, 2, 0] dX12_laysKnown_106 rfl (by rw [ex]; rfl) (by decide) rfl ?_
    refine zr_goto (tgt := 9) h dX12_laysKnown_109 (by decide) ?_
    have hk := zOk_some hk
    exact zr_weak h [0, 1, 2] rfl hk
noncomputable def f_X12_laysKnown_L2 (s : (ZMem × Int32)) : Option ((ZMem × Int32) ⊕ (ZMem)) := if (zI 2) ≤ s.2 then some (.inr s.1) else zbind (zloop (f_X12_laysKnown_L9 s.2) (s.1, (zI 0))) (fun e9 => zbnd (s.2 + (zI 1)) (fun x1_112 => some (.inl (e9, x1_112))))
set_option maxRecDepth 100000 in
set_option maxHeartbeats 4000000 in
theorem w_X12_laysKnown_L2 {E : ZEv} {G : ZG} {K : ZMem → Prop} (h : zRu lyR E G (zRv K) cX12_laysKnown RX12 4 none 1) (s : (ZMem × Int32)) (hk : zOk (zloop (f_X12_laysKnown_L2) s) (fun e => G e 118 [] [])) : G s.1 2 [(0, zrf E 0), (1, .int s.2)] [] := by
  refine zloop_walk (P := fun s => G s.1 2 [(0, zrf E 0), (1, .int s.2)] []) hk (fun s hk => ?_)
  unfold f_X12_laysKnown_L2 at hk
  refine zr_iload_n h dX12_laysKnown_2 1 rfl rfl ?_
  refine zr_iconst (v := (zI 2)) h dX12_laysKnown_3 rfl ?_
  refine zr_icmp_ge (tgt := 118) h dX12_laysKnown_4 (by decide) (fun c => ?_) (fun c => ?_)
  · have hk := zOk_t c hk
    have hk := zOk_some hk
    exact zr_weak h [] rfl hk
  · have hk := zOk_f c hk
    refine zr_iconst (v := (zI 0)) h dX12_laysKnown_7 rfl ?_
    refine zr_istore_n (L' := [(0, zrf E 0), (1, .int s.2), (2, .int (zI 0))]) h [1, 2, 0] dX12_laysKnown_8 rfl (by decide) rfl ?_
    refine w_X12_laysKnown_L9 h s.2 (s.1, (zI 0)) (zOk_mono (zOk_bind hk) (fun e9 hk => ?_))
    obtain ⟨x1_112, ex⟩ : ∃ y : Int32, y = s.2 + (zI 1) := ⟨_, rfl⟩
    have hk := zOk_bnd ex hk
    refine zr_iinc (v := x1_112) (L' := [(0, zrf E 0), (1, .int x1_112)]) h 1 [1, 0] dX12_laysKnown_112 rfl (by rw [ex]; rfl) (by decide) rfl ?_
    refine zr_goto (tgt := 2) h dX12_laysKnown_115 (by decide) ?_
    have hk := zOk_some hk
    exact zr_weak h [0, 1] rfl hk
noncomputable def f_X12_laysKnown (M : ZMem) : Option ZMem := zbind (zloop (f_X12_laysKnown_L2) (M, (zI 0))) (fun e2 => some e2)
set_option maxRecDepth 100000 in
set_option maxHeartbeats 4000000 in
theorem c_X12_laysKnown (E : ZEv) (M : ZMem) (K : ZMem → Prop) (hk : zOk (f_X12_laysKnown M) K) : zCon lyR E yX12_laysKnown cX12_laysKnown 4 none 1 [zrf E 0] M (zRv K) := by
  refine zcon_of (L0 := [(0, zrf E 0)]) (by decide) rfl (Nat.le_of_ble_eq_true rfl) (fun G h => ?_)
  have h : zRu lyR E G (zRv K) cX12_laysKnown RX12 4 none 1 := h
  unfold f_X12_laysKnown at hk
  refine zr_iconst (v := (zI 0)) h dX12_laysKnown_0 rfl ?_
  refine zr_istore_n (L' := [(0, zrf E 0), (1, .int (zI 0))]) h [1, 0] dX12_laysKnown_1 rfl (by decide) rfl ?_
  refine w_X12_laysKnown_L2 h (M, (zI 0)) (zOk_mono (zOk_bind hk) (fun e2 hk => ?_))
  have hk := zOk_some hk
  exact zr_vret h dX12_laysKnown_118 ⟨rfl, hk⟩
theorem dX12_lays_0 : decode cX12_lays 0 = .ok (.aload_n 0, 1) := by decide +kernel
theorem dX12_lays_1 : decode cX12_lays 1 = .ok (.getfield 184, 3) := by decide +kernel
theorem dX12_lays_4 : decode cX12_lays 4 = .ok (.ifCond .eq 4, 3) := by decide +kernel
theorem dX12_lays_7 : decode cX12_lays 7 = .ok (.return_, 1) := by decide +kernel
theorem dX12_lays_8 : decode cX12_lays 8 = .ok (.aload_n 0, 1) := by decide +kernel
theorem dX12_lays_9 : decode cX12_lays 9 = .ok (.invokevirtual 420, 3) := by decide +kernel
theorem dX12_lays_12 : decode cX12_lays 12 = .ok (.aload_n 0, 1) := by decide +kernel
theorem dX12_lays_13 : decode cX12_lays 13 = .ok (.invokevirtual 423, 3) := by decide +kernel
theorem dX12_lays_16 : decode cX12_lays 16 = .ok (.aload_n 0, 1) := by decide +kernel
theorem dX12_lays_17 : decode cX12_lays 17 = .ok (.invokevirtual 426, 3) := by decide +kernel
theorem dX12_lays_20 : decode cX12_lays 20 = .ok (.aload_n 0, 1) := by decide +kernel
theorem dX12_lays_21 : decode cX12_lays 21 = .ok (.invokevirtual 429, 3) := by decide +kernel
theorem dX12_lays_24 : decode cX12_lays 24 = .ok (.aload_n 0, 1) := by decide +kernel
theorem dX12_lays_25 : decode cX12_lays 25 = .ok (.invokevirtual 417, 3) := by decide +kernel
theorem dX12_lays_28 : decode cX12_lays 28 = .ok (.aload_n 0, 1) := by decide +kernel
theorem dX12_lays_29 : decode cX12_lays 29 = .ok (.iconst 1, 1) := by decide +kernel
theorem dX12_lays_30 : decode cX12_lays 30 = .ok (.putfield 184, 3) := by decide +kernel
theorem dX12_lays_33 : decode cX12_lays 33 = .ok (.return_, 1) := by decide +kernel
noncomputable def f_X12_lays (M : ZMem) : Option ZMem := if (M.1 0 45) = (zI 0) then zbind (f_X12_laysSigns M) (fun M_9 => zbind (f_X12_laysRows M_9) (fun M_13 => zbind (f_X12_laysWords M_13) (fun M_17 => zbind (f_X12_laysGrid M_17) (fun M_21 => zbind (f_X12_laysKnown M_21) (fun M_25 => zbnd (zstI M_25 0 45 (zI 1)) (fun M_30 => some M_30)))))) else some M
set_option maxRecDepth 100000 in
set_option maxHeartbeats 4000000 in
theorem c_X12_lays (E : ZEv) (M : ZMem) (K : ZMem → Prop) (hk : zOk (f_X12_lays M) K) : zCon lyR E yX12_lays cX12_lays 1 none 5 [zrf E 0] M (zRv K) := by
  refine zcon_of (L0 := [(0, zrf E 0)]) (by decide) rfl (Nat.le_of_ble_eq_true rfl) (fun G h => ?_)
  have h : zRu lyR E G (zRv K) cX12_lays RX12 1 none 5 := h
  unfold f_X12_lays at hk
  refine zr_aload_n h dX12_lays_0 0 rfl rfl ?_
  refine zr_getI h zfo_X12_184 lR_0 rfl dX12_lays_1 ?_
  refine zr_if_eq (tgt := 8) h dX12_lays_4 (by decide) (fun c => ?_) (fun c => ?_)
  · have hk := zOk_t c hk
    refine zr_aload_n h dX12_lays_8 0 rfl rfl ?_
    refine zr_callVv h lR_0 zcw_X12_420 (by decide) (c_X12_laysSigns E M _ (zOk_bind hk)) rfl rfl (Nat.le_of_ble_eq_true rfl) dX12_lays_9 (fun M_9 hk => ?_)
    refine zr_aload_n h dX12_lays_12 0 rfl rfl ?_
    refine zr_callVv h lR_0 zcw_X12_423 (by decide) (c_X12_laysRows E M_9 _ (zOk_bind hk)) rfl rfl (Nat.le_of_ble_eq_true rfl) dX12_lays_13 (fun M_13 hk => ?_)
    refine zr_aload_n h dX12_lays_16 0 rfl rfl ?_
    refine zr_callVv h lR_0 zcw_X12_426 (by decide) (c_X12_laysWords E M_13 _ (zOk_bind hk)) rfl rfl (Nat.le_of_ble_eq_true rfl) dX12_lays_17 (fun M_17 hk => ?_)
    refine zr_aload_n h dX12_lays_20 0 rfl rfl ?_
    refine zr_callVv h lR_0 zcw_X12_429 (by decide) (c_X12_laysGrid E M_17 _ (zOk_bind hk)) rfl rfl (Nat.le_of_ble_eq_true rfl) dX12_lays_21 (fun M_21 hk => ?_)
    refine zr_aload_n h dX12_lays_24 0 rfl rfl ?_
    refine zr_callVv h lR_0 zcw_X12_417 (by decide) (c_X12_laysKnown E M_21 _ (zOk_bind hk)) rfl rfl (Nat.le_of_ble_eq_true rfl) dX12_lays_25 (fun M_25 hk => ?_)
    refine zr_aload_n h dX12_lays_28 0 rfl rfl ?_
    refine zr_iconst (v := (zI 1)) h dX12_lays_29 rfl ?_
    refine zr_putZ h zfp_X12_184 lR_0 rfl (by decide) dX12_lays_30 ?_
    refine zr_mem (fun M_30 eM => ?_)
    have hk := zOk_bnd eM hk
    have hk := zOk_some hk
    exact zr_vret h dX12_lays_33 ⟨rfl, hk⟩
  · have hk := zOk_f c hk
    have hk := zOk_some hk
    exact zr_vret h dX12_lays_7 ⟨rfl, hk⟩
theorem dX12_clue_0 : decode cX12_clue 0 = .ok (.aload_n 0, 1) := by decide +kernel
theorem dX12_clue_1 : decode cX12_clue 1 = .ok (.iload_n 1, 1) := by decide +kernel
theorem dX12_clue_2 : decode cX12_clue 2 = .ok (.invokevirtual 224, 3) := by decide +kernel
theorem dX12_clue_5 : decode cX12_clue 5 = .ok (.ifCond .eq 11, 3) := by decide +kernel
theorem dX12_clue_8 : decode cX12_clue 8 = .ok (.aload_n 0, 1) := by decide +kernel
theorem dX12_clue_9 : decode cX12_clue 9 = .ok (.iload_n 2, 1) := by decide +kernel
theorem dX12_clue_10 : decode cX12_clue 10 = .ok (.invokevirtual 224, 3) := by decide +kernel
theorem dX12_clue_13 : decode cX12_clue 13 = .ok (.ifCond .ne 5, 3) := by decide +kernel
theorem dX12_clue_16 : decode cX12_clue 16 = .ok (.iconst (-1), 1) := by decide +kernel
theorem dX12_clue_17 : decode cX12_clue 17 = .ok (.ireturn, 1) := by decide +kernel
theorem dX12_clue_18 : decode cX12_clue 18 = .ok (.aload_n 0, 1) := by decide +kernel
theorem dX12_clue_19 : decode cX12_clue 19 = .ok (.invokevirtual 235, 3) := by decide +kernel
theorem dX12_clue_22 : decode cX12_clue 22 = .ok (.aload_n 0, 1) := by decide +kernel
theorem dX12_clue_23 : decode cX12_clue 23 = .ok (.getfield 41, 3) := by decide +kernel
theorem dX12_clue_26 : decode cX12_clue 26 = .ok (.iload_n 1, 1) := by decide +kernel
theorem dX12_clue_27 : decode cX12_clue 27 = .ok (.iaload, 1) := by decide +kernel
theorem dX12_clue_28 : decode cX12_clue 28 = .ok (.aload_n 0, 1) := by decide +kernel
theorem dX12_clue_29 : decode cX12_clue 29 = .ok (.getfield 41, 3) := by decide +kernel
theorem dX12_clue_32 : decode cX12_clue 32 = .ok (.iload_n 2, 1) := by decide +kernel
theorem dX12_clue_33 : decode cX12_clue 33 = .ok (.iaload, 1) := by decide +kernel
theorem dX12_clue_34 : decode cX12_clue 34 = .ok (.if_icmp .eq 24, 3) := by decide +kernel
theorem dX12_clue_37 : decode cX12_clue 37 = .ok (.aload_n 0, 1) := by decide +kernel
theorem dX12_clue_38 : decode cX12_clue 38 = .ok (.iload_n 1, 1) := by decide +kernel
theorem dX12_clue_39 : decode cX12_clue 39 = .ok (.iload_n 2, 1) := by decide +kernel
theorem dX12_clue_40 : decode cX12_clue 40 = .ok (.iload_n 3, 1) := by decide +kernel
theorem dX12_clue_41 : decode cX12_clue 41 = .ok (.invokevirtual 238, 3) := by decide +kernel
theorem dX12_clue_44 : decode cX12_clue 44 = .ok (.ifCond .ne 14, 3) := by decide +kernel
theorem dX12_clue_47 : decode cX12_clue 47 = .ok (.aload_n 0, 1) := by decide +kernel
theorem dX12_clue_48 : decode cX12_clue 48 = .ok (.getfield 35, 3) := by decide +kernel
theorem dX12_clue_51 : decode cX12_clue 51 = .ok (.iconst 3, 1) := by decide +kernel
theorem dX12_clue_52 : decode cX12_clue 52 = .ok (.iaload, 1) := by decide +kernel
theorem dX12_clue_53 : decode cX12_clue 53 = .ok (.bipush 12, 2) := by decide +kernel
theorem dX12_clue_55 : decode cX12_clue 55 = .ok (.if_icmp .ne 5, 3) := by decide +kernel
theorem dX12_clue_58 : decode cX12_clue 58 = .ok (.iconst (-1), 1) := by decide +kernel
theorem dX12_clue_59 : decode cX12_clue 59 = .ok (.ireturn, 1) := by decide +kernel
theorem dX12_clue_60 : decode cX12_clue 60 = .ok (.aload_n 0, 1) := by decide +kernel
theorem dX12_clue_61 : decode cX12_clue 61 = .ok (.invokevirtual 214, 3) := by decide +kernel
theorem dX12_clue_64 : decode cX12_clue 64 = .ok (.sipush 424, 3) := by decide +kernel
theorem dX12_clue_67 : decode cX12_clue 67 = .ok (.iconst 3, 1) := by decide +kernel
theorem dX12_clue_68 : decode cX12_clue 68 = .ok (.aload_n 0, 1) := by decide +kernel
theorem dX12_clue_69 : decode cX12_clue 69 = .ok (.getfield 35, 3) := by decide +kernel
theorem dX12_clue_72 : decode cX12_clue 72 = .ok (.iconst 3, 1) := by decide +kernel
theorem dX12_clue_73 : decode cX12_clue 73 = .ok (.iaload, 1) := by decide +kernel
theorem dX12_clue_74 : decode cX12_clue 74 = .ok (.imul, 1) := by decide +kernel
theorem dX12_clue_75 : decode cX12_clue 75 = .ok (.iadd, 1) := by decide +kernel
theorem dX12_clue_76 : decode cX12_clue 76 = .ok (.istore 4, 2) := by decide +kernel
theorem dX12_clue_78 : decode cX12_clue 78 = .ok (.aload_n 0, 1) := by decide +kernel
theorem dX12_clue_79 : decode cX12_clue 79 = .ok (.getfield 35, 3) := by decide +kernel
theorem dX12_clue_82 : decode cX12_clue 82 = .ok (.iload 4, 2) := by decide +kernel
theorem dX12_clue_84 : decode cX12_clue 84 = .ok (.iload_n 1, 1) := by decide +kernel
theorem dX12_clue_85 : decode cX12_clue 85 = .ok (.iastore, 1) := by decide +kernel
theorem dX12_clue_86 : decode cX12_clue 86 = .ok (.aload_n 0, 1) := by decide +kernel
theorem dX12_clue_87 : decode cX12_clue 87 = .ok (.getfield 35, 3) := by decide +kernel
theorem dX12_clue_90 : decode cX12_clue 90 = .ok (.iload 4, 2) := by decide +kernel
theorem dX12_clue_92 : decode cX12_clue 92 = .ok (.iconst 1, 1) := by decide +kernel
theorem dX12_clue_93 : decode cX12_clue 93 = .ok (.iadd, 1) := by decide +kernel
theorem dX12_clue_94 : decode cX12_clue 94 = .ok (.iload_n 2, 1) := by decide +kernel
theorem dX12_clue_95 : decode cX12_clue 95 = .ok (.iastore, 1) := by decide +kernel
theorem dX12_clue_96 : decode cX12_clue 96 = .ok (.aload_n 0, 1) := by decide +kernel
theorem dX12_clue_97 : decode cX12_clue 97 = .ok (.getfield 35, 3) := by decide +kernel
theorem dX12_clue_100 : decode cX12_clue 100 = .ok (.iload 4, 2) := by decide +kernel
theorem dX12_clue_102 : decode cX12_clue 102 = .ok (.iconst 2, 1) := by decide +kernel
theorem dX12_clue_103 : decode cX12_clue 103 = .ok (.iadd, 1) := by decide +kernel
theorem dX12_clue_104 : decode cX12_clue 104 = .ok (.iload_n 3, 1) := by decide +kernel
theorem dX12_clue_105 : decode cX12_clue 105 = .ok (.invokestatic 177, 3) := by decide +kernel
theorem dX12_clue_108 : decode cX12_clue 108 = .ok (.iastore, 1) := by decide +kernel
theorem dX12_clue_109 : decode cX12_clue 109 = .ok (.aload_n 0, 1) := by decide +kernel
theorem dX12_clue_110 : decode cX12_clue 110 = .ok (.getfield 35, 3) := by decide +kernel
theorem dX12_clue_113 : decode cX12_clue 113 = .ok (.iconst 3, 1) := by decide +kernel
theorem dX12_clue_114 : decode cX12_clue 114 = .ok (.dup2, 1) := by decide +kernel
theorem dX12_clue_115 : decode cX12_clue 115 = .ok (.iaload, 1) := by decide +kernel
theorem dX12_clue_116 : decode cX12_clue 116 = .ok (.iconst 1, 1) := by decide +kernel
theorem dX12_clue_117 : decode cX12_clue 117 = .ok (.iadd, 1) := by decide +kernel
theorem dX12_clue_118 : decode cX12_clue 118 = .ok (.iastore, 1) := by decide +kernel
theorem dX12_clue_119 : decode cX12_clue 119 = .ok (.aload_n 0, 1) := by decide +kernel
theorem dX12_clue_120 : decode cX12_clue 120 = .ok (.getfield 35, 3) := by decide +kernel
theorem dX12_clue_123 : decode cX12_clue 123 = .ok (.iconst 3, 1) := by decide +kernel
theorem dX12_clue_124 : decode cX12_clue 124 = .ok (.iaload, 1) := by decide +kernel
theorem dX12_clue_125 : decode cX12_clue 125 = .ok (.ireturn, 1) := by decide +kernel
noncomputable def f_X12_clue (M : ZMem) (x1 : Int32) (x2 : Int32) (x3 : Int32) : Option (ZMem × Int32) := zbind (f_X12_isForm M x1) (fun r_2 => if r_2 = (zI 0) then some (M, (zI (-1))) else zbind (f_X12_isForm M x2) (fun r_10 => if r_10 = (zI 0) then some (M, (zI (-1))) else zbind (f_X12_lays M) (fun M_19 => zchk (zin x1 20) (zchk (zin x2 20) (if (M_19.1 11 (zix x1)) = (M_19.1 11 (zix x2)) then some (M_19, (zI (-1))) else zbind (f_X12_isClueTold M_19 x1 x2 x3) (fun r_41 => if r_41 = (zI 0) then if (M_19.1 9 (zix (zI 3))) = (zI 12) then some (M_19, (zI (-1))) else zbind (f_X12_remembers M_19) (fun M_61 => zbnd ((zI 424) + ((zI 3) * (M_61.1 9 (zix (zI 3))))) (fun x4_76 => zchk (zin x4_76 460) (zbnd (zstI M_61 9 (zix x4_76) x1) (fun M_85 => zchk (zin (x4_76 + (zI 1)) 460) (zbnd (zstI M_85 9 (zix (x4_76 + (zI 1))) x2) (fun M_95 => zbind (f_X12_truth M_95 x3) (fun r_105 => zchk (zin (x4_76 + (zI 2)) 460) (zbnd (zstI M_95 9 (zix (x4_76 + (zI 2))) r_105) (fun M_108 => zbnd (zstI M_108 9 (zix (zI 3)) ((M_108.1 9 (zix (zI 3))) + (zI 1))) (fun M_118 => some (M_118, (M_118.1 9 (zix (zI 3)))))))))))))) else some (M_19, (zI (-1)))))))))
set_option maxRecDepth 100000 in
set_option maxHeartbeats 4000000 in
theorem c_X12_clue (E : ZEv) (M : ZMem) (x1 : Int32) (x2 : Int32) (x3 : Int32) (K : ZMem × Int32 → Prop) (hk : zOk (f_X12_clue M x1 x2 x3) K) : zCon lyR E yX12_clue cX12_clue 5 (some .int) 6 [zrf E 0, .int x1, .int x2, .int x3] M (zRm K) := by
  refine zcon_of (L0 := [(0, zrf E 0), (1, .int x1), (2, .int x2), (3, .int x3)]) (by decide) rfl (Nat.le_of_ble_eq_true rfl) (fun G h => ?_)
  have h : zRu lyR E G (zRm K) cX12_clue RX12 5 (some .int) 6 := h
  unfold f_X12_clue at hk
  refine zr_aload_n h dX12_clue_0 0 rfl rfl ?_
  refine zr_iload_n h dX12_clue_1 1 rfl rfl ?_
  refine zr_callVp h lR_0 zcw_X12_224 (by decide) (c_X12_isForm E M x1 _ (zOk_bind hk)) rfl rfl (Nat.le_of_ble_eq_true rfl) dX12_clue_2 (fun r_2 hk => ?_)
  refine zr_if_eq (tgt := 16) h dX12_clue_5 (by decide) (fun c => ?_) (fun c => ?_)
  · have hk := zOk_t c hk
    refine zr_iconst (v := (zI (-1))) h dX12_clue_16 rfl ?_
    have hk := zOk_some hk
    exact zr_iret h dX12_clue_17 ⟨_, rfl, hk⟩
  · have hk := zOk_f c hk
    refine zr_aload_n h dX12_clue_8 0 rfl rfl ?_
    refine zr_iload_n h dX12_clue_9 2 rfl rfl ?_
    refine zr_callVp h lR_0 zcw_X12_224 (by decide) (c_X12_isForm E M x2 _ (zOk_bind hk)) rfl rfl (Nat.le_of_ble_eq_true rfl) dX12_clue_10 (fun r_10 hk => ?_)
    refine zr_if_ne (tgt := 18) h dX12_clue_13 (by decide) (fun c => ?_) (fun c => ?_)
    · have hk := zOk_t c hk
      refine zr_iconst (v := (zI (-1))) h dX12_clue_16 rfl ?_
      have hk := zOk_some hk
      exact zr_iret h dX12_clue_17 ⟨_, rfl, hk⟩
    · have hk := zOk_f c hk
      refine zr_aload_n h dX12_clue_18 0 rfl rfl ?_
      refine zr_callVv h lR_0 zcw_X12_235 (by decide) (c_X12_lays E M _ (zOk_bind hk)) rfl rfl (Nat.le_of_ble_eq_true rfl) dX12_clue_19 (fun M_19 hk => ?_)
      refine zr_aload_n h dX12_clue_22 0 rfl rfl ?_
      refine zr_getR h zfo_X12_41 lR_0 rfl dX12_clue_23 ?_
      refine zr_iload_n h dX12_clue_26 1 rfl rfl ?_
      have hb := zOk_chk hk
      have hk := hb.2
      refine zr_iald h lR_11 hb.1 dX12_clue_27 ?_
      refine zr_aload_n h dX12_clue_28 0 rfl rfl ?_
      refine zr_getR h zfo_X12_41 lR_0 rfl dX12_clue_29 ?_
      refine zr_iload_n h dX12_clue_32 2 rfl rfl ?_
      have hb := zOk_chk hk
      have hk := hb.2
      refine zr_iald h lR_11 hb.1 dX12_clue_33 ?_
      refine zr_icmp_eq (tgt := 58) h dX12_clue_34 (by decide) (fun c => ?_) (fun c => ?_)
      · have hk := zOk_t c hk
        refine zr_iconst (v := (zI (-1))) h dX12_clue_58 rfl ?_
        have hk := zOk_some hk
        exact zr_iret h dX12_clue_59 ⟨_, rfl, hk⟩
      · have hk := zOk_f c hk
        refine zr_aload_n h dX12_clue_37 0 rfl rfl ?_
        refine zr_iload_n h dX12_clue_38 1 rfl rfl ?_
        refine zr_iload_n h dX12_clue_39 2 rfl rfl ?_
        refine zr_iload_n h dX12_clue_40 3 rfl rfl ?_
        refine zr_callVp h lR_0 zcw_X12_238 (by decide) (c_X12_isClueTold E M_19 x1 x2 x3 _ (zOk_bind hk)) rfl rfl (Nat.le_of_ble_eq_true rfl) dX12_clue_41 (fun r_41 hk => ?_)
        refine zr_if_ne (tgt := 58) h dX12_clue_44 (by decide) (fun c => ?_) (fun c => ?_)
        · have hk := zOk_t c hk
          refine zr_aload_n h dX12_clue_47 0 rfl rfl ?_
          refine zr_getR h zfo_X12_35 lR_0 rfl dX12_clue_48 ?_
          refine zr_iconst (v := (zI 3)) h dX12_clue_51 rfl ?_
          refine zr_iald h lR_9 (by decide) dX12_clue_52 ?_
          refine zr_bipush (v := (zI 12)) h dX12_clue_53 (by decide) ?_
          refine zr_icmp_ne (tgt := 60) h dX12_clue_55 (by decide) (fun c => ?_) (fun c => ?_)
          · have hk := zOk_t c hk
            refine zr_iconst (v := (zI (-1))) h dX12_clue_58 rfl ?_
            have hk := zOk_some hk
            exact zr_iret h dX12_clue_59 ⟨_, rfl, hk⟩
          · have hk := zOk_f c hk
            refine zr_aload_n h dX12_clue_60 0 rfl rfl ?_
            refine zr_callVv h lR_0 zcw_X12_214 (by decide) (c_X12_remembers E M_19 _ (zOk_bind hk)) rfl rfl (Nat.le_of_ble_eq_true rfl) dX12_clue_61 (fun M_61 hk => ?_)
            refine zr_sipush (v := (zI 424)) h dX12_clue_64 (by decide) ?_
            refine zr_iconst (v := (zI 3)) h dX12_clue_67 rfl ?_
            refine zr_aload_n h dX12_clue_68 0 rfl rfl ?_
            refine zr_getR h zfo_X12_35 lR_0 rfl dX12_clue_69 ?_
            refine zr_iconst (v := (zI 3)) h dX12_clue_72 rfl ?_
            refine zr_iald h lR_9 (by decide) dX12_clue_73 ?_
            refine zr_imul h dX12_clue_74 ?_
            refine zr_iadd h dX12_clue_75 ?_
            refine zr_topi (fun x4_76 ex => ?_)
            have hk := zOk_bnd ex hk
            refine zr_istore (L' := [(0, zrf E 0), (1, .int x1), (2, .int x2), (3, .int x3), (4, .int x4_76)]) h [1, 2, 3, 4, 0] dX12_clue_76 (by decide) rfl ?_
            refine zr_aload_n h dX12_clue_78 0 rfl rfl ?_
            refine zr_getR h zfo_X12_35 lR_0 rfl dX12_clue_79 ?_
            refine zr_iload h dX12_clue_82 4 rfl ?_
            refine zr_iload_n h dX12_clue_84 1 rfl rfl ?_
            have hb := zOk_chk hk
            have hk := hb.2
            refine zr_iast h lR_9 hb.1 dX12_clue_85 ?_
            refine zr_mem (fun M_85 eM => ?_)
            have hk := zOk_bnd eM hk
            refine zr_aload_n h dX12_clue_86 0 rfl rfl ?_
            refine zr_getR h zfo_X12_35 lR_0 rfl dX12_clue_87 ?_
            refine zr_iload h dX12_clue_90 4 rfl ?_
            refine zr_iconst (v := (zI 1)) h dX12_clue_92 rfl ?_
            refine zr_iadd h dX12_clue_93 ?_
            refine zr_iload_n h dX12_clue_94 2 rfl rfl ?_
            have hb := zOk_chk hk
            have hk := hb.2
            refine zr_iast h lR_9 hb.1 dX12_clue_95 ?_
            refine zr_mem (fun M_95 eM => ?_)
            have hk := zOk_bnd eM hk
            refine zr_aload_n h dX12_clue_96 0 rfl rfl ?_
            refine zr_getR h zfo_X12_35 lR_0 rfl dX12_clue_97 ?_
            refine zr_iload h dX12_clue_100 4 rfl ?_
            refine zr_iconst (v := (zI 2)) h dX12_clue_102 rfl ?_
            refine zr_iadd h dX12_clue_103 ?_
            refine zr_iload_n h dX12_clue_104 3 rfl rfl ?_
            refine zr_callSp h zcw_X12_177 (by decide) (c_X12_truth E M_95 x3 _ (zOk_bind hk)) rfl rfl (Nat.le_of_ble_eq_true rfl) dX12_clue_105 (fun r_105 hk => ?_)
            have hb := zOk_chk hk
            have hk := hb.2
            refine zr_iast h lR_9 hb.1 dX12_clue_108 ?_
            refine zr_mem (fun M_108 eM => ?_)
            have hk := zOk_bnd eM hk
            refine zr_aload_n h dX12_clue_109 0 rfl rfl ?_
            refine zr_getR h zfo_X12_35 lR_0 rfl dX12_clue_110 ?_
            refine zr_iconst (v := (zI 3)) h dX12_clue_113 rfl ?_
            refine zr_dup2_11 h dX12_clue_114 rfl rfl ?_
            refine zr_iald h lR_9 (by decide) dX12_clue_115 ?_
            refine zr_iconst (v := (zI 1)) h dX12_clue_116 rfl ?_
            refine zr_iadd h dX12_clue_117 ?_
            refine zr_iast h lR_9 (by decide) dX12_clue_118 ?_
            refine zr_mem (fun M_118 eM => ?_)
            have hk := zOk_bnd eM hk
            refine zr_aload_n h dX12_clue_119 0 rfl rfl ?_
            refine zr_getR h zfo_X12_35 lR_0 rfl dX12_clue_120 ?_
            refine zr_iconst (v := (zI 3)) h dX12_clue_123 rfl ?_
            refine zr_iald h lR_9 (by decide) dX12_clue_124 ?_
            have hk := zOk_some hk
            exact zr_iret h dX12_clue_125 ⟨_, rfl, hk⟩
        · have hk := zOk_f c hk
          refine zr_iconst (v := (zI (-1))) h dX12_clue_58 rfl ?_
          have hk := zOk_some hk
          exact zr_iret h dX12_clue_59 ⟨_, rfl, hk⟩
theorem dX12_isSign_0 : decode cX12_isSign 0 = .ok (.aload_n 0, 1) := by decide +kernel
theorem dX12_isSign_1 : decode cX12_isSign 1 = .ok (.getfield 41, 3) := by decide +kernel
theorem dX12_isSign_4 : decode cX12_isSign 4 = .ok (.iload_n 1, 1) := by decide +kernel
theorem dX12_isSign_5 : decode cX12_isSign 5 = .ok (.iaload, 1) := by decide +kernel
theorem dX12_isSign_6 : decode cX12_isSign 6 = .ok (.iload_n 1, 1) := by decide +kernel
theorem dX12_isSign_7 : decode cX12_isSign 7 = .ok (.if_icmp .ne 7, 3) := by decide +kernel
theorem dX12_isSign_10 : decode cX12_isSign 10 = .ok (.iconst 1, 1) := by decide +kernel
theorem dX12_isSign_11 : decode cX12_isSign 11 = .ok (.goto 4, 3) := by decide +kernel
theorem dX12_isSign_14 : decode cX12_isSign 14 = .ok (.iconst 0, 1) := by decide +kernel
theorem dX12_isSign_15 : decode cX12_isSign 15 = .ok (.ireturn, 1) := by decide +kernel
noncomputable def f_X12_isSign (M : ZMem) (x1 : Int32) : Option Int32 := zchk (zin x1 20) (if (M.1 11 (zix x1)) = x1 then some (zI 1) else some (zI 0))
set_option maxRecDepth 100000 in
set_option maxHeartbeats 4000000 in
theorem c_X12_isSign (E : ZEv) (M : ZMem) (x1 : Int32) (K : Int32 → Prop) (hk : zOk (f_X12_isSign M x1) K) : zCon lyR E yX12_isSign cX12_isSign 2 (some .boolean) 0 [zrf E 0, .int x1] M (zRp M K) := by
  refine zcon_of (L0 := [(0, zrf E 0), (1, .int x1)]) (by decide) rfl (Nat.le_of_ble_eq_true rfl) (fun G h => ?_)
  have h : zRu lyR E G (zRp M K) cX12_isSign RX12 2 (some .boolean) 0 := h
  unfold f_X12_isSign at hk
  refine zr_aload_n h dX12_isSign_0 0 rfl rfl ?_
  refine zr_getR h zfo_X12_41 lR_0 rfl dX12_isSign_1 ?_
  refine zr_iload_n h dX12_isSign_4 1 rfl rfl ?_
  have hb := zOk_chk hk
  have hk := hb.2
  refine zr_iald h lR_11 hb.1 dX12_isSign_5 ?_
  refine zr_iload_n h dX12_isSign_6 1 rfl rfl ?_
  refine zr_icmp_ne (tgt := 14) h dX12_isSign_7 (by decide) (fun c => ?_) (fun c => ?_)
  · have hk := zOk_t c hk
    refine zr_iconst (v := (zI 1)) h dX12_isSign_10 rfl ?_
    refine zr_goto (tgt := 15) h dX12_isSign_11 (by decide) ?_
    have hk := zOk_some hk
    exact zr_zret h dX12_isSign_15 (by decide) ⟨rfl, _, rfl, hk⟩
  · have hk := zOk_f c hk
    refine zr_iconst (v := (zI 0)) h dX12_isSign_14 rfl ?_
    have hk := zOk_some hk
    exact zr_zret h dX12_isSign_15 (by decide) ⟨rfl, _, rfl, hk⟩
theorem dX12_isWhole_0 : decode cX12_isWhole 0 = .ok (.aload_n 0, 1) := by decide +kernel
theorem dX12_isWhole_1 : decode cX12_isWhole 1 = .ok (.getfield 84, 3) := by decide +kernel
theorem dX12_isWhole_4 : decode cX12_isWhole 4 = .ok (.iload_n 1, 1) := by decide +kernel
theorem dX12_isWhole_5 : decode cX12_isWhole 5 = .ok (.iaload, 1) := by decide +kernel
theorem dX12_isWhole_6 : decode cX12_isWhole 6 = .ok (.iconst (-1), 1) := by decide +kernel
theorem dX12_isWhole_7 : decode cX12_isWhole 7 = .ok (.if_icmp .eq 20, 3) := by decide +kernel
theorem dX12_isWhole_10 : decode cX12_isWhole 10 = .ok (.aload_n 0, 1) := by decide +kernel
theorem dX12_isWhole_11 : decode cX12_isWhole 11 = .ok (.getfield 84, 3) := by decide +kernel
theorem dX12_isWhole_14 : decode cX12_isWhole 14 = .ok (.bipush 20, 2) := by decide +kernel
theorem dX12_isWhole_16 : decode cX12_isWhole 16 = .ok (.iload_n 1, 1) := by decide +kernel
theorem dX12_isWhole_17 : decode cX12_isWhole 17 = .ok (.iadd, 1) := by decide +kernel
theorem dX12_isWhole_18 : decode cX12_isWhole 18 = .ok (.iaload, 1) := by decide +kernel
theorem dX12_isWhole_19 : decode cX12_isWhole 19 = .ok (.iconst (-1), 1) := by decide +kernel
theorem dX12_isWhole_20 : decode cX12_isWhole 20 = .ok (.if_icmp .eq 7, 3) := by decide +kernel
theorem dX12_isWhole_23 : decode cX12_isWhole 23 = .ok (.iconst 1, 1) := by decide +kernel
theorem dX12_isWhole_24 : decode cX12_isWhole 24 = .ok (.goto 4, 3) := by decide +kernel
theorem dX12_isWhole_27 : decode cX12_isWhole 27 = .ok (.iconst 0, 1) := by decide +kernel
theorem dX12_isWhole_28 : decode cX12_isWhole 28 = .ok (.ireturn, 1) := by decide +kernel
noncomputable def f_X12_isWhole (M : ZMem) (x1 : Int32) : Option Int32 := zchk (zin x1 40) (if (M.1 25 (zix x1)) = (zI (-1)) then some (zI 0) else zchk (zin ((zI 20) + x1) 40) (if (M.1 25 (zix ((zI 20) + x1))) = (zI (-1)) then some (zI 0) else some (zI 1)))
set_option maxRecDepth 100000 in
set_option maxHeartbeats 4000000 in
theorem c_X12_isWhole (E : ZEv) (M : ZMem) (x1 : Int32) (K : Int32 → Prop) (hk : zOk (f_X12_isWhole M x1) K) : zCon lyR E yX12_isWhole cX12_isWhole 2 (some .boolean) 0 [zrf E 0, .int x1] M (zRp M K) := by
  refine zcon_of (L0 := [(0, zrf E 0), (1, .int x1)]) (by decide) rfl (Nat.le_of_ble_eq_true rfl) (fun G h => ?_)
  have h : zRu lyR E G (zRp M K) cX12_isWhole RX12 2 (some .boolean) 0 := h
  unfold f_X12_isWhole at hk
  refine zr_aload_n h dX12_isWhole_0 0 rfl rfl ?_
  refine zr_getR h zfo_X12_84 lR_0 rfl dX12_isWhole_1 ?_
  refine zr_iload_n h dX12_isWhole_4 1 rfl rfl ?_
  have hb := zOk_chk hk
  have hk := hb.2
  refine zr_iald h lR_25 hb.1 dX12_isWhole_5 ?_
  refine zr_iconst (v := (zI (-1))) h dX12_isWhole_6 rfl ?_
  refine zr_icmp_eq (tgt := 27) h dX12_isWhole_7 (by decide) (fun c => ?_) (fun c => ?_)
  · have hk := zOk_t c hk
    refine zr_iconst (v := (zI 0)) h dX12_isWhole_27 rfl ?_
    have hk := zOk_some hk
    exact zr_zret h dX12_isWhole_28 (by decide) ⟨rfl, _, rfl, hk⟩
  · have hk := zOk_f c hk
    refine zr_aload_n h dX12_isWhole_10 0 rfl rfl ?_
    refine zr_getR h zfo_X12_84 lR_0 rfl dX12_isWhole_11 ?_
    refine zr_bipush (v := (zI 20)) h dX12_isWhole_14 (by decide) ?_
    refine zr_iload_n h dX12_isWhole_16 1 rfl rfl ?_
    refine zr_iadd h dX12_isWhole_17 ?_
    have hb := zOk_chk hk
    have hk := hb.2
    refine zr_iald h lR_25 hb.1 dX12_isWhole_18 ?_
    refine zr_iconst (v := (zI (-1))) h dX12_isWhole_19 rfl ?_
    refine zr_icmp_eq (tgt := 27) h dX12_isWhole_20 (by decide) (fun c => ?_) (fun c => ?_)
    · have hk := zOk_t c hk
      refine zr_iconst (v := (zI 0)) h dX12_isWhole_27 rfl ?_
      have hk := zOk_some hk
      exact zr_zret h dX12_isWhole_28 (by decide) ⟨rfl, _, rfl, hk⟩
    · have hk := zOk_f c hk
      refine zr_iconst (v := (zI 1)) h dX12_isWhole_23 rfl ?_
      refine zr_goto (tgt := 28) h dX12_isWhole_24 (by decide) ?_
      have hk := zOk_some hk
      exact zr_zret h dX12_isWhole_28 (by decide) ⟨rfl, _, rfl, hk⟩
theorem dX12_isDisputed_0 : decode cX12_isDisputed 0 = .ok (.iconst 0, 1) := by decide +kernel
theorem dX12_isDisputed_1 : decode cX12_isDisputed 1 = .ok (.istore_n 2, 1) := by decide +kernel
theorem dX12_isDisputed_2 : decode cX12_isDisputed 2 = .ok (.iload_n 2, 1) := by decide +kernel
theorem dX12_isDisputed_3 : decode cX12_isDisputed 3 = .ok (.aload_n 0, 1) := by decide +kernel
theorem dX12_isDisputed_4 : decode cX12_isDisputed 4 = .ok (.getfield 162, 3) := by decide +kernel
theorem dX12_isDisputed_7 : decode cX12_isDisputed 7 = .ok (.if_icmp .ge 168, 3) := by decide +kernel
theorem dX12_isDisputed_10 : decode cX12_isDisputed 10 = .ok (.iconst 0, 1) := by decide +kernel
theorem dX12_isDisputed_11 : decode cX12_isDisputed 11 = .ok (.istore_n 3, 1) := by decide +kernel
theorem dX12_isDisputed_12 : decode cX12_isDisputed 12 = .ok (.iload_n 3, 1) := by decide +kernel
theorem dX12_isDisputed_13 : decode cX12_isDisputed 13 = .ok (.iconst 2, 1) := by decide +kernel
theorem dX12_isDisputed_14 : decode cX12_isDisputed 14 = .ok (.if_icmp .ge 86, 3) := by decide +kernel
theorem dX12_isDisputed_17 : decode cX12_isDisputed 17 = .ok (.aload_n 0, 1) := by decide +kernel
theorem dX12_isDisputed_18 : decode cX12_isDisputed 18 = .ok (.getfield 35, 3) := by decide +kernel
theorem dX12_isDisputed_21 : decode cX12_isDisputed 21 = .ok (.iconst 4, 1) := by decide +kernel
theorem dX12_isDisputed_22 : decode cX12_isDisputed 22 = .ok (.iload_n 2, 1) := by decide +kernel
theorem dX12_isDisputed_23 : decode cX12_isDisputed 23 = .ok (.iadd, 1) := by decide +kernel
theorem dX12_isDisputed_24 : decode cX12_isDisputed 24 = .ok (.iaload, 1) := by decide +kernel
theorem dX12_isDisputed_25 : decode cX12_isDisputed 25 = .ok (.iconst (-1), 1) := by decide +kernel
theorem dX12_isDisputed_26 : decode cX12_isDisputed 26 = .ok (.if_icmp .eq 32, 3) := by decide +kernel
theorem dX12_isDisputed_29 : decode cX12_isDisputed 29 = .ok (.aload_n 0, 1) := by decide +kernel
theorem dX12_isDisputed_30 : decode cX12_isDisputed 30 = .ok (.getfield 78, 3) := by decide +kernel
theorem dX12_isDisputed_33 : decode cX12_isDisputed 33 = .ok (.bipush 20, 2) := by decide +kernel
theorem dX12_isDisputed_35 : decode cX12_isDisputed 35 = .ok (.iload_n 3, 1) := by decide +kernel
theorem dX12_isDisputed_36 : decode cX12_isDisputed 36 = .ok (.imul, 1) := by decide +kernel
theorem dX12_isDisputed_37 : decode cX12_isDisputed 37 = .ok (.iload_n 2, 1) := by decide +kernel
theorem dX12_isDisputed_38 : decode cX12_isDisputed 38 = .ok (.iadd, 1) := by decide +kernel
theorem dX12_isDisputed_39 : decode cX12_isDisputed 39 = .ok (.iaload, 1) := by decide +kernel
theorem dX12_isDisputed_40 : decode cX12_isDisputed 40 = .ok (.aload_n 0, 1) := by decide +kernel
theorem dX12_isDisputed_41 : decode cX12_isDisputed 41 = .ok (.getfield 78, 3) := by decide +kernel
theorem dX12_isDisputed_44 : decode cX12_isDisputed 44 = .ok (.bipush 20, 2) := by decide +kernel
theorem dX12_isDisputed_46 : decode cX12_isDisputed 46 = .ok (.iload_n 3, 1) := by decide +kernel
theorem dX12_isDisputed_47 : decode cX12_isDisputed 47 = .ok (.imul, 1) := by decide +kernel
theorem dX12_isDisputed_48 : decode cX12_isDisputed 48 = .ok (.iload_n 1, 1) := by decide +kernel
theorem dX12_isDisputed_49 : decode cX12_isDisputed 49 = .ok (.iadd, 1) := by decide +kernel
theorem dX12_isDisputed_50 : decode cX12_isDisputed 50 = .ok (.iaload, 1) := by decide +kernel
theorem dX12_isDisputed_51 : decode cX12_isDisputed 51 = .ok (.if_icmp .ne 7, 3) := by decide +kernel
theorem dX12_isDisputed_54 : decode cX12_isDisputed 54 = .ok (.iconst 1, 1) := by decide +kernel
theorem dX12_isDisputed_55 : decode cX12_isDisputed 55 = .ok (.goto 4, 3) := by decide +kernel
theorem dX12_isDisputed_58 : decode cX12_isDisputed 58 = .ok (.iconst 0, 1) := by decide +kernel
theorem dX12_isDisputed_59 : decode cX12_isDisputed 59 = .ok (.istore 4, 2) := by decide +kernel
theorem dX12_isDisputed_61 : decode cX12_isDisputed 61 = .ok (.iload 4, 2) := by decide +kernel
theorem dX12_isDisputed_63 : decode cX12_isDisputed 63 = .ok (.ifCond .eq 31, 3) := by decide +kernel
theorem dX12_isDisputed_66 : decode cX12_isDisputed 66 = .ok (.aload_n 0, 1) := by decide +kernel
theorem dX12_isDisputed_67 : decode cX12_isDisputed 67 = .ok (.getfield 35, 3) := by decide +kernel
theorem dX12_isDisputed_70 : decode cX12_isDisputed 70 = .ok (.iconst 4, 1) := by decide +kernel
theorem dX12_isDisputed_71 : decode cX12_isDisputed 71 = .ok (.iload_n 2, 1) := by decide +kernel
theorem dX12_isDisputed_72 : decode cX12_isDisputed 72 = .ok (.iadd, 1) := by decide +kernel
theorem dX12_isDisputed_73 : decode cX12_isDisputed 73 = .ok (.iaload, 1) := by decide +kernel
theorem dX12_isDisputed_74 : decode cX12_isDisputed 74 = .ok (.iload_n 3, 1) := by decide +kernel
theorem dX12_isDisputed_75 : decode cX12_isDisputed 75 = .ok (.invokestatic 365, 3) := by decide +kernel
theorem dX12_isDisputed_78 : decode cX12_isDisputed 78 = .ok (.aload_n 0, 1) := by decide +kernel
theorem dX12_isDisputed_79 : decode cX12_isDisputed 79 = .ok (.getfield 84, 3) := by decide +kernel
theorem dX12_isDisputed_82 : decode cX12_isDisputed 82 = .ok (.bipush 20, 2) := by decide +kernel
theorem dX12_isDisputed_84 : decode cX12_isDisputed 84 = .ok (.iload_n 3, 1) := by decide +kernel
theorem dX12_isDisputed_85 : decode cX12_isDisputed 85 = .ok (.imul, 1) := by decide +kernel
theorem dX12_isDisputed_86 : decode cX12_isDisputed 86 = .ok (.iload_n 1, 1) := by decide +kernel
theorem dX12_isDisputed_87 : decode cX12_isDisputed 87 = .ok (.iadd, 1) := by decide +kernel
theorem dX12_isDisputed_88 : decode cX12_isDisputed 88 = .ok (.iaload, 1) := by decide +kernel
theorem dX12_isDisputed_89 : decode cX12_isDisputed 89 = .ok (.if_icmp .eq 5, 3) := by decide +kernel
theorem dX12_isDisputed_92 : decode cX12_isDisputed 92 = .ok (.iconst 1, 1) := by decide +kernel
theorem dX12_isDisputed_93 : decode cX12_isDisputed 93 = .ok (.ireturn, 1) := by decide +kernel
theorem dX12_isDisputed_94 : decode cX12_isDisputed 94 = .ok (.iinc 3 1, 3) := by decide +kernel
theorem dX12_isDisputed_97 : decode cX12_isDisputed 97 = .ok (.goto (-85), 3) := by decide +kernel
theorem dX12_isDisputed_100 : decode cX12_isDisputed 100 = .ok (.aload_n 0, 1) := by decide +kernel
theorem dX12_isDisputed_101 : decode cX12_isDisputed 101 = .ok (.getfield 41, 3) := by decide +kernel
theorem dX12_isDisputed_104 : decode cX12_isDisputed 104 = .ok (.iload_n 2, 1) := by decide +kernel
theorem dX12_isDisputed_105 : decode cX12_isDisputed 105 = .ok (.iaload, 1) := by decide +kernel
theorem dX12_isDisputed_106 : decode cX12_isDisputed 106 = .ok (.aload_n 0, 1) := by decide +kernel
theorem dX12_isDisputed_107 : decode cX12_isDisputed 107 = .ok (.getfield 41, 3) := by decide +kernel
theorem dX12_isDisputed_110 : decode cX12_isDisputed 110 = .ok (.iload_n 1, 1) := by decide +kernel
theorem dX12_isDisputed_111 : decode cX12_isDisputed 111 = .ok (.iaload, 1) := by decide +kernel
theorem dX12_isDisputed_112 : decode cX12_isDisputed 112 = .ok (.if_icmp .eq 57, 3) := by decide +kernel
theorem dX12_isDisputed_115 : decode cX12_isDisputed 115 = .ok (.aload_n 0, 1) := by decide +kernel
theorem dX12_isDisputed_116 : decode cX12_isDisputed 116 = .ok (.iload_n 1, 1) := by decide +kernel
theorem dX12_isDisputed_117 : decode cX12_isDisputed 117 = .ok (.invokevirtual 368, 3) := by decide +kernel
theorem dX12_isDisputed_120 : decode cX12_isDisputed 120 = .ok (.ifCond .eq 49, 3) := by decide +kernel
theorem dX12_isDisputed_123 : decode cX12_isDisputed 123 = .ok (.aload_n 0, 1) := by decide +kernel
theorem dX12_isDisputed_124 : decode cX12_isDisputed 124 = .ok (.iload_n 2, 1) := by decide +kernel
theorem dX12_isDisputed_125 : decode cX12_isDisputed 125 = .ok (.invokevirtual 368, 3) := by decide +kernel
theorem dX12_isDisputed_128 : decode cX12_isDisputed 128 = .ok (.ifCond .eq 41, 3) := by decide +kernel
theorem dX12_isDisputed_131 : decode cX12_isDisputed 131 = .ok (.aload_n 0, 1) := by decide +kernel
theorem dX12_isDisputed_132 : decode cX12_isDisputed 132 = .ok (.getfield 84, 3) := by decide +kernel
theorem dX12_isDisputed_135 : decode cX12_isDisputed 135 = .ok (.iload_n 2, 1) := by decide +kernel
theorem dX12_isDisputed_136 : decode cX12_isDisputed 136 = .ok (.iaload, 1) := by decide +kernel
theorem dX12_isDisputed_137 : decode cX12_isDisputed 137 = .ok (.aload_n 0, 1) := by decide +kernel
theorem dX12_isDisputed_138 : decode cX12_isDisputed 138 = .ok (.getfield 84, 3) := by decide +kernel
theorem dX12_isDisputed_141 : decode cX12_isDisputed 141 = .ok (.iload_n 1, 1) := by decide +kernel
theorem dX12_isDisputed_142 : decode cX12_isDisputed 142 = .ok (.iaload, 1) := by decide +kernel
theorem dX12_isDisputed_143 : decode cX12_isDisputed 143 = .ok (.if_icmp .ne 26, 3) := by decide +kernel
theorem dX12_isDisputed_146 : decode cX12_isDisputed 146 = .ok (.aload_n 0, 1) := by decide +kernel
theorem dX12_isDisputed_147 : decode cX12_isDisputed 147 = .ok (.getfield 84, 3) := by decide +kernel
theorem dX12_isDisputed_150 : decode cX12_isDisputed 150 = .ok (.bipush 20, 2) := by decide +kernel
theorem dX12_isDisputed_152 : decode cX12_isDisputed 152 = .ok (.iload_n 2, 1) := by decide +kernel
theorem dX12_isDisputed_153 : decode cX12_isDisputed 153 = .ok (.iadd, 1) := by decide +kernel
theorem dX12_isDisputed_154 : decode cX12_isDisputed 154 = .ok (.iaload, 1) := by decide +kernel
theorem dX12_isDisputed_155 : decode cX12_isDisputed 155 = .ok (.aload_n 0, 1) := by decide +kernel
theorem dX12_isDisputed_156 : decode cX12_isDisputed 156 = .ok (.getfield 84, 3) := by decide +kernel
theorem dX12_isDisputed_159 : decode cX12_isDisputed 159 = .ok (.bipush 20, 2) := by decide +kernel
theorem dX12_isDisputed_161 : decode cX12_isDisputed 161 = .ok (.iload_n 1, 1) := by decide +kernel
theorem dX12_isDisputed_162 : decode cX12_isDisputed 162 = .ok (.iadd, 1) := by decide +kernel
theorem dX12_isDisputed_163 : decode cX12_isDisputed 163 = .ok (.iaload, 1) := by decide +kernel
theorem dX12_isDisputed_164 : decode cX12_isDisputed 164 = .ok (.if_icmp .ne 5, 3) := by decide +kernel
theorem dX12_isDisputed_167 : decode cX12_isDisputed 167 = .ok (.iconst 1, 1) := by decide +kernel
theorem dX12_isDisputed_168 : decode cX12_isDisputed 168 = .ok (.ireturn, 1) := by decide +kernel
theorem dX12_isDisputed_169 : decode cX12_isDisputed 169 = .ok (.iinc 2 1, 3) := by decide +kernel
theorem dX12_isDisputed_172 : decode cX12_isDisputed 172 = .ok (.goto (-170), 3) := by decide +kernel
theorem dX12_isDisputed_175 : decode cX12_isDisputed 175 = .ok (.iconst 0, 1) := by decide +kernel
theorem dX12_isDisputed_176 : decode cX12_isDisputed 176 = .ok (.ireturn, 1) := by decide +kernel
noncomputable def f_X12_isDisputed_59_L12 (M : ZMem) (x1 : Int32) (x2 : Int32) (x3 : Int32) (v0 : Int32) : Option ((Int32) ⊕ ((Unit) ⊕ Int32)) := if v0 = (zI 0) then zbnd (x3 + (zI 1)) (fun x3_94 => some (.inl x3_94)) else zchk (zin ((zI 4) + x2) 460) (zbind (f_X12_partOf M (M.1 9 (zix ((zI 4) + x2))) x3) (fun r_75 => zchk (zin (((zI 20) * x3) + x1) 40) (if r_75 = (M.1 25 (zix (((zI 20) * x3) + x1))) then zbnd (x3 + (zI 1)) (fun x3_94 => some (.inl x3_94)) else some (.inr (.inr (zI 1))))))
set_option maxRecDepth 100000 in
set_option maxHeartbeats 4000000 in
theorem w_X12_isDisputed_59_L12 {E : ZEv} {G : ZG} {K : Int32 → Prop} (M : ZMem) (h : zRu lyR E G (zRp M K) cX12_isDisputed RX12 5 (some .boolean) 1) (x1 : Int32) (x2 : Int32) (x3 : Int32) (v0 : Int32) (hk : zOk (f_X12_isDisputed_59_L12 M x1 x2 x3 v0) (zlp (fun s => G M 12 [(0, zrf E 0), (1, .int x1), (2, .int x2), (3, .int s)] []) (fun e => zsel e (fun e0 => G M 100 [(0, zrf E 0), (1, .int x1), (2, .int x2)] []) (fun f0 => K f0)))) : G M 59 [(0, zrf E 0), (1, .int x1), (2, .int x2), (3, .int x3)] [.int v0] := by
  unfold f_X12_isDisputed_59_L12 at hk
  refine zr_istore (L' := [(0, zrf E 0), (1, .int x1), (2, .int x2), (3, .int x3), (4, .int v0)]) h [1, 2, 3, 4, 0] dX12_isDisputed_59 (by decide) rfl ?_
  refine zr_iload h dX12_isDisputed_61 4 rfl ?_
  refine zr_if_eq (tgt := 94) h dX12_isDisputed_63 (by decide) (fun c => ?_) (fun c => ?_)
  · have hk := zOk_t c hk
    obtain ⟨x3_94, ex⟩ : ∃ y : Int32, y = x3 + (zI 1) := ⟨_, rfl⟩
    have hk := zOk_bnd ex hk
    refine zr_iinc (v := x3_94) (L' := [(0, zrf E 0), (1, .int x1), (2, .int x2), (3, .int x3_94)]) h 3 [1, 2, 3, 0] dX12_isDisputed_94 rfl (by rw [ex]; rfl) (by decide) rfl ?_
    refine zr_goto (tgt := 12) h dX12_isDisputed_97 (by decide) ?_
    have hk := zOk_some hk
    exact zr_weak h [0, 1, 2, 3] rfl hk
  · have hk := zOk_f c hk
    refine zr_aload_n h dX12_isDisputed_66 0 rfl rfl ?_
    refine zr_getR h zfo_X12_35 lR_0 rfl dX12_isDisputed_67 ?_
    refine zr_iconst (v := (zI 4)) h dX12_isDisputed_70 rfl ?_
    refine zr_iload_n h dX12_isDisputed_71 2 rfl rfl ?_
    refine zr_iadd h dX12_isDisputed_72 ?_
    have hb := zOk_chk hk
    have hk := hb.2
    refine zr_iald h lR_9 hb.1 dX12_isDisputed_73 ?_
    refine zr_iload_n h dX12_isDisputed_74 3 rfl rfl ?_
    refine zr_callSp h zcw_X12_365 (by decide) (c_X12_partOf E M (M.1 9 (zix ((zI 4) + x2))) x3 _ (zOk_bind hk)) rfl rfl (Nat.le_of_ble_eq_true rfl) dX12_isDisputed_75 (fun r_75 hk => ?_)
    refine zr_aload_n h dX12_isDisputed_78 0 rfl rfl ?_
    refine zr_getR h zfo_X12_84 lR_0 rfl dX12_isDisputed_79 ?_
    refine zr_bipush (v := (zI 20)) h dX12_isDisputed_82 (by decide) ?_
    refine zr_iload_n h dX12_isDisputed_84 3 rfl rfl ?_
    refine zr_imul h dX12_isDisputed_85 ?_
    refine zr_iload_n h dX12_isDisputed_86 1 rfl rfl ?_
    refine zr_iadd h dX12_isDisputed_87 ?_
    have hb := zOk_chk hk
    have hk := hb.2
    refine zr_iald h lR_25 hb.1 dX12_isDisputed_88 ?_
    refine zr_icmp_eq (tgt := 94) h dX12_isDisputed_89 (by decide) (fun c => ?_) (fun c => ?_)
    · have hk := zOk_t c hk
      obtain ⟨x3_94, ex⟩ : ∃ y : Int32, y = x3 + (zI 1) := ⟨_, rfl⟩
      have hk := zOk_bnd ex hk
      refine zr_iinc (v := x3_94) (L' := [(0, zrf E 0), (1, .int x1), (2, .int x2), (3, .int x3_94)]) h 3 [1, 2, 3, 0] dX12_isDisputed_94 rfl (by rw [ex]; rfl) (by decide) rfl ?_
      refine zr_goto (tgt := 12) h dX12_isDisputed_97 (by decide) ?_
      have hk := zOk_some hk
      exact zr_weak h [0, 1, 2, 3] rfl hk
    · have hk := zOk_f c hk
      refine zr_iconst (v := (zI 1)) h dX12_isDisputed_92 rfl ?_
      have hk := zOk_some hk
      exact zr_zret h dX12_isDisputed_93 (by decide) ⟨rfl, _, rfl, hk⟩
noncomputable def f_X12_isDisputed_58_L12 (M : ZMem) (x1 : Int32) (x2 : Int32) (x3 : Int32) : Option ((Int32) ⊕ ((Unit) ⊕ Int32)) := f_X12_isDisputed_59_L12 M x1 x2 x3 (zI 0)
set_option maxRecDepth 100000 in
set_option maxHeartbeats 4000000 in
theorem w_X12_isDisputed_58_L12 {E : ZEv} {G : ZG} {K : Int32 → Prop} (M : ZMem) (h : zRu lyR E G (zRp M K) cX12_isDisputed RX12 5 (some .boolean) 1) (x1 : Int32) (x2 : Int32) (x3 : Int32) (hk : zOk (f_X12_isDisputed_58_L12 M x1 x2 x3) (zlp (fun s => G M 12 [(0, zrf E 0), (1, .int x1), (2, .int x2), (3, .int s)] []) (fun e => zsel e (fun e0 => G M 100 [(0, zrf E 0), (1, .int x1), (2, .int x2)] []) (fun f0 => K f0)))) : G M 58 [(0, zrf E 0), (1, .int x1), (2, .int x2), (3, .int x3)] [] := by
  unfold f_X12_isDisputed_58_L12 at hk
  refine zr_iconst (v := (zI 0)) h dX12_isDisputed_58 rfl ?_
  exact w_X12_isDisputed_59_L12 M h x1 x2 x3 (zI 0) hk
noncomputable def f_X12_isDisputed_L12 (M : ZMem) (x1 : Int32) (x2 : Int32) (s : (Int32)) : Option ((Int32) ⊕ ((Unit) ⊕ Int32)) := if (zI 2) ≤ s then some (.inr (.inl ())) else zchk (zin ((zI 4) + x2) 460) (if (M.1 9 (zix ((zI 4) + x2))) = (zI (-1)) then f_X12_isDisputed_58_L12 M x1 x2 s else zchk (zin (((zI 20) * s) + x2) 40) (zchk (zin (((zI 20) * s) + x1) 40) (if (M.1 23 (zix (((zI 20) * s) + x2))) = (M.1 23 (zix (((zI 20) * s) + x1))) then f_X12_isDisputed_59_L12 M x1 x2 s (zI 1) else f_X12_isDisputed_58_L12 M x1 x2 s)))
set_option maxRecDepth 100000 in
set_option maxHeartbeats 4000000 in
theorem w_X12_isDisputed_L12 {E : ZEv} {G : ZG} {K : Int32 → Prop} (M : ZMem) (h : zRu lyR E G (zRp M K) cX12_isDisputed RX12 5 (some .boolean) 1) (x1 : Int32) (x2 : Int32) (s : (Int32)) (hk : zOk (zloop (f_X12_isDisputed_L12 M x1 x2) s) (fun e => zsel e (fun e0 => G M 100 [(0, zrf E 0), (1, .int x1), (2, .int x2)] []) (fun f0 => K f0))) : G M 12 [(0, zrf E 0), (1, .int x1), (2, .int x2), (3, .int s)] [] := by
  refine zloop_walk (P := fun s => G M 12 [(0, zrf E 0), (1, .int x1), (2, .int x2), (3, .int s)] []) hk (fun s hk => ?_)
  unfold f_X12_isDisputed_L12 at hk
  refine zr_iload_n h dX12_isDisputed_12 3 rfl rfl ?_
  refine zr_iconst (v := (zI 2)) h dX12_isDisputed_13 rfl ?_
  refine zr_icmp_ge (tgt := 100) h dX12_isDisputed_14 (by decide) (fun c => ?_) (fun c => ?_)
  · have hk := zOk_t c hk
    have hk := zOk_some hk
    exact zr_weak h [0, 1, 2] rfl hk
  · have hk := zOk_f c hk
    refine zr_aload_n h dX12_isDisputed_17 0 rfl rfl ?_
    refine zr_getR h zfo_X12_35 lR_0 rfl dX12_isDisputed_18 ?_
    refine zr_iconst (v := (zI 4)) h dX12_isDisputed_21 rfl ?_
    refine zr_iload_n h dX12_isDisputed_22 2 rfl rfl ?_
    refine zr_iadd h dX12_isDisputed_23 ?_
    have hb := zOk_chk hk
    have hk := hb.2
    refine zr_iald h lR_9 hb.1 dX12_isDisputed_24 ?_
    refine zr_iconst (v := (zI (-1))) h dX12_isDisputed_25 rfl ?_
    refine zr_icmp_eq (tgt := 58) h dX12_isDisputed_26 (by decide) (fun c => ?_) (fun c => ?_)
    · have hk := zOk_t c hk
      exact w_X12_isDisputed_58_L12 M h x1 x2 s hk
    · have hk := zOk_f c hk
      refine zr_aload_n h dX12_isDisputed_29 0 rfl rfl ?_
      refine zr_getR h zfo_X12_78 lR_0 rfl dX12_isDisputed_30 ?_
      refine zr_bipush (v := (zI 20)) h dX12_isDisputed_33 (by decide) ?_
      refine zr_iload_n h dX12_isDisputed_35 3 rfl rfl ?_
      refine zr_imul h dX12_isDisputed_36 ?_
      refine zr_iload_n h dX12_isDisputed_37 2 rfl rfl ?_
      refine zr_iadd h dX12_isDisputed_38 ?_
      have hb := zOk_chk hk
      have hk := hb.2
      refine zr_iald h lR_23 hb.1 dX12_isDisputed_39 ?_
      refine zr_aload_n h dX12_isDisputed_40 0 rfl rfl ?_
      refine zr_getR h zfo_X12_78 lR_0 rfl dX12_isDisputed_41 ?_
      refine zr_bipush (v := (zI 20)) h dX12_isDisputed_44 (by decide) ?_
      refine zr_iload_n h dX12_isDisputed_46 3 rfl rfl ?_
      refine zr_imul h dX12_isDisputed_47 ?_
      refine zr_iload_n h dX12_isDisputed_48 1 rfl rfl ?_
      refine zr_iadd h dX12_isDisputed_49 ?_
      have hb := zOk_chk hk
      have hk := hb.2
      refine zr_iald h lR_23 hb.1 dX12_isDisputed_50 ?_
      refine zr_icmp_ne (tgt := 58) h dX12_isDisputed_51 (by decide) (fun c => ?_) (fun c => ?_)
      · have hk := zOk_t c hk
        refine zr_iconst (v := (zI 1)) h dX12_isDisputed_54 rfl ?_
        refine zr_goto (tgt := 59) h dX12_isDisputed_55 (by decide) ?_
        exact w_X12_isDisputed_59_L12 M h x1 x2 s (zI 1) hk
      · have hk := zOk_f c hk
        exact w_X12_isDisputed_58_L12 M h x1 x2 s hk
noncomputable def f_X12_isDisputed_L2 (M : ZMem) (x1 : Int32) (s : (Int32)) : Option ((Int32) ⊕ ((Unit) ⊕ Int32)) := if (M.1 0 4) ≤ s then some (.inr (.inl ())) else zbind (zloop (f_X12_isDisputed_L12 M x1 s) (zI 0)) (fun e12 => zsel e12 (fun e12a => zchk (zin s 20) (zchk (zin x1 20) (if (M.1 11 (zix s)) = (M.1 11 (zix x1)) then zbnd (s + (zI 1)) (fun x2_169 => some (.inl x2_169)) else zbind (f_X12_isWhole M x1) (fun r_117 => if r_117 = (zI 0) then zbnd (s + (zI 1)) (fun x2_169 => some (.inl x2_169)) else zbind (f_X12_isWhole M s) (fun r_125 => if r_125 = (zI 0) then zbnd (s + (zI 1)) (fun x2_169 => some (.inl x2_169)) else zchk (zin s 40) (zchk (zin x1 40) (if (M.1 25 (zix s)) = (M.1 25 (zix x1)) then zchk (zin ((zI 20) + s) 40) (zchk (zin ((zI 20) + x1) 40) (if (M.1 25 (zix ((zI 20) + s))) = (M.1 25 (zix ((zI 20) + x1))) then some (.inr (.inr (zI 1))) else zbnd (s + (zI 1)) (fun x2_169 => some (.inl x2_169)))) else zbnd (s + (zI 1)) (fun x2_169 => some (.inl x2_169))))))))) (fun e12b => some (.inr (.inr e12b))))
set_option maxRecDepth 100000 in
set_option maxHeartbeats 4000000 in
theorem w_X12_isDisputed_L2 {E : ZEv} {G : ZG} {K : Int32 → Prop} (M : ZMem) (h : zRu lyR E G (zRp M K) cX12_isDisputed RX12 5 (some .boolean) 1) (x1 : Int32) (s : (Int32)) (hk : zOk (zloop (f_X12_isDisputed_L2 M x1) s) (fun e => zsel e (fun e0 => G M 175 [] []) (fun f0 => K f0))) : G M 2 [(0, zrf E 0), (1, .int x1), (2, .int s)] [] := by
  refine zloop_walk (P := fun s => G M 2 [(0, zrf E 0), (1, .int x1), (2, .int s)] []) hk (fun s hk => ?_)
  unfold f_X12_isDisputed_L2 at hk
  refine zr_iload_n h dX12_isDisputed_2 2 rfl rfl ?_
  refine zr_aload_n h dX12_isDisputed_3 0 rfl rfl ?_
  refine zr_getI h zfo_X12_162 lR_0 rfl dX12_isDisputed_4 ?_
  refine zr_icmp_ge (tgt := 175) h dX12_isDisputed_7 (by decide) (fun c => ?_) (fun c => ?_)
  · have hk := zOk_t c hk
    have hk := zOk_some hk
    exact zr_weak h [] rfl hk
  · have hk := zOk_f c hk
    refine zr_iconst (v := (zI 0)) h dX12_isDisputed_10 rfl ?_
    refine zr_istore_n (L' := [(0, zrf E 0), (1, .int x1), (2, .int s), (3, .int (zI 0))]) h [1, 2, 3, 0] dX12_isDisputed_11 rfl (by decide) rfl ?_
    refine w_X12_isDisputed_L12 M h x1 s (zI 0) (zOk_mono (zOk_bind hk) (fun e12 hk => ?_))
    cases e12 with
    | inl e12a =>
      have hk := zOk_selL hk
      refine zr_aload_n h dX12_isDisputed_100 0 rfl rfl ?_
      refine zr_getR h zfo_X12_41 lR_0 rfl dX12_isDisputed_101 ?_
      refine zr_iload_n h dX12_isDisputed_104 2 rfl rfl ?_
      have hb := zOk_chk hk
      have hk := hb.2
      refine zr_iald h lR_11 hb.1 dX12_isDisputed_105 ?_
      refine zr_aload_n h dX12_isDisputed_106 0 rfl rfl ?_
      refine zr_getR h zfo_X12_41 lR_0 rfl dX12_isDisputed_107 ?_
      refine zr_iload_n h dX12_isDisputed_110 1 rfl rfl ?_
      have hb := zOk_chk hk
      have hk := hb.2
      refine zr_iald h lR_11 hb.1 dX12_isDisputed_111 ?_
      refine zr_icmp_eq (tgt := 169) h dX12_isDisputed_112 (by decide) (fun c => ?_) (fun c => ?_)
      · have hk := zOk_t c hk
        obtain ⟨x2_169, ex⟩ : ∃ y : Int32, y = s + (zI 1) := ⟨_, rfl⟩
        have hk := zOk_bnd ex hk
        refine zr_iinc (v := x2_169) (L' := [(0, zrf E 0), (1, .int x1), (2, .int x2_169)]) h 2 [1, 2, 0] dX12_isDisputed_169 rfl (by rw [ex]; rfl) (by decide) rfl ?_
        refine zr_goto (tgt := 2) h dX12_isDisputed_172 (by decide) ?_
        have hk := zOk_some hk
        exact zr_weak h [0, 1, 2] rfl hk
      · have hk := zOk_f c hk
        refine zr_aload_n h dX12_isDisputed_115 0 rfl rfl ?_
        refine zr_iload_n h dX12_isDisputed_116 1 rfl rfl ?_
        refine zr_callVp h lR_0 zcw_X12_368 (by decide) (c_X12_isWhole E M x1 _ (zOk_bind hk)) rfl rfl (Nat.le_of_ble_eq_true rfl) dX12_isDisputed_117 (fun r_117 hk => ?_)
        refine zr_if_eq (tgt := 169) h dX12_isDisputed_120 (by decide) (fun c => ?_) (fun c => ?_)
        · have hk := zOk_t c hk
          obtain ⟨x2_169, ex⟩ : ∃ y : Int32, y = s + (zI 1) := ⟨_, rfl⟩
          have hk := zOk_bnd ex hk
          refine zr_iinc (v := x2_169) (L' := [(0, zrf E 0), (1, .int x1), (2, .int x2_169)]) h 2 [1, 2, 0] dX12_isDisputed_169 rfl (by rw [ex]; rfl) (by decide) rfl ?_
          refine zr_goto (tgt := 2) h dX12_isDisputed_172 (by decide) ?_
          have hk := zOk_some hk
          exact zr_weak h [0, 1, 2] rfl hk
        · have hk := zOk_f c hk
          refine zr_aload_n h dX12_isDisputed_123 0 rfl rfl ?_
          refine zr_iload_n h dX12_isDisputed_124 2 rfl rfl ?_
          refine zr_callVp h lR_0 zcw_X12_368 (by decide) (c_X12_isWhole E M s _ (zOk_bind hk)) rfl rfl (Nat.le_of_ble_eq_true rfl) dX12_isDisputed_125 (fun r_125 hk => ?_)
          refine zr_if_eq (tgt := 169) h dX12_isDisputed_128 (by decide) (fun c => ?_) (fun c => ?_)
          · have hk := zOk_t c hk
            obtain ⟨x2_169, ex⟩ : ∃ y : Int32, y = s + (zI 1) := ⟨_, rfl⟩
            have hk := zOk_bnd ex hk
            refine zr_iinc (v := x2_169) (L' := [(0, zrf E 0), (1, .int x1), (2, .int x2_169)]) h 2 [1, 2, 0] dX12_isDisputed_169 rfl (by rw [ex]; rfl) (by decide) rfl ?_
            refine zr_goto (tgt := 2) h dX12_isDisputed_172 (by decide) ?_
            have hk := zOk_some hk
            exact zr_weak h [0, 1, 2] rfl hk
          · have hk := zOk_f c hk
            refine zr_aload_n h dX12_isDisputed_131 0 rfl rfl ?_
            refine zr_getR h zfo_X12_84 lR_0 rfl dX12_isDisputed_132 ?_
            refine zr_iload_n h dX12_isDisputed_135 2 rfl rfl ?_
            have hb := zOk_chk hk
            have hk := hb.2
            refine zr_iald h lR_25 hb.1 dX12_isDisputed_136 ?_
            refine zr_aload_n h dX12_isDisputed_137 0 rfl rfl ?_
            refine zr_getR h zfo_X12_84 lR_0 rfl dX12_isDisputed_138 ?_
            refine zr_iload_n h dX12_isDisputed_141 1 rfl rfl ?_
            have hb := zOk_chk hk
            have hk := hb.2
            refine zr_iald h lR_25 hb.1 dX12_isDisputed_142 ?_
            refine zr_icmp_ne (tgt := 169) h dX12_isDisputed_143 (by decide) (fun c => ?_) (fun c => ?_)
            · have hk := zOk_t c hk
              refine zr_aload_n h dX12_isDisputed_146 0 rfl rfl ?_
              refine zr_getR h zfo_X12_84 lR_0 rfl dX12_isDisputed_147 ?_
              refine zr_bipush (v := (zI 20)) h dX12_isDisputed_150 (by decide) ?_
              refine zr_iload_n h dX12_isDisputed_152 2 rfl rfl ?_
              refine zr_iadd h dX12_isDisputed_153 ?_
              have hb := zOk_chk hk
              have hk := hb.2
              refine zr_iald h lR_25 hb.1 dX12_isDisputed_154 ?_
              refine zr_aload_n h dX12_isDisputed_155 0 rfl rfl ?_
              refine zr_getR h zfo_X12_84 lR_0 rfl dX12_isDisputed_156 ?_
              refine zr_bipush (v := (zI 20)) h dX12_isDisputed_159 (by decide) ?_
              refine zr_iload_n h dX12_isDisputed_161 1 rfl rfl ?_
              refine zr_iadd h dX12_isDisputed_162 ?_
              have hb := zOk_chk hk
              have hk := hb.2
              refine zr_iald h lR_25 hb.1 dX12_isDisputed_163 ?_
              refine zr_icmp_ne (tgt := 169) h dX12_isDisputed_164 (by decide) (fun c => ?_) (fun c => ?_)
              · have hk := zOk_t c hk
                refine zr_iconst (v := (zI 1)) h dX12_isDisputed_167 rfl ?_
                have hk := zOk_some hk
                exact zr_zret h dX12_isDisputed_168 (by decide) ⟨rfl, _, rfl, hk⟩
              · have hk := zOk_f c hk
                obtain ⟨x2_169, ex⟩ : ∃ y : Int32, y = s + (zI 1) := ⟨_, rfl⟩
                have hk := zOk_bnd ex hk
                refine zr_iinc (v := x2_169) (L' := [(0, zrf E 0), (1, .int x1), (2, .int x2_169)]) h 2 [1, 2, 0] dX12_isDisputed_169 rfl (by rw [ex]; rfl) (by decide) rfl ?_
                refine zr_goto (tgt := 2) h dX12_isDisputed_172 (by decide) ?_
                have hk := zOk_some hk
                exact zr_weak h [0, 1, 2] rfl hk
            · have hk := zOk_f c hk
              obtain ⟨x2_169, ex⟩ : ∃ y : Int32, y = s + (zI 1) := ⟨_, rfl⟩
              have hk := zOk_bnd ex hk
              refine zr_iinc (v := x2_169) (L' := [(0, zrf E 0), (1, .int x1), (2, .int x2_169)]) h 2 [1, 2, 0] dX12_isDisputed_169 rfl (by rw [ex]; rfl) (by decide) rfl ?_
              refine zr_goto (tgt := 2) h dX12_isDisputed_172 (by decide) ?_
              have hk := zOk_some hk
              exact zr_weak h [0, 1, 2] rfl hk
    | inr e12b =>
      have hk := zOk_selR hk
      have hk := zOk_some hk
      exact hk
noncomputable def f_X12_isDisputed (M : ZMem) (x1 : Int32) : Option Int32 := zbind (zloop (f_X12_isDisputed_L2 M x1) (zI 0)) (fun e2 => zsel e2 (fun e2a => some (zI 0)) (fun e2b => some e2b))
set_option maxRecDepth 100000 in
set_option maxHeartbeats 4000000 in
theorem c_X12_isDisputed (E : ZEv) (M : ZMem) (x1 : Int32) (K : Int32 → Prop) (hk : zOk (f_X12_isDisputed M x1) K) : zCon lyR E yX12_isDisputed cX12_isDisputed 5 (some .boolean) 1 [zrf E 0, .int x1] M (zRp M K) := by
  refine zcon_of (L0 := [(0, zrf E 0), (1, .int x1)]) (by decide) rfl (Nat.le_of_ble_eq_true rfl) (fun G h => ?_)
  have h : zRu lyR E G (zRp M K) cX12_isDisputed RX12 5 (some .boolean) 1 := h
  unfold f_X12_isDisputed at hk
  refine zr_iconst (v := (zI 0)) h dX12_isDisputed_0 rfl ?_
  refine zr_istore_n (L' := [(0, zrf E 0), (1, .int x1), (2, .int (zI 0))]) h [1, 2, 0] dX12_isDisputed_1 rfl (by decide) rfl ?_
  refine w_X12_isDisputed_L2 M h x1 (zI 0) (zOk_mono (zOk_bind hk) (fun e2 hk => ?_))
  cases e2 with
  | inl e2a =>
    have hk := zOk_selL hk
    refine zr_iconst (v := (zI 0)) h dX12_isDisputed_175 rfl ?_
    have hk := zOk_some hk
    exact zr_zret h dX12_isDisputed_176 (by decide) ⟨rfl, _, rfl, hk⟩
  | inr e2b =>
    have hk := zOk_selR hk
    have hk := zOk_some hk
    exact hk
theorem dX12_disputedMany_0 : decode cX12_disputedMany 0 = .ok (.iconst 0, 1) := by decide +kernel
theorem dX12_disputedMany_1 : decode cX12_disputedMany 1 = .ok (.istore_n 1, 1) := by decide +kernel
theorem dX12_disputedMany_2 : decode cX12_disputedMany 2 = .ok (.iconst 0, 1) := by decide +kernel
theorem dX12_disputedMany_3 : decode cX12_disputedMany 3 = .ok (.istore_n 2, 1) := by decide +kernel
theorem dX12_disputedMany_4 : decode cX12_disputedMany 4 = .ok (.iload_n 2, 1) := by decide +kernel
theorem dX12_disputedMany_5 : decode cX12_disputedMany 5 = .ok (.aload_n 0, 1) := by decide +kernel
theorem dX12_disputedMany_6 : decode cX12_disputedMany 6 = .ok (.getfield 162, 3) := by decide +kernel
theorem dX12_disputedMany_9 : decode cX12_disputedMany 9 = .ok (.if_icmp .ge 36, 3) := by decide +kernel
theorem dX12_disputedMany_12 : decode cX12_disputedMany 12 = .ok (.iload_n 1, 1) := by decide +kernel
theorem dX12_disputedMany_13 : decode cX12_disputedMany 13 = .ok (.aload_n 0, 1) := by decide +kernel
theorem dX12_disputedMany_14 : decode cX12_disputedMany 14 = .ok (.iload_n 2, 1) := by decide +kernel
theorem dX12_disputedMany_15 : decode cX12_disputedMany 15 = .ok (.invokevirtual 356, 3) := by decide +kernel
theorem dX12_disputedMany_18 : decode cX12_disputedMany 18 = .ok (.ifCond .eq 15, 3) := by decide +kernel
theorem dX12_disputedMany_21 : decode cX12_disputedMany 21 = .ok (.aload_n 0, 1) := by decide +kernel
theorem dX12_disputedMany_22 : decode cX12_disputedMany 22 = .ok (.iload_n 2, 1) := by decide +kernel
theorem dX12_disputedMany_23 : decode cX12_disputedMany 23 = .ok (.invokevirtual 371, 3) := by decide +kernel
theorem dX12_disputedMany_26 : decode cX12_disputedMany 26 = .ok (.ifCond .eq 7, 3) := by decide +kernel
theorem dX12_disputedMany_29 : decode cX12_disputedMany 29 = .ok (.iconst 1, 1) := by decide +kernel
theorem dX12_disputedMany_30 : decode cX12_disputedMany 30 = .ok (.goto 4, 3) := by decide +kernel
theorem dX12_disputedMany_33 : decode cX12_disputedMany 33 = .ok (.iconst 0, 1) := by decide +kernel
theorem dX12_disputedMany_34 : decode cX12_disputedMany 34 = .ok (.invokestatic 177, 3) := by decide +kernel
theorem dX12_disputedMany_37 : decode cX12_disputedMany 37 = .ok (.iadd, 1) := by decide +kernel
theorem dX12_disputedMany_38 : decode cX12_disputedMany 38 = .ok (.istore_n 1, 1) := by decide +kernel
theorem dX12_disputedMany_39 : decode cX12_disputedMany 39 = .ok (.iinc 2 1, 3) := by decide +kernel
theorem dX12_disputedMany_42 : decode cX12_disputedMany 42 = .ok (.goto (-38), 3) := by decide +kernel
theorem dX12_disputedMany_45 : decode cX12_disputedMany 45 = .ok (.iload_n 1, 1) := by decide +kernel
theorem dX12_disputedMany_46 : decode cX12_disputedMany 46 = .ok (.ireturn, 1) := by decide +kernel
noncomputable def f_X12_disputedMany_34_L4 (M : ZMem) (x2 : Int32) (v0 : Int32) (v1 : Int32) : Option ((Int32 × Int32) ⊕ (Int32)) := zbind (f_X12_truth M v1) (fun r_34 => zbnd (v0 + r_34) (fun x1_38 => zbnd (x2 + (zI 1)) (fun x2_39 => some (.inl (x1_38, x2_39)))))
set_option maxRecDepth 100000 in
set_option maxHeartbeats 4000000 in
theorem w_X12_disputedMany_34_L4 {E : ZEv} {G : ZG} {K : Int32 → Prop} (M : ZMem) (h : zRu lyR E G (zRp M K) cX12_disputedMany RX12 3 (some .int) 2) (x2 : Int32) (v0 : Int32) (v1 : Int32) (hk : zOk (f_X12_disputedMany_34_L4 M x2 v0 v1) (zlp (fun s => G M 4 [(0, zrf E 0), (1, .int s.1), (2, .int s.2)] []) (fun e => G M 45 [(1, .int e)] []))) : G M 34 [(0, zrf E 0), (2, .int x2)] [.int v1, .int v0] := by
  unfold f_X12_disputedMany_34_L4 at hk
  refine zr_callSp h zcw_X12_177 (by decide) (c_X12_truth E M v1 _ (zOk_bind hk)) rfl rfl (Nat.le_of_ble_eq_true rfl) dX12_disputedMany_34 (fun r_34 hk => ?_)
  refine zr_iadd h dX12_disputedMany_37 ?_
  refine zr_topi (fun x1_38 ex => ?_)
  have hk := zOk_bnd ex hk
  refine zr_istore_n (L' := [(0, zrf E 0), (1, .int x1_38), (2, .int x2)]) h [1, 0, 2] dX12_disputedMany_38 rfl (by decide) rfl ?_
  obtain ⟨x2_39, ex⟩ : ∃ y : Int32, y = x2 + (zI 1) := ⟨_, rfl⟩
  have hk := zOk_bnd ex hk
  refine zr_iinc (v := x2_39) (L' := [(0, zrf E 0), (1, .int x1_38), (2, .int x2_39)]) h 2 [1, 2, 0] dX12_disputedMany_39 rfl (by rw [ex]; rfl) (by decide) rfl ?_
  refine zr_goto (tgt := 4) h dX12_disputedMany_42 (by decide) ?_
  have hk := zOk_some hk
  exact zr_weak h [0, 1, 2] rfl hk
noncomputable def f_X12_disputedMany_33_L4 (M : ZMem) (x2 : Int32) (v0 : Int32) : Option ((Int32 × Int32) ⊕ (Int32)) := f_X12_disputedMany_34_L4 M x2 v0 (zI 0)
set_option maxRecDepth 100000 in
set_option maxHeartbeats 4000000 in
theorem w_X12_disputedMany_33_L4 {E : ZEv} {G : ZG} {K : Int32 → Prop} (M : ZMem) (h : zRu lyR E G (zRp M K) cX12_disputedMany RX12 3 (some .int) 2) (x2 : Int32) (v0 : Int32) (hk : zOk (f_X12_disputedMany_33_L4 M x2 v0) (zlp (fun s => G M 4 [(0, zrf E 0), (1, .int s.1), (2, .int s.2)] []) (fun e => G M 45 [(1, .int e)] []))) : G M 33 [(0, zrf E 0), (2, .int x2)] [.int v0] := by
  unfold f_X12_disputedMany_33_L4 at hk
  refine zr_iconst (v := (zI 0)) h dX12_disputedMany_33 rfl ?_
  exact w_X12_disputedMany_34_L4 M h x2 v0 (zI 0) hk
noncomputable def f_X12_disputedMany_L4 (M : ZMem) (s : (Int32 × Int32)) : Option ((Int32 × Int32) ⊕ (Int32)) := if (M.1 0 4) ≤ s.2 then some (.inr s.1) else zbind (f_X12_isSign M s.2) (fun r_15 => if r_15 = (zI 0) then f_X12_disputedMany_33_L4 M s.2 s.1 else zbind (f_X12_isDisputed M s.2) (fun r_23 => if r_23 = (zI 0) then f_X12_disputedMany_33_L4 M s.2 s.1 else f_X12_disputedMany_34_L4 M s.2 s.1 (zI 1)))
set_option maxRecDepth 100000 in
set_option maxHeartbeats 4000000 in
theorem w_X12_disputedMany_L4 {E : ZEv} {G : ZG} {K : Int32 → Prop} (M : ZMem) (h : zRu lyR E G (zRp M K) cX12_disputedMany RX12 3 (some .int) 2) (s : (Int32 × Int32)) (hk : zOk (zloop (f_X12_disputedMany_L4 M) s) (fun e => G M 45 [(1, .int e)] [])) : G M 4 [(0, zrf E 0), (1, .int s.1), (2, .int s.2)] [] := by
  refine zloop_walk (P := fun s => G M 4 [(0, zrf E 0), (1, .int s.1), (2, .int s.2)] []) hk (fun s hk => ?_)
  unfold f_X12_disputedMany_L4 at hk
  refine zr_iload_n h dX12_disputedMany_4 2 rfl rfl ?_
  refine zr_aload_n h dX12_disputedMany_5 0 rfl rfl ?_
  refine zr_getI h zfo_X12_162 lR_0 rfl dX12_disputedMany_6 ?_
  refine zr_icmp_ge (tgt := 45) h dX12_disputedMany_9 (by decide) (fun c => ?_) (fun c => ?_)
  · have hk := zOk_t c hk
    have hk := zOk_some hk
    exact zr_weak h [1] rfl hk
  · have hk := zOk_f c hk
    refine zr_iload_n h dX12_disputedMany_12 1 rfl rfl ?_
    refine zr_aload_n h dX12_disputedMany_13 0 rfl rfl ?_
    refine zr_iload_n h dX12_disputedMany_14 2 rfl rfl ?_
    refine zr_callVp h lR_0 zcw_X12_356 (by decide) (c_X12_isSign E M s.2 _ (zOk_bind hk)) rfl rfl (Nat.le_of_ble_eq_true rfl) dX12_disputedMany_15 (fun r_15 hk => ?_)
    refine zr_if_eq (tgt := 33) h dX12_disputedMany_18 (by decide) (fun c => ?_) (fun c => ?_)
    · have hk := zOk_t c hk
      exact zr_weak h [0, 2] rfl (w_X12_disputedMany_33_L4 M h s.2 s.1 hk)
    · have hk := zOk_f c hk
      refine zr_aload_n h dX12_disputedMany_21 0 rfl rfl ?_
      refine zr_iload_n h dX12_disputedMany_22 2 rfl rfl ?_
      refine zr_callVp h lR_0 zcw_X12_371 (by decide) (c_X12_isDisputed E M s.2 _ (zOk_bind hk)) rfl rfl (Nat.le_of_ble_eq_true rfl) dX12_disputedMany_23 (fun r_23 hk => ?_)
      refine zr_if_eq (tgt := 33) h dX12_disputedMany_26 (by decide) (fun c => ?_) (fun c => ?_)
      · have hk := zOk_t c hk
        exact zr_weak h [0, 2] rfl (w_X12_disputedMany_33_L4 M h s.2 s.1 hk)
      · have hk := zOk_f c hk
        refine zr_iconst (v := (zI 1)) h dX12_disputedMany_29 rfl ?_
        refine zr_goto (tgt := 34) h dX12_disputedMany_30 (by decide) ?_
        exact zr_weak h [0, 2] rfl (w_X12_disputedMany_34_L4 M h s.2 s.1 (zI 1) hk)
noncomputable def f_X12_disputedMany (M : ZMem) : Option Int32 := zbind (zloop (f_X12_disputedMany_L4 M) ((zI 0), (zI 0))) (fun e4 => some e4)
set_option maxRecDepth 100000 in
set_option maxHeartbeats 4000000 in
theorem c_X12_disputedMany (E : ZEv) (M : ZMem) (K : Int32 → Prop) (hk : zOk (f_X12_disputedMany M) K) : zCon lyR E yX12_disputedMany cX12_disputedMany 3 (some .int) 2 [zrf E 0] M (zRp M K) := by
  refine zcon_of (L0 := [(0, zrf E 0)]) (by decide) rfl (Nat.le_of_ble_eq_true rfl) (fun G h => ?_)
  have h : zRu lyR E G (zRp M K) cX12_disputedMany RX12 3 (some .int) 2 := h
  unfold f_X12_disputedMany at hk
  refine zr_iconst (v := (zI 0)) h dX12_disputedMany_0 rfl ?_
  refine zr_istore_n (L' := [(0, zrf E 0), (1, .int (zI 0))]) h [1, 0] dX12_disputedMany_1 rfl (by decide) rfl ?_
  refine zr_iconst (v := (zI 0)) h dX12_disputedMany_2 rfl ?_
  refine zr_istore_n (L' := [(0, zrf E 0), (1, .int (zI 0)), (2, .int (zI 0))]) h [1, 2, 0] dX12_disputedMany_3 rfl (by decide) rfl ?_
  refine w_X12_disputedMany_L4 M h ((zI 0), (zI 0)) (zOk_mono (zOk_bind hk) (fun e4 hk => ?_))
  refine zr_iload_n h dX12_disputedMany_45 0 rfl rfl ?_
  have hk := zOk_some hk
  exact zr_iret h dX12_disputedMany_46 ⟨rfl, _, rfl, hk⟩
