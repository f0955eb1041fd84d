theorem dX11_startLabels_0 : decode cX11_startLabels 0 = .ok (.iconst 0, 1) := by decide +kernel
theorem dX11_startLabels_1 : decode cX11_startLabels 1 = .ok (.istore_n 1, 1) := by decide +kernel
theorem dX11_startLabels_2 : decode cX11_startLabels 2 = .ok (.iload_n 1, 1) := by decide +kernel
theorem dX11_startLabels_3 : decode cX11_startLabels 3 = .ok (.aload_n 0, 1) := by decide +kernel
theorem dX11_startLabels_4 : decode cX11_startLabels 4 = .ok (.arraylength, 1) := by decide +kernel
theorem dX11_startLabels_5 : decode cX11_startLabels 5 = .ok (.if_icmp .ge 13, 3) := by decide +kernel
theorem dX11_startLabels_8 : decode cX11_startLabels 8 = .ok (.aload_n 0, 1) := by decide +kernel
theorem dX11_startLabels_9 : decode cX11_startLabels 9 = .ok (.iload_n 1, 1) := by decide +kernel
theorem dX11_startLabels_10 : decode cX11_startLabels 10 = .ok (.iload_n 1, 1) := by decide +kernel
theorem dX11_startLabels_11 : decode cX11_startLabels 11 = .ok (.iastore, 1) := by decide +kernel
theorem dX11_startLabels_12 : decode cX11_startLabels 12 = .ok (.iinc 1 1, 3) := by decide +kernel
theorem dX11_startLabels_15 : decode cX11_startLabels 15 = .ok (.goto (-13), 3) := by decide +kernel
theorem dX11_startLabels_18 : decode cX11_startLabels 18 = .ok (.return_, 1) := by decide +kernel
noncomputable def f_X11_startLabels_L2 (q0 : Nat) (n0 : Nat) (s : (ZMem × Int32)) : Option ((ZMem × Int32) ⊕ (ZMem)) := if (zI n0) ≤ s.2 then some (.inr s.1) else zchk (zin s.2 n0) (zbnd (zstI s.1 q0 (zix s.2) s.2) (fun M_11 => zbnd (s.2 + (zI 1)) (fun x1_12 => some (.inl (M_11, x1_12)))))
set_option maxRecDepth 100000 in
set_option maxHeartbeats 4000000 in
theorem w_X11_startLabels_L2 {ly : List ZEnt} {E : ZEv} {G : ZG} {K : ZMem → Prop} (h : zRu ly E G (zRv K) cX11_startLabels RX11 2 none 0) (q0 : Nat) (n0 : Nat) (hq0 : ly[q0]? = some (.inl (0, n0))) (s : (ZMem × Int32)) (hk : zOk (zloop (f_X11_startLabels_L2 q0 n0) s) (fun e => G e 18 [] [])) : G s.1 2 [(0, zrf E q0), (1, .int s.2)] [] := by
  refine zloop_walk (P := fun s => G s.1 2 [(0, zrf E q0), (1, .int s.2)] []) hk (fun s hk => ?_)
  unfold f_X11_startLabels_L2 at hk
  refine zr_iload_n h dX11_startLabels_2 1 rfl rfl ?_
  refine zr_aload_n h dX11_startLabels_3 0 rfl rfl ?_
  refine zr_alen h (by decide) hq0 dX11_startLabels_4 ?_
  refine zr_icmp_ge (tgt := 18) h dX11_startLabels_5 (by decide) (fun c => ?_) (fun c => ?_)
  · have hk := zOk_t c hk
    have hk := zOk_some hk
    exact zr_weak h [] rfl hk
  · have hk := zOk_f c hk
    refine zr_aload_n h dX11_startLabels_8 0 rfl rfl ?_
    refine zr_iload_n h dX11_startLabels_9 1 rfl rfl ?_
    refine zr_iload_n h dX11_startLabels_10 1 rfl rfl ?_
    have hb := zOk_chk hk
    have hk := hb.2
    refine zr_iast h hq0 hb.1 dX11_startLabels_11 ?_
    refine zr_mem (fun M_11 eM => ?_)
    have hk := zOk_bnd eM hk
    obtain ⟨x1_12, ex⟩ : ∃ y : Int32, y = s.2 + (zI 1) := ⟨_, rfl⟩
    have hk := zOk_bnd ex hk
    refine zr_iinc (v := x1_12) (L' := [(0, zrf E q0), (1, .int x1_12)]) h 1 [1, 0] dX11_startLabels_12 rfl (by rw [ex]; rfl) (by decide) rfl ?_
    refine zr_goto (tgt := 2) h dX11_startLabels_15 (by decide) ?_
    have hk := zOk_some hk
    exact zr_weak h [0, 1] rfl hk
noncomputable def f_X11_startLabels (q0 : Nat) (n0 : Nat) (M : ZMem) : Option ZMem := zbind (zloop (f_X11_startLabels_L2 q0 n0) (M, (zI 0))) (fun e2 => some e2)
set_option maxRecDepth 100000 in
set_option maxHeartbeats 4000000 in
theorem c_X11_startLabels {ly : List ZEnt} (E : ZEv) (q0 : Nat) (n0 : Nat) (hq0 : ly[q0]? = some (.inl (0, n0))) (M : ZMem) (K : ZMem → Prop) (hk : zOk (f_X11_startLabels q0 n0 M) K) : zCon ly E yX11_startLabels cX11_startLabels 2 none 0 [zrf E q0] M (zRv K) := by
  refine zcon_of (L0 := [(0, zrf E q0)]) (by decide) rfl (Nat.le_of_ble_eq_true rfl) (fun G h => ?_)
  have h : zRu ly E G (zRv K) cX11_startLabels RX11 2 none 0 := h
  unfold f_X11_startLabels at hk
  refine zr_iconst (v := (zI 0)) h dX11_startLabels_0 rfl ?_
  refine zr_istore_n (L' := [(0, zrf E q0), (1, .int (zI 0))]) h [1, 0] dX11_startLabels_1 rfl (by decide) rfl ?_
  refine w_X11_startLabels_L2 h q0 n0 hq0 (M, (zI 0)) (zOk_mono (zOk_bind hk) (fun e2 hk => ?_))
  have hk := zOk_some hk
  exact zr_vret h dX11_startLabels_18 ⟨rfl, hk⟩
theorem dX11_joinLabels_0 : decode cX11_joinLabels 0 = .ok (.iload_n 1, 1) := by decide +kernel
theorem dX11_joinLabels_1 : decode cX11_joinLabels 1 = .ok (.ifCond .lt 19, 3) := by decide +kernel
theorem dX11_joinLabels_4 : decode cX11_joinLabels 4 = .ok (.iload_n 2, 1) := by decide +kernel
theorem dX11_joinLabels_5 : decode cX11_joinLabels 5 = .ok (.ifCond .lt 15, 3) := by decide +kernel
theorem dX11_joinLabels_8 : decode cX11_joinLabels 8 = .ok (.iload_n 1, 1) := by decide +kernel
theorem dX11_joinLabels_9 : decode cX11_joinLabels 9 = .ok (.aload_n 0, 1) := by decide +kernel
theorem dX11_joinLabels_10 : decode cX11_joinLabels 10 = .ok (.arraylength, 1) := by decide +kernel
theorem dX11_joinLabels_11 : decode cX11_joinLabels 11 = .ok (.if_icmp .ge 9, 3) := by decide +kernel
theorem dX11_joinLabels_14 : decode cX11_joinLabels 14 = .ok (.iload_n 2, 1) := by decide +kernel
theorem dX11_joinLabels_15 : decode cX11_joinLabels 15 = .ok (.aload_n 0, 1) := by decide +kernel
theorem dX11_joinLabels_16 : decode cX11_joinLabels 16 = .ok (.arraylength, 1) := by decide +kernel
theorem dX11_joinLabels_17 : decode cX11_joinLabels 17 = .ok (.if_icmp .lt 5, 3) := by decide +kernel
theorem dX11_joinLabels_20 : decode cX11_joinLabels 20 = .ok (.iconst 0, 1) := by decide +kernel
theorem dX11_joinLabels_21 : decode cX11_joinLabels 21 = .ok (.ireturn, 1) := by decide +kernel
theorem dX11_joinLabels_22 : decode cX11_joinLabels 22 = .ok (.aload_n 0, 1) := by decide +kernel
theorem dX11_joinLabels_23 : decode cX11_joinLabels 23 = .ok (.iload_n 1, 1) := by decide +kernel
theorem dX11_joinLabels_24 : decode cX11_joinLabels 24 = .ok (.iaload, 1) := by decide +kernel
theorem dX11_joinLabels_25 : decode cX11_joinLabels 25 = .ok (.aload_n 0, 1) := by decide +kernel
theorem dX11_joinLabels_26 : decode cX11_joinLabels 26 = .ok (.iload_n 2, 1) := by decide +kernel
theorem dX11_joinLabels_27 : decode cX11_joinLabels 27 = .ok (.iaload, 1) := by decide +kernel
theorem dX11_joinLabels_28 : decode cX11_joinLabels 28 = .ok (.invokestatic 366, 3) := by decide +kernel
theorem dX11_joinLabels_31 : decode cX11_joinLabels 31 = .ok (.istore_n 3, 1) := by decide +kernel
theorem dX11_joinLabels_32 : decode cX11_joinLabels 32 = .ok (.aload_n 0, 1) := by decide +kernel
theorem dX11_joinLabels_33 : decode cX11_joinLabels 33 = .ok (.iload_n 1, 1) := by decide +kernel
theorem dX11_joinLabels_34 : decode cX11_joinLabels 34 = .ok (.iaload, 1) := by decide +kernel
theorem dX11_joinLabels_35 : decode cX11_joinLabels 35 = .ok (.aload_n 0, 1) := by decide +kernel
theorem dX11_joinLabels_36 : decode cX11_joinLabels 36 = .ok (.iload_n 2, 1) := by decide +kernel
theorem dX11_joinLabels_37 : decode cX11_joinLabels 37 = .ok (.iaload, 1) := by decide +kernel
theorem dX11_joinLabels_38 : decode cX11_joinLabels 38 = .ok (.invokestatic 371, 3) := by decide +kernel
theorem dX11_joinLabels_41 : decode cX11_joinLabels 41 = .ok (.istore 4, 2) := by decide +kernel
theorem dX11_joinLabels_43 : decode cX11_joinLabels 43 = .ok (.iload_n 3, 1) := by decide +kernel
theorem dX11_joinLabels_44 : decode cX11_joinLabels 44 = .ok (.iload 4, 2) := by decide +kernel
theorem dX11_joinLabels_46 : decode cX11_joinLabels 46 = .ok (.if_icmp .ne 5, 3) := by decide +kernel
theorem dX11_joinLabels_49 : decode cX11_joinLabels 49 = .ok (.iconst 0, 1) := by decide +kernel
theorem dX11_joinLabels_50 : decode cX11_joinLabels 50 = .ok (.ireturn, 1) := by decide +kernel
theorem dX11_joinLabels_51 : decode cX11_joinLabels 51 = .ok (.iconst 0, 1) := by decide +kernel
theorem dX11_joinLabels_52 : decode cX11_joinLabels 52 = .ok (.istore 5, 2) := by decide +kernel
theorem dX11_joinLabels_54 : decode cX11_joinLabels 54 = .ok (.iload 5, 2) := by decide +kernel
theorem dX11_joinLabels_56 : decode cX11_joinLabels 56 = .ok (.aload_n 0, 1) := by decide +kernel
theorem dX11_joinLabels_57 : decode cX11_joinLabels 57 = .ok (.arraylength, 1) := by decide +kernel
theorem dX11_joinLabels_58 : decode cX11_joinLabels 58 = .ok (.if_icmp .ge 23, 3) := by decide +kernel
theorem dX11_joinLabels_61 : decode cX11_joinLabels 61 = .ok (.aload_n 0, 1) := by decide +kernel
theorem dX11_joinLabels_62 : decode cX11_joinLabels 62 = .ok (.iload 5, 2) := by decide +kernel
theorem dX11_joinLabels_64 : decode cX11_joinLabels 64 = .ok (.iaload, 1) := by decide +kernel
theorem dX11_joinLabels_65 : decode cX11_joinLabels 65 = .ok (.iload 4, 2) := by decide +kernel
theorem dX11_joinLabels_67 : decode cX11_joinLabels 67 = .ok (.if_icmp .ne 8, 3) := by decide +kernel
theorem dX11_joinLabels_70 : decode cX11_joinLabels 70 = .ok (.aload_n 0, 1) := by decide +kernel
theorem dX11_joinLabels_71 : decode cX11_joinLabels 71 = .ok (.iload 5, 2) := by decide +kernel
theorem dX11_joinLabels_73 : decode cX11_joinLabels 73 = .ok (.iload_n 3, 1) := by decide +kernel
theorem dX11_joinLabels_74 : decode cX11_joinLabels 74 = .ok (.iastore, 1) := by decide +kernel
theorem dX11_joinLabels_75 : decode cX11_joinLabels 75 = .ok (.iinc 5 1, 3) := by decide +kernel
theorem dX11_joinLabels_78 : decode cX11_joinLabels 78 = .ok (.goto (-24), 3) := by decide +kernel
theorem dX11_joinLabels_81 : decode cX11_joinLabels 81 = .ok (.iconst 1, 1) := by decide +kernel
theorem dX11_joinLabels_82 : decode cX11_joinLabels 82 = .ok (.ireturn, 1) := by decide +kernel
noncomputable def f_X11_joinLabels_L54 (q0 : Nat) (n0 : Nat) (x3 : Int32) (x4 : Int32) (s : (ZMem × Int32)) : Option ((ZMem × Int32) ⊕ (ZMem)) := if (zI n0) ≤ s.2 then some (.inr s.1) else zchk (zin s.2 n0) (if (s.1.1 q0 (zix s.2)) = x4 then zchk (zin s.2 n0) (zbnd (zstI s.1 q0 (zix s.2) x3) (fun M_74 => zbnd (s.2 + (zI 1)) (fun x5_75 => some (.inl (M_74, x5_75))))) else zbnd (s.2 + (zI 1)) (fun x5_75 => some (.inl (s.1, x5_75))))
set_option maxRecDepth 100000 in
set_option maxHeartbeats 4000000 in
theorem w_X11_joinLabels_L54 {ly : List ZEnt} {E : ZEv} {G : ZG} {K : (ZMem × Int32) → Prop} (h : zRu ly E G (zRm K) cX11_joinLabels RX11 6 (some .boolean) 0) (q0 : Nat) (n0 : Nat) (hq0 : ly[q0]? = some (.inl (0, n0))) (x3 : Int32) (x4 : Int32) (s : (ZMem × Int32)) (hk : zOk (zloop (f_X11_joinLabels_L54 q0 n0 x3 x4) s) (fun e => G e 81 [] [])) : G s.1 54 [(0, zrf E q0), (3, .int x3), (4, .int x4), (5, .int s.2)] [] := by
  refine zloop_walk (P := fun s => G s.1 54 [(0, zrf E q0), (3, .int x3), (4, .int x4), (5, .int s.2)] []) hk (fun s hk => ?_)
  unfold f_X11_joinLabels_L54 at hk
  refine zr_iload h dX11_joinLabels_54 3 rfl ?_
  refine zr_aload_n h dX11_joinLabels_56 0 rfl rfl ?_
  refine zr_alen h (by decide) hq0 dX11_joinLabels_57 ?_
  refine zr_icmp_ge (tgt := 81) h dX11_joinLabels_58 (by decide) (fun c => ?_) (fun c => ?_)
  · have hk := zOk_t c hk
    have hk := zOk_some hk
    exact zr_weak h [] rfl hk
  · have hk := zOk_f c hk
    refine zr_aload_n h dX11_joinLabels_61 0 rfl rfl ?_
    refine zr_iload h dX11_joinLabels_62 3 rfl ?_
    have hb := zOk_chk hk
    have hk := hb.2
    refine zr_iald h hq0 hb.1 dX11_joinLabels_64 ?_
    refine zr_iload h dX11_joinLabels_65 2 rfl ?_
    refine zr_icmp_ne (tgt := 75) h dX11_joinLabels_67 (by decide) (fun c => ?_) (fun c => ?_)
    · have hk := zOk_t c hk
      refine zr_aload_n h dX11_joinLabels_70 0 rfl rfl ?_
      refine zr_iload h dX11_joinLabels_71 3 rfl ?_
      refine zr_iload_n h dX11_joinLabels_73 1 rfl rfl ?_
      have hb := zOk_chk hk
      have hk := hb.2
      refine zr_iast h hq0 hb.1 dX11_joinLabels_74 ?_
      refine zr_mem (fun M_74 eM => ?_)
      have hk := zOk_bnd eM hk
      obtain ⟨x5_75, ex⟩ : ∃ y : Int32, y = s.2 + (zI 1) := ⟨_, rfl⟩
      have hk := zOk_bnd ex hk
      refine zr_iinc (v := x5_75) (L' := [(0, zrf E q0), (3, .int x3), (4, .int x4), (5, .int x5_75)]) h 3 [1, 2, 3, 0] dX11_joinLabels_75 rfl (by rw [ex]; rfl) (by decide) rfl ?_
      refine zr_goto (tgt := 54) h dX11_joinLabels_78 (by decide) ?_
      have hk := zOk_some hk
      exact zr_weak h [0, 1, 2, 3] rfl hk
    · have hk := zOk_f c hk
      obtain ⟨x5_75, ex⟩ : ∃ y : Int32, y = s.2 + (zI 1) := ⟨_, rfl⟩
      have hk := zOk_bnd ex hk
      refine zr_iinc (v := x5_75) (L' := [(0, zrf E q0), (3, .int x3), (4, .int x4), (5, .int x5_75)]) h 3 [1, 2, 3, 0] dX11_joinLabels_75 rfl (by rw [ex]; rfl) (by decide) rfl ?_
      refine zr_goto (tgt := 54) h dX11_joinLabels_78 (by decide) ?_
      have hk := zOk_some hk
      exact zr_weak h [0, 1, 2, 3] rfl hk
noncomputable def f_X11_joinLabels (q0 : Nat) (n0 : Nat) (M : ZMem) (x1 : Int32) (x2 : Int32) : Option (ZMem × Int32) := if x1 < (zI 0) then some (M, (zI 0)) else if x2 < (zI 0) then some (M, (zI 0)) else if (zI n0) ≤ x1 then some (M, (zI 0)) else if x2 < (zI n0) then zchk (zin x1 n0) (zchk (zin x2 n0) (zbnd (if (M.1 q0 (zix x2)) < (M.1 q0 (zix x1)) then (M.1 q0 (zix x2)) else (M.1 q0 (zix x1))) (fun x3_31 => zchk (zin x1 n0) (zchk (zin x2 n0) (zbnd (if (M.1 q0 (zix x1)) < (M.1 q0 (zix x2)) then (M.1 q0 (zix x2)) else (M.1 q0 (zix x1))) (fun x4_41 => if x3_31 = x4_41 then some (M, (zI 0)) else zbind (zloop (f_X11_joinLabels_L54 q0 n0 x3_31 x4_41) (M, (zI 0))) (fun e54 => some (e54, (zI 1))))))))) else some (M, (zI 0))
set_option maxRecDepth 100000 in
set_option maxHeartbeats 4000000 in
theorem c_X11_joinLabels {ly : List ZEnt} (E : ZEv) (q0 : Nat) (n0 : Nat) (hq0 : ly[q0]? = some (.inl (0, n0))) (M : ZMem) (x1 : Int32) (x2 : Int32) (K : ZMem × Int32 → Prop) (hk : zOk (f_X11_joinLabels q0 n0 M x1 x2) K) : zCon ly E yX11_joinLabels cX11_joinLabels 6 (some .boolean) 0 [zrf E q0, .int x1, .int x2] M (zRm K) := by
  refine zcon_of (L0 := [(0, zrf E q0), (1, .int x1), (2, .int x2)]) (by decide) rfl (Nat.le_of_ble_eq_true rfl) (fun G h => ?_)
  have h : zRu ly E G (zRm K) cX11_joinLabels RX11 6 (some .boolean) 0 := h
  unfold f_X11_joinLabels at hk
  refine zr_iload_n h dX11_joinLabels_0 1 rfl rfl ?_
  refine zr_if_lt (tgt := 20) h dX11_joinLabels_1 (by decide) (fun c => ?_) (fun c => ?_)
  · have hk := zOk_t c hk
    refine zr_iconst (v := (zI 0)) h dX11_joinLabels_20 rfl ?_
    have hk := zOk_some hk
    exact zr_zret h dX11_joinLabels_21 (by decide) ⟨_, rfl, hk⟩
  · have hk := zOk_f c hk
    refine zr_iload_n h dX11_joinLabels_4 2 rfl rfl ?_
    refine zr_if_lt (tgt := 20) h dX11_joinLabels_5 (by decide) (fun c => ?_) (fun c => ?_)
    · have hk := zOk_t c hk
      refine zr_iconst (v := (zI 0)) h dX11_joinLabels_20 rfl ?_
      have hk := zOk_some hk
      exact zr_zret h dX11_joinLabels_21 (by decide) ⟨_, rfl, hk⟩
    · have hk := zOk_f c hk
      refine zr_iload_n h dX11_joinLabels_8 1 rfl rfl ?_
      refine zr_aload_n h dX11_joinLabels_9 0 rfl rfl ?_
      refine zr_alen h (by decide) hq0 dX11_joinLabels_10 ?_
      refine zr_icmp_ge (tgt := 20) h dX11_joinLabels_11 (by decide) (fun c => ?_) (fun c => ?_)
      · have hk := zOk_t c hk
        refine zr_iconst (v := (zI 0)) h dX11_joinLabels_20 rfl ?_
        have hk := zOk_some hk
        exact zr_zret h dX11_joinLabels_21 (by decide) ⟨_, rfl, hk⟩
      · have hk := zOk_f c hk
        refine zr_iload_n h dX11_joinLabels_14 2 rfl rfl ?_
        refine zr_aload_n h dX11_joinLabels_15 0 rfl rfl ?_
        refine zr_alen h (by decide) hq0 dX11_joinLabels_16 ?_
        refine zr_icmp_lt (tgt := 22) h dX11_joinLabels_17 (by decide) (fun c => ?_) (fun c => ?_)
        · have hk := zOk_t c hk
          refine zr_aload_n h dX11_joinLabels_22 0 rfl rfl ?_
          refine zr_iload_n h dX11_joinLabels_23 1 rfl rfl ?_
          have hb := zOk_chk hk
          have hk := hb.2
          refine zr_iald h hq0 hb.1 dX11_joinLabels_24 ?_
          refine zr_aload_n h dX11_joinLabels_25 0 rfl rfl ?_
          refine zr_iload_n h dX11_joinLabels_26 2 rfl rfl ?_
          have hb := zOk_chk hk
          have hk := hb.2
          refine zr_iald h hq0 hb.1 dX11_joinLabels_27 ?_
          refine zr_mmin h (zm_13 _ (List.mem_of_getElem? (i := 8) rfl)) (zm_12 _ (List.mem_of_getElem? (i := 11) rfl)) (zm_12 _ (List.mem_of_getElem? (i := 12) rfl)) (zm_12 _ (List.mem_of_getElem? (i := 13) rfl)) (Nat.le_of_ble_eq_true rfl) dX11_joinLabels_28 ?_
          refine zr_topi (fun x3_31 ex => ?_)
          have hk := zOk_bnd ex hk
          refine zr_istore_n (L' := [(0, zrf E q0), (1, .int x1), (2, .int x2), (3, .int x3_31)]) h [1, 2, 3, 0] dX11_joinLabels_31 rfl (by decide) rfl ?_
          refine zr_aload_n h dX11_joinLabels_32 0 rfl rfl ?_
          refine zr_iload_n h dX11_joinLabels_33 1 rfl rfl ?_
          have hb := zOk_chk hk
          have hk := hb.2
          refine zr_iald h hq0 hb.1 dX11_joinLabels_34 ?_
          refine zr_aload_n h dX11_joinLabels_35 0 rfl rfl ?_
          refine zr_iload_n h dX11_joinLabels_36 2 rfl rfl ?_
          have hb := zOk_chk hk
          have hk := hb.2
          refine zr_iald h hq0 hb.1 dX11_joinLabels_37 ?_
          refine zr_mmax h (zm_13 _ (List.mem_of_getElem? (i := 9) rfl)) (zm_13 _ (List.mem_of_getElem? (i := 10) rfl)) (zm_12 _ (List.mem_of_getElem? (i := 12) rfl)) (zm_13 _ (List.mem_of_getElem? (i := 11) rfl)) (Nat.le_of_ble_eq_true rfl) dX11_joinLabels_38 ?_
          refine zr_topi (fun x4_41 ex => ?_)
          have hk := zOk_bnd ex hk
          refine zr_istore (L' := [(0, zrf E q0), (3, .int x3_31), (4, .int x4_41)]) h [1, 4, 0] dX11_joinLabels_41 (by decide) rfl ?_
          refine zr_iload_n h dX11_joinLabels_43 1 rfl rfl ?_
          refine zr_iload h dX11_joinLabels_44 2 rfl ?_
          refine zr_icmp_ne (tgt := 51) h dX11_joinLabels_46 (by decide) (fun c => ?_) (fun c => ?_)
          · have hk := zOk_t c hk
            refine zr_iconst (v := (zI 0)) h dX11_joinLabels_49 rfl ?_
            have hk := zOk_some hk
            exact zr_zret h dX11_joinLabels_50 (by decide) ⟨_, rfl, hk⟩
          · have hk := zOk_f c hk
            refine zr_iconst (v := (zI 0)) h dX11_joinLabels_51 rfl ?_
            refine zr_istore (L' := [(0, zrf E q0), (3, .int x3_31), (4, .int x4_41), (5, .int (zI 0))]) h [1, 2, 3, 0] dX11_joinLabels_52 (by decide) rfl ?_
            refine w_X11_joinLabels_L54 h q0 n0 hq0 x3_31 x4_41 (M, (zI 0)) (zOk_mono (zOk_bind hk) (fun e54 hk => ?_))
            refine zr_iconst (v := (zI 1)) h dX11_joinLabels_81 rfl ?_
            have hk := zOk_some hk
            exact zr_zret h dX11_joinLabels_82 (by decide) ⟨_, rfl, hk⟩
        · have hk := zOk_f c hk
          refine zr_iconst (v := (zI 0)) h dX11_joinLabels_20 rfl ?_
          have hk := zOk_some hk
          exact zr_zret h dX11_joinLabels_21 (by decide) ⟨_, rfl, hk⟩
theorem dX11_faultAt_0 : decode cX11_faultAt 0 = .ok (.bipush (-2), 2) := by decide +kernel
theorem dX11_faultAt_2 : decode cX11_faultAt 2 = .ok (.bipush 8, 2) := by decide +kernel
theorem dX11_faultAt_4 : decode cX11_faultAt 4 = .ok (.iload_n 0, 1) := by decide +kernel
theorem dX11_faultAt_5 : decode cX11_faultAt 5 = .ok (.imul, 1) := by decide +kernel
theorem dX11_faultAt_6 : decode cX11_faultAt 6 = .ok (.iload_n 1, 1) := by decide +kernel
theorem dX11_faultAt_7 : decode cX11_faultAt 7 = .ok (.iadd, 1) := by decide +kernel
theorem dX11_faultAt_8 : decode cX11_faultAt 8 = .ok (.isub, 1) := by decide +kernel
theorem dX11_faultAt_9 : decode cX11_faultAt 9 = .ok (.ireturn, 1) := by decide +kernel
noncomputable def f_X11_faultAt (M : ZMem) (x0 : Int32) (x1 : Int32) : Option Int32 := some ((zI (-2)) - (((zI 8) * x0) + x1))
set_option maxRecDepth 100000 in
set_option maxHeartbeats 4000000 in
theorem c_X11_faultAt {ly : List ZEnt} (E : ZEv) (M : ZMem) (x0 : Int32) (x1 : Int32) (K : Int32 → Prop) (hk : zOk (f_X11_faultAt M x0 x1) K) : zCon ly E yX11_faultAt cX11_faultAt 2 (some .int) 0 [.int x0, .int x1] M (zRp M K) := by
  refine zcon_of (L0 := [(0, .int x0), (1, .int x1)]) (by decide) rfl (Nat.le_of_ble_eq_true rfl) (fun G h => ?_)
  have h : zRu ly E G (zRp M K) cX11_faultAt RX11 2 (some .int) 0 := h
  unfold f_X11_faultAt at hk
  refine zr_bipush (v := (zI (-2))) h dX11_faultAt_0 (by decide) ?_
  refine zr_bipush (v := (zI 8)) h dX11_faultAt_2 (by decide) ?_
  refine zr_iload_n h dX11_faultAt_4 0 rfl rfl ?_
  refine zr_imul h dX11_faultAt_5 ?_
  refine zr_iload_n h dX11_faultAt_6 1 rfl rfl ?_
  refine zr_iadd h dX11_faultAt_7 ?_
  refine zr_isub h dX11_faultAt_8 ?_
  have hk := zOk_some hk
  exact zr_iret h dX11_faultAt_9 ⟨rfl, _, rfl, hk⟩
theorem dX11_letterOf_0 : decode cX11_letterOf 0 = .ok (.iload_n 0, 1) := by decide +kernel
theorem dX11_letterOf_1 : decode cX11_letterOf 1 = .ok (.bipush 97, 2) := by decide +kernel
theorem dX11_letterOf_3 : decode cX11_letterOf 3 = .ok (.if_icmp .lt 16, 3) := by decide +kernel
theorem dX11_letterOf_6 : decode cX11_letterOf 6 = .ok (.iload_n 0, 1) := by decide +kernel
theorem dX11_letterOf_7 : decode cX11_letterOf 7 = .ok (.bipush 122, 2) := by decide +kernel
theorem dX11_letterOf_9 : decode cX11_letterOf 9 = .ok (.if_icmp .gt 10, 3) := by decide +kernel
theorem dX11_letterOf_12 : decode cX11_letterOf 12 = .ok (.iload_n 0, 1) := by decide +kernel
theorem dX11_letterOf_13 : decode cX11_letterOf 13 = .ok (.bipush 97, 2) := by decide +kernel
theorem dX11_letterOf_15 : decode cX11_letterOf 15 = .ok (.isub, 1) := by decide +kernel
theorem dX11_letterOf_16 : decode cX11_letterOf 16 = .ok (.goto 4, 3) := by decide +kernel
theorem dX11_letterOf_19 : decode cX11_letterOf 19 = .ok (.iconst (-1), 1) := by decide +kernel
theorem dX11_letterOf_20 : decode cX11_letterOf 20 = .ok (.ireturn, 1) := by decide +kernel
noncomputable def f_X11_letterOf (M : ZMem) (x0 : Int32) : Option Int32 := if x0 < (zI 97) then some (zI (-1)) else if (zI 122) < x0 then some (zI (-1)) else some (x0 - (zI 97))
set_option maxRecDepth 100000 in
set_option maxHeartbeats 4000000 in
theorem c_X11_letterOf {ly : List ZEnt} (E : ZEv) (M : ZMem) (x0 : Int32) (K : Int32 → Prop) (hk : zOk (f_X11_letterOf M x0) K) : zCon ly E yX11_letterOf cX11_letterOf 1 (some .int) 0 [.int x0] M (zRp M K) := by
  refine zcon_of (L0 := [(0, .int x0)]) (by decide) rfl (Nat.le_of_ble_eq_true rfl) (fun G h => ?_)
  have h : zRu ly E G (zRp M K) cX11_letterOf RX11 1 (some .int) 0 := h
  unfold f_X11_letterOf at hk
  refine zr_iload_n h dX11_letterOf_0 0 rfl rfl ?_
  refine zr_bipush (v := (zI 97)) h dX11_letterOf_1 (by decide) ?_
  refine zr_icmp_lt (tgt := 19) h dX11_letterOf_3 (by decide) (fun c => ?_) (fun c => ?_)
  · have hk := zOk_t c hk
    refine zr_iconst (v := (zI (-1))) h dX11_letterOf_19 rfl ?_
    have hk := zOk_some hk
    exact zr_iret h dX11_letterOf_20 ⟨rfl, _, rfl, hk⟩
  · have hk := zOk_f c hk
    refine zr_iload_n h dX11_letterOf_6 0 rfl rfl ?_
    refine zr_bipush (v := (zI 122)) h dX11_letterOf_7 (by decide) ?_
    refine zr_icmp_gt (tgt := 19) h dX11_letterOf_9 (by decide) (fun c => ?_) (fun c => ?_)
    · have hk := zOk_t c hk
      refine zr_iconst (v := (zI (-1))) h dX11_letterOf_19 rfl ?_
      have hk := zOk_some hk
      exact zr_iret h dX11_letterOf_20 ⟨rfl, _, rfl, hk⟩
    · have hk := zOk_f c hk
      refine zr_iload_n h dX11_letterOf_12 0 rfl rfl ?_
      refine zr_bipush (v := (zI 97)) h dX11_letterOf_13 (by decide) ?_
      refine zr_isub h dX11_letterOf_15 ?_
      refine zr_goto (tgt := 20) h dX11_letterOf_16 (by decide) ?_
      have hk := zOk_some hk
      exact zr_iret h dX11_letterOf_20 ⟨rfl, _, rfl, hk⟩
theorem dX11_syllableOf_0 : decode cX11_syllableOf 0 = .ok (.iload_n 0, 1) := by decide +kernel
theorem dX11_syllableOf_1 : decode cX11_syllableOf 1 = .ok (.iconst (-1), 1) := by decide +kernel
theorem dX11_syllableOf_2 : decode cX11_syllableOf 2 = .ok (.if_icmp .ne 10, 3) := by decide +kernel
theorem dX11_syllableOf_5 : decode cX11_syllableOf 5 = .ok (.iload_n 1, 1) := by decide +kernel
theorem dX11_syllableOf_6 : decode cX11_syllableOf 6 = .ok (.iconst (-1), 1) := by decide +kernel
theorem dX11_syllableOf_7 : decode cX11_syllableOf 7 = .ok (.if_icmp .ne 5, 3) := by decide +kernel
theorem dX11_syllableOf_10 : decode cX11_syllableOf 10 = .ok (.iconst (-1), 1) := by decide +kernel
theorem dX11_syllableOf_11 : decode cX11_syllableOf 11 = .ok (.ireturn, 1) := by decide +kernel
theorem dX11_syllableOf_12 : decode cX11_syllableOf 12 = .ok (.iload_n 0, 1) := by decide +kernel
theorem dX11_syllableOf_13 : decode cX11_syllableOf 13 = .ok (.ifCond .lt 22, 3) := by decide +kernel
theorem dX11_syllableOf_16 : decode cX11_syllableOf 16 = .ok (.iload_n 0, 1) := by decide +kernel
theorem dX11_syllableOf_17 : decode cX11_syllableOf 17 = .ok (.bipush 10, 2) := by decide +kernel
theorem dX11_syllableOf_19 : decode cX11_syllableOf 19 = .ok (.if_icmp .ge 16, 3) := by decide +kernel
theorem dX11_syllableOf_22 : decode cX11_syllableOf 22 = .ok (.iload_n 1, 1) := by decide +kernel
theorem dX11_syllableOf_23 : decode cX11_syllableOf 23 = .ok (.ifCond .lt 12, 3) := by decide +kernel
theorem dX11_syllableOf_26 : decode cX11_syllableOf 26 = .ok (.iload_n 1, 1) := by decide +kernel
theorem dX11_syllableOf_27 : decode cX11_syllableOf 27 = .ok (.iconst 5, 1) := by decide +kernel
theorem dX11_syllableOf_28 : decode cX11_syllableOf 28 = .ok (.if_icmp .ge 7, 3) := by decide +kernel
theorem dX11_syllableOf_31 : decode cX11_syllableOf 31 = .ok (.iconst 1, 1) := by decide +kernel
theorem dX11_syllableOf_32 : decode cX11_syllableOf 32 = .ok (.goto 4, 3) := by decide +kernel
theorem dX11_syllableOf_35 : decode cX11_syllableOf 35 = .ok (.iconst 0, 1) := by decide +kernel
theorem dX11_syllableOf_36 : decode cX11_syllableOf 36 = .ok (.istore_n 2, 1) := by decide +kernel
theorem dX11_syllableOf_37 : decode cX11_syllableOf 37 = .ok (.iload_n 2, 1) := by decide +kernel
theorem dX11_syllableOf_38 : decode cX11_syllableOf 38 = .ok (.ifCond .eq 11, 3) := by decide +kernel
theorem dX11_syllableOf_41 : decode cX11_syllableOf 41 = .ok (.iload_n 0, 1) := by decide +kernel
theorem dX11_syllableOf_42 : decode cX11_syllableOf 42 = .ok (.iconst 5, 1) := by decide +kernel
theorem dX11_syllableOf_43 : decode cX11_syllableOf 43 = .ok (.imul, 1) := by decide +kernel
theorem dX11_syllableOf_44 : decode cX11_syllableOf 44 = .ok (.iload_n 1, 1) := by decide +kernel
theorem dX11_syllableOf_45 : decode cX11_syllableOf 45 = .ok (.iadd, 1) := by decide +kernel
theorem dX11_syllableOf_46 : decode cX11_syllableOf 46 = .ok (.goto 5, 3) := by decide +kernel
theorem dX11_syllableOf_49 : decode cX11_syllableOf 49 = .ok (.bipush (-2), 2) := by decide +kernel
theorem dX11_syllableOf_51 : decode cX11_syllableOf 51 = .ok (.ireturn, 1) := by decide +kernel
noncomputable def f_X11_syllableOf_36 (M : ZMem) (x0 : Int32) (x1 : Int32) (v0 : Int32) : Option Int32 := if v0 = (zI 0) then some (zI (-2)) else some ((x0 * (zI 5)) + x1)
set_option maxRecDepth 100000 in
set_option maxHeartbeats 4000000 in
theorem w_X11_syllableOf_36 {ly : List ZEnt} {E : ZEv} {G : ZG} {K : Int32 → Prop} (M : ZMem) (h : zRu ly E G (zRp M K) cX11_syllableOf RX11 3 (some .int) 0) (x0 : Int32) (x1 : Int32) (v0 : Int32) (hk : zOk (f_X11_syllableOf_36 M x0 x1 v0) K) : G M 36 [(0, .int x0), (1, .int x1)] [.int v0] := by
  unfold f_X11_syllableOf_36 at hk
  refine zr_istore_n (L' := [(0, .int x0), (1, .int x1), (2, .int v0)]) h [1, 2, 0] dX11_syllableOf_36 rfl (by decide) rfl ?_
  refine zr_iload_n h dX11_syllableOf_37 2 rfl rfl ?_
  refine zr_if_eq (tgt := 49) h dX11_syllableOf_38 (by decide) (fun c => ?_) (fun c => ?_)
  · have hk := zOk_t c hk
    refine zr_bipush (v := (zI (-2))) h dX11_syllableOf_49 (by decide) ?_
    have hk := zOk_some hk
    exact zr_iret h dX11_syllableOf_51 ⟨rfl, _, rfl, hk⟩
  · have hk := zOk_f c hk
    refine zr_iload_n h dX11_syllableOf_41 0 rfl rfl ?_
    refine zr_iconst (v := (zI 5)) h dX11_syllableOf_42 rfl ?_
    refine zr_imul h dX11_syllableOf_43 ?_
    refine zr_iload_n h dX11_syllableOf_44 1 rfl rfl ?_
    refine zr_iadd h dX11_syllableOf_45 ?_
    refine zr_goto (tgt := 51) h dX11_syllableOf_46 (by decide) ?_
    have hk := zOk_some hk
    exact zr_iret h dX11_syllableOf_51 ⟨rfl, _, rfl, hk⟩
noncomputable def f_X11_syllableOf_35 (M : ZMem) (x0 : Int32) (x1 : Int32) : Option Int32 := f_X11_syllableOf_36 M x0 x1 (zI 0)
set_option maxRecDepth 100000 in
set_option maxHeartbeats 4000000 in
theorem w_X11_syllableOf_35 {ly : List ZEnt} {E : ZEv} {G : ZG} {K : Int32 → Prop} (M : ZMem) (h : zRu ly E G (zRp M K) cX11_syllableOf RX11 3 (some .int) 0) (x0 : Int32) (x1 : Int32) (hk : zOk (f_X11_syllableOf_35 M x0 x1) K) : G M 35 [(0, .int x0), (1, .int x1)] [] := by
  unfold f_X11_syllableOf_35 at hk
  refine zr_iconst (v := (zI 0)) h dX11_syllableOf_35 rfl ?_
  exact w_X11_syllableOf_36 M h x0 x1 (zI 0) hk
noncomputable def f_X11_syllableOf_12 (M : ZMem) (x0 : Int32) (x1 : Int32) : Option Int32 := if x0 < (zI 0) then f_X11_syllableOf_35 M x0 x1 else if (zI 10) ≤ x0 then f_X11_syllableOf_35 M x0 x1 else if x1 < (zI 0) then f_X11_syllableOf_35 M x0 x1 else if (zI 5) ≤ x1 then f_X11_syllableOf_35 M x0 x1 else f_X11_syllableOf_36 M x0 x1 (zI 1)
set_option maxRecDepth 100000 in
set_option maxHeartbeats 4000000 in
theorem w_X11_syllableOf_12 {ly : List ZEnt} {E : ZEv} {G : ZG} {K : Int32 → Prop} (M : ZMem) (h : zRu ly E G (zRp M K) cX11_syllableOf RX11 3 (some .int) 0) (x0 : Int32) (x1 : Int32) (hk : zOk (f_X11_syllableOf_12 M x0 x1) K) : G M 12 [(0, .int x0), (1, .int x1)] [] := by
  unfold f_X11_syllableOf_12 at hk
  refine zr_iload_n h dX11_syllableOf_12 0 rfl rfl ?_
  refine zr_if_lt (tgt := 35) h dX11_syllableOf_13 (by decide) (fun c => ?_) (fun c => ?_)
  · have hk := zOk_t c hk
    exact w_X11_syllableOf_35 M h x0 x1 hk
  · have hk := zOk_f c hk
    refine zr_iload_n h dX11_syllableOf_16 0 rfl rfl ?_
    refine zr_bipush (v := (zI 10)) h dX11_syllableOf_17 (by decide) ?_
    refine zr_icmp_ge (tgt := 35) h dX11_syllableOf_19 (by decide) (fun c => ?_) (fun c => ?_)
    · have hk := zOk_t c hk
      exact w_X11_syllableOf_35 M h x0 x1 hk
    · have hk := zOk_f c hk
      refine zr_iload_n h dX11_syllableOf_22 1 rfl rfl ?_
      refine zr_if_lt (tgt := 35) h dX11_syllableOf_23 (by decide) (fun c => ?_) (fun c => ?_)
      · have hk := zOk_t c hk
        exact w_X11_syllableOf_35 M h x0 x1 hk
      · have hk := zOk_f c hk
        refine zr_iload_n h dX11_syllableOf_26 1 rfl rfl ?_
        refine zr_iconst (v := (zI 5)) h dX11_syllableOf_27 rfl ?_
        refine zr_icmp_ge (tgt := 35) h dX11_syllableOf_28 (by decide) (fun c => ?_) (fun c => ?_)
        · have hk := zOk_t c hk
          exact w_X11_syllableOf_35 M h x0 x1 hk
        · have hk := zOk_f c hk
          refine zr_iconst (v := (zI 1)) h dX11_syllableOf_31 rfl ?_
          refine zr_goto (tgt := 36) h dX11_syllableOf_32 (by decide) ?_
          exact w_X11_syllableOf_36 M h x0 x1 (zI 1) hk
noncomputable def f_X11_syllableOf (M : ZMem) (x0 : Int32) (x1 : Int32) : Option Int32 := if x0 = (zI (-1)) then if x1 = (zI (-1)) then some (zI (-1)) else f_X11_syllableOf_12 M x0 x1 else f_X11_syllableOf_12 M x0 x1
set_option maxRecDepth 100000 in
set_option maxHeartbeats 4000000 in
theorem c_X11_syllableOf {ly : List ZEnt} (E : ZEv) (M : ZMem) (x0 : Int32) (x1 : Int32) (K : Int32 → Prop) (hk : zOk (f_X11_syllableOf M x0 x1) K) : zCon ly E yX11_syllableOf cX11_syllableOf 3 (some .int) 0 [.int x0, .int x1] M (zRp M K) := by
  refine zcon_of (L0 := [(0, .int x0), (1, .int x1)]) (by decide) rfl (Nat.le_of_ble_eq_true rfl) (fun G h => ?_)
  have h : zRu ly E G (zRp M K) cX11_syllableOf RX11 3 (some .int) 0 := h
  unfold f_X11_syllableOf at hk
  refine zr_iload_n h dX11_syllableOf_0 0 rfl rfl ?_
  refine zr_iconst (v := (zI (-1))) h dX11_syllableOf_1 rfl ?_
  refine zr_icmp_ne (tgt := 12) h dX11_syllableOf_2 (by decide) (fun c => ?_) (fun c => ?_)
  · have hk := zOk_t c hk
    refine zr_iload_n h dX11_syllableOf_5 1 rfl rfl ?_
    refine zr_iconst (v := (zI (-1))) h dX11_syllableOf_6 rfl ?_
    refine zr_icmp_ne (tgt := 12) h dX11_syllableOf_7 (by decide) (fun c => ?_) (fun c => ?_)
    · have hk := zOk_t c hk
      refine zr_iconst (v := (zI (-1))) h dX11_syllableOf_10 rfl ?_
      have hk := zOk_some hk
      exact zr_iret h dX11_syllableOf_11 ⟨rfl, _, rfl, hk⟩
    · have hk := zOk_f c hk
      exact w_X11_syllableOf_12 M h x0 x1 hk
  · have hk := zOk_f c hk
    exact w_X11_syllableOf_12 M h x0 x1 hk
theorem dX8_byteAt_0 : decode cX8_byteAt 0 = .ok (.iload_n 1, 1) := by decide +kernel
theorem dX8_byteAt_1 : decode cX8_byteAt 1 = .ok (.ifCond .lt 20, 3) := by decide +kernel
theorem dX8_byteAt_4 : decode cX8_byteAt 4 = .ok (.iload_n 1, 1) := by decide +kernel
theorem dX8_byteAt_5 : decode cX8_byteAt 5 = .ok (.aload_n 0, 1) := by decide +kernel
theorem dX8_byteAt_6 : decode cX8_byteAt 6 = .ok (.getfield 15, 3) := by decide +kernel
theorem dX8_byteAt_9 : decode cX8_byteAt 9 = .ok (.if_icmp .ge 12, 3) := by decide +kernel
theorem dX8_byteAt_12 : decode cX8_byteAt 12 = .ok (.aload_n 0, 1) := by decide +kernel
theorem dX8_byteAt_13 : decode cX8_byteAt 13 = .ok (.getfield 9, 3) := by decide +kernel
theorem dX8_byteAt_16 : decode cX8_byteAt 16 = .ok (.iload_n 1, 1) := by decide +kernel
theorem dX8_byteAt_17 : decode cX8_byteAt 17 = .ok (.iaload, 1) := by decide +kernel
theorem dX8_byteAt_18 : decode cX8_byteAt 18 = .ok (.goto 4, 3) := by decide +kernel
theorem dX8_byteAt_21 : decode cX8_byteAt 21 = .ok (.iconst (-1), 1) := by decide +kernel
theorem dX8_byteAt_22 : decode cX8_byteAt 22 = .ok (.ireturn, 1) := by decide +kernel
noncomputable def f_X8_byteAt (M : ZMem) (x1 : Int32) : Option Int32 := if x1 < (zI 0) then some (zI (-1)) else if (M.1 1 1) ≤ x1 then some (zI (-1)) else zchk (zin x1 300) (some (M.1 2 (zix x1)))
set_option maxRecDepth 100000 in
set_option maxHeartbeats 4000000 in
theorem c_X8_byteAt (E : ZEv) (M : ZMem) (x1 : Int32) (K : Int32 → Prop) (hk : zOk (f_X8_byteAt M x1) K) : zCon lyC E yX8_byteAt cX8_byteAt 2 (some .int) 0 [zrf E 1, .int x1] M (zRp M K) := by
  refine zcon_of (L0 := [(0, zrf E 1), (1, .int x1)]) (by decide) rfl (Nat.le_of_ble_eq_true rfl) (fun G h => ?_)
  have h : zRu lyC E G (zRp M K) cX8_byteAt RX8 2 (some .int) 0 := h
  unfold f_X8_byteAt at hk
  refine zr_iload_n h dX8_byteAt_0 1 rfl rfl ?_
  refine zr_if_lt (tgt := 21) h dX8_byteAt_1 (by decide) (fun c => ?_) (fun c => ?_)
  · have hk := zOk_t c hk
    refine zr_iconst (v := (zI (-1))) h dX8_byteAt_21 rfl ?_
    have hk := zOk_some hk
    exact zr_iret h dX8_byteAt_22 ⟨rfl, _, rfl, hk⟩
  · have hk := zOk_f c hk
    refine zr_iload_n h dX8_byteAt_4 1 rfl rfl ?_
    refine zr_aload_n h dX8_byteAt_5 0 rfl rfl ?_
    refine zr_getI h zfo_X8_15 lC_1 rfl dX8_byteAt_6 ?_
    refine zr_icmp_ge (tgt := 21) h dX8_byteAt_9 (by decide) (fun c => ?_) (fun c => ?_)
    · have hk := zOk_t c hk
      refine zr_iconst (v := (zI (-1))) h dX8_byteAt_21 rfl ?_
      have hk := zOk_some hk
      exact zr_iret h dX8_byteAt_22 ⟨rfl, _, rfl, hk⟩
    · have hk := zOk_f c hk
      refine zr_aload_n h dX8_byteAt_12 0 rfl rfl ?_
      refine zr_getR h zfo_X8_9 lC_1 rfl dX8_byteAt_13 ?_
      refine zr_iload_n h dX8_byteAt_16 1 rfl rfl ?_
      have hb := zOk_chk hk
      have hk := hb.2
      refine zr_iald h lC_2 hb.1 dX8_byteAt_17 ?_
      refine zr_goto (tgt := 22) h dX8_byteAt_18 (by decide) ?_
      have hk := zOk_some hk
      exact zr_iret h dX8_byteAt_22 ⟨rfl, _, rfl, hk⟩
theorem dX1_tiePlace_0 : decode cX1_tiePlace 0 = .ok (.iload_n 0, 1) := by decide +kernel
theorem dX1_tiePlace_1 : decode cX1_tiePlace 1 = .ok (.ifCond .lt 23, 3) := by decide +kernel
theorem dX1_tiePlace_4 : decode cX1_tiePlace 4 = .ok (.iload_n 1, 1) := by decide +kernel
theorem dX1_tiePlace_5 : decode cX1_tiePlace 5 = .ok (.ifCond .lt 19, 3) := by decide +kernel
theorem dX1_tiePlace_8 : decode cX1_tiePlace 8 = .ok (.iload_n 0, 1) := by decide +kernel
theorem dX1_tiePlace_9 : decode cX1_tiePlace 9 = .ok (.bipush 20, 2) := by decide +kernel
theorem dX1_tiePlace_11 : decode cX1_tiePlace 11 = .ok (.if_icmp .ge 13, 3) := by decide +kernel
theorem dX1_tiePlace_14 : decode cX1_tiePlace 14 = .ok (.iload_n 1, 1) := by decide +kernel
theorem dX1_tiePlace_15 : decode cX1_tiePlace 15 = .ok (.bipush 20, 2) := by decide +kernel
theorem dX1_tiePlace_17 : decode cX1_tiePlace 17 = .ok (.if_icmp .ge 7, 3) := by decide +kernel
theorem dX1_tiePlace_20 : decode cX1_tiePlace 20 = .ok (.iconst 1, 1) := by decide +kernel
theorem dX1_tiePlace_21 : decode cX1_tiePlace 21 = .ok (.goto 4, 3) := by decide +kernel
theorem dX1_tiePlace_24 : decode cX1_tiePlace 24 = .ok (.iconst 0, 1) := by decide +kernel
theorem dX1_tiePlace_25 : decode cX1_tiePlace 25 = .ok (.istore_n 2, 1) := by decide +kernel
theorem dX1_tiePlace_26 : decode cX1_tiePlace 26 = .ok (.iload_n 2, 1) := by decide +kernel
theorem dX1_tiePlace_27 : decode cX1_tiePlace 27 = .ok (.ifCond .eq 20, 3) := by decide +kernel
theorem dX1_tiePlace_30 : decode cX1_tiePlace 30 = .ok (.iload_n 0, 1) := by decide +kernel
theorem dX1_tiePlace_31 : decode cX1_tiePlace 31 = .ok (.iload_n 1, 1) := by decide +kernel
theorem dX1_tiePlace_32 : decode cX1_tiePlace 32 = .ok (.invokestatic 63, 3) := by decide +kernel
theorem dX1_tiePlace_35 : decode cX1_tiePlace 35 = .ok (.bipush 20, 2) := by decide +kernel
theorem dX1_tiePlace_37 : decode cX1_tiePlace 37 = .ok (.imul, 1) := by decide +kernel
theorem dX1_tiePlace_38 : decode cX1_tiePlace 38 = .ok (.iload_n 0, 1) := by decide +kernel
theorem dX1_tiePlace_39 : decode cX1_tiePlace 39 = .ok (.iload_n 1, 1) := by decide +kernel
theorem dX1_tiePlace_40 : decode cX1_tiePlace 40 = .ok (.invokestatic 69, 3) := by decide +kernel
theorem dX1_tiePlace_43 : decode cX1_tiePlace 43 = .ok (.iadd, 1) := by decide +kernel
theorem dX1_tiePlace_44 : decode cX1_tiePlace 44 = .ok (.goto 4, 3) := by decide +kernel
theorem dX1_tiePlace_47 : decode cX1_tiePlace 47 = .ok (.iconst (-1), 1) := by decide +kernel
theorem dX1_tiePlace_48 : decode cX1_tiePlace 48 = .ok (.ireturn, 1) := by decide +kernel
noncomputable def f_X1_tiePlace_25 (M : ZMem) (x0 : Int32) (x1 : Int32) (v0 : Int32) : Option Int32 := if v0 = (zI 0) then some (zI (-1)) else some (((if x1 < x0 then x1 else x0) * (zI 20)) + (if x0 < x1 then x1 else x0))
set_option maxRecDepth 100000 in
set_option maxHeartbeats 4000000 in
theorem w_X1_tiePlace_25 {ly : List ZEnt} {E : ZEv} {G : ZG} {K : Int32 → Prop} (M : ZMem) (h : zRu ly E G (zRp M K) cX1_tiePlace RX1 3 (some .int) 0) (x0 : Int32) (x1 : Int32) (v0 : Int32) (hk : zOk (f_X1_tiePlace_25 M x0 x1 v0) K) : G M 25 [(0, .int x0), (1, .int x1)] [.int v0] := by
  unfold f_X1_tiePlace_25 at hk
  refine zr_istore_n (L' := [(0, .int x0), (1, .int x1), (2, .int v0)]) h [1, 2, 0] dX1_tiePlace_25 rfl (by decide) rfl ?_
  refine zr_iload_n h dX1_tiePlace_26 2 rfl rfl ?_
  refine zr_if_eq (tgt := 47) h dX1_tiePlace_27 (by decide) (fun c => ?_) (fun c => ?_)
  · have hk := zOk_t c hk
    refine zr_iconst (v := (zI (-1))) h dX1_tiePlace_47 rfl ?_
    have hk := zOk_some hk
    exact zr_iret h dX1_tiePlace_48 ⟨rfl, _, rfl, hk⟩
  · have hk := zOk_f c hk
    refine zr_iload_n h dX1_tiePlace_30 0 rfl rfl ?_
    refine zr_iload_n h dX1_tiePlace_31 1 rfl rfl ?_
    refine zr_mmin h (zm_27 _ (List.mem_of_getElem? (i := 19) rfl)) (zm_12 _ (List.mem_of_getElem? (i := 11) rfl)) (zm_12 _ (List.mem_of_getElem? (i := 12) rfl)) (zm_12 _ (List.mem_of_getElem? (i := 13) rfl)) (Nat.le_of_ble_eq_true rfl) dX1_tiePlace_32 ?_
    refine zr_bipush (v := (zI 20)) h dX1_tiePlace_35 (by decide) ?_
    refine zr_imul h dX1_tiePlace_37 ?_
    refine zr_iload_n h dX1_tiePlace_38 0 rfl rfl ?_
    refine zr_iload_n h dX1_tiePlace_39 1 rfl rfl ?_
    refine zr_mmax h (zm_27 _ (List.mem_of_getElem? (i := 20) rfl)) (zm_13 _ (List.mem_of_getElem? (i := 10) rfl)) (zm_12 _ (List.mem_of_getElem? (i := 12) rfl)) (zm_13 _ (List.mem_of_getElem? (i := 11) rfl)) (Nat.le_of_ble_eq_true rfl) dX1_tiePlace_40 ?_
    refine zr_iadd h dX1_tiePlace_43 ?_
    refine zr_goto (tgt := 48) h dX1_tiePlace_44 (by decide) ?_
    have hk := zOk_some hk
    exact zr_iret h dX1_tiePlace_48 ⟨rfl, _, rfl, hk⟩
noncomputable def f_X1_tiePlace_24 (M : ZMem) (x0 : Int32) (x1 : Int32) : Option Int32 := f_X1_tiePlace_25 M x0 x1 (zI 0)
set_option maxRecDepth 100000 in
set_option maxHeartbeats 4000000 in
theorem w_X1_tiePlace_24 {ly : List ZEnt} {E : ZEv} {G : ZG} {K : Int32 → Prop} (M : ZMem) (h : zRu ly E G (zRp M K) cX1_tiePlace RX1 3 (some .int) 0) (x0 : Int32) (x1 : Int32) (hk : zOk (f_X1_tiePlace_24 M x0 x1) K) : G M 24 [(0, .int x0), (1, .int x1)] [] := by
  unfold f_X1_tiePlace_24 at hk
  refine zr_iconst (v := (zI 0)) h dX1_tiePlace_24 rfl ?_
  exact w_X1_tiePlace_25 M h x0 x1 (zI 0) hk
noncomputable def f_X1_tiePlace (M : ZMem) (x0 : Int32) (x1 : Int32) : Option Int32 := if x0 < (zI 0) then f_X1_tiePlace_24 M x0 x1 else if x1 < (zI 0) then f_X1_tiePlace_24 M x0 x1 else if (zI 20) ≤ x0 then f_X1_tiePlace_24 M x0 x1 else if (zI 20) ≤ x1 then f_X1_tiePlace_24 M x0 x1 else f_X1_tiePlace_25 M x0 x1 (zI 1)
set_option maxRecDepth 100000 in
set_option maxHeartbeats 4000000 in
theorem c_X1_tiePlace {ly : List ZEnt} (E : ZEv) (M : ZMem) (x0 : Int32) (x1 : Int32) (K : Int32 → Prop) (hk : zOk (f_X1_tiePlace M x0 x1) K) : zCon ly E yX1_tiePlace cX1_tiePlace 3 (some .int) 0 [.int x0, .int x1] M (zRp M K) := by
  refine zcon_of (L0 := [(0, .int x0), (1, .int x1)]) (by decide) rfl (Nat.le_of_ble_eq_true rfl) (fun G h => ?_)
  have h : zRu ly E G (zRp M K) cX1_tiePlace RX1 3 (some .int) 0 := h
  unfold f_X1_tiePlace at hk
  refine zr_iload_n h dX1_tiePlace_0 0 rfl rfl ?_
  refine zr_if_lt (tgt := 24) h dX1_tiePlace_1 (by decide) (fun c => ?_) (fun c => ?_)
  · have hk := zOk_t c hk
    exact w_X1_tiePlace_24 M h x0 x1 hk
  · have hk := zOk_f c hk
    refine zr_iload_n h dX1_tiePlace_4 1 rfl rfl ?_
    refine zr_if_lt (tgt := 24) h dX1_tiePlace_5 (by decide) (fun c => ?_) (fun c => ?_)
    · have hk := zOk_t c hk
      exact w_X1_tiePlace_24 M h x0 x1 hk
    · have hk := zOk_f c hk
      refine zr_iload_n h dX1_tiePlace_8 0 rfl rfl ?_
      refine zr_bipush (v := (zI 20)) h dX1_tiePlace_9 (by decide) ?_
      refine zr_icmp_ge (tgt := 24) h dX1_tiePlace_11 (by decide) (fun c => ?_) (fun c => ?_)
      · have hk := zOk_t c hk
        exact w_X1_tiePlace_24 M h x0 x1 hk
      · have hk := zOk_f c hk
        refine zr_iload_n h dX1_tiePlace_14 1 rfl rfl ?_
        refine zr_bipush (v := (zI 20)) h dX1_tiePlace_15 (by decide) ?_
        refine zr_icmp_ge (tgt := 24) h dX1_tiePlace_17 (by decide) (fun c => ?_) (fun c => ?_)
        · have hk := zOk_t c hk
          exact w_X1_tiePlace_24 M h x0 x1 hk
        · have hk := zOk_f c hk
          refine zr_iconst (v := (zI 1)) h dX1_tiePlace_20 rfl ?_
          refine zr_goto (tgt := 25) h dX1_tiePlace_21 (by decide) ?_
          exact w_X1_tiePlace_25 M h x0 x1 (zI 1) hk
theorem dX1_tieOf_0 : decode cX1_tieOf 0 = .ok (.iload_n 1, 1) := by decide +kernel
theorem dX1_tieOf_1 : decode cX1_tieOf 1 = .ok (.iload_n 2, 1) := by decide +kernel
theorem dX1_tieOf_2 : decode cX1_tieOf 2 = .ok (.invokestatic 72, 3) := by decide +kernel
theorem dX1_tieOf_5 : decode cX1_tieOf 5 = .ok (.istore_n 3, 1) := by decide +kernel
theorem dX1_tieOf_6 : decode cX1_tieOf 6 = .ok (.iload_n 3, 1) := by decide +kernel
theorem dX1_tieOf_7 : decode cX1_tieOf 7 = .ok (.ifCond .lt 21, 3) := by decide +kernel
theorem dX1_tieOf_10 : decode cX1_tieOf 10 = .ok (.iload_n 3, 1) := by decide +kernel
theorem dX1_tieOf_11 : decode cX1_tieOf 11 = .ok (.aload_n 0, 1) := by decide +kernel
theorem dX1_tieOf_12 : decode cX1_tieOf 12 = .ok (.getfield 15, 3) := by decide +kernel
theorem dX1_tieOf_15 : decode cX1_tieOf 15 = .ok (.arraylength, 1) := by decide +kernel
theorem dX1_tieOf_16 : decode cX1_tieOf 16 = .ok (.if_icmp .ge 12, 3) := by decide +kernel
theorem dX1_tieOf_19 : decode cX1_tieOf 19 = .ok (.aload_n 0, 1) := by decide +kernel
theorem dX1_tieOf_20 : decode cX1_tieOf 20 = .ok (.getfield 15, 3) := by decide +kernel
theorem dX1_tieOf_23 : decode cX1_tieOf 23 = .ok (.iload_n 3, 1) := by decide +kernel
theorem dX1_tieOf_24 : decode cX1_tieOf 24 = .ok (.iaload, 1) := by decide +kernel
theorem dX1_tieOf_25 : decode cX1_tieOf 25 = .ok (.goto 4, 3) := by decide +kernel
theorem dX1_tieOf_28 : decode cX1_tieOf 28 = .ok (.iconst 0, 1) := by decide +kernel
theorem dX1_tieOf_29 : decode cX1_tieOf 29 = .ok (.ireturn, 1) := by decide +kernel
noncomputable def f_X1_tieOf (M : ZMem) (x1 : Int32) (x2 : Int32) : Option Int32 := zbind (f_X1_tiePlace M x1 x2) (fun r_2 => if r_2 < (zI 0) then some (zI 0) else if (zI 400) ≤ r_2 then some (zI 0) else zchk (zin r_2 400) (some (M.1 22 (zix r_2))))
set_option maxRecDepth 100000 in
set_option maxHeartbeats 4000000 in
theorem c_X1_tieOf (E : ZEv) (M : ZMem) (x1 : Int32) (x2 : Int32) (K : Int32 → Prop) (hk : zOk (f_X1_tieOf M x1 x2) K) : zCon lyC E yX1_tieOf cX1_tieOf 4 (some .int) 1 [zrf E 20, .int x1, .int x2] M (zRp M K) := by
  refine zcon_of (L0 := [(0, zrf E 20), (1, .int x1), (2, .int x2)]) (by decide) rfl (Nat.le_of_ble_eq_true rfl) (fun G h => ?_)
  have h : zRu lyC E G (zRp M K) cX1_tieOf RX1 4 (some .int) 1 := h
  unfold f_X1_tieOf at hk
  refine zr_iload_n h dX1_tieOf_0 1 rfl rfl ?_
  refine zr_iload_n h dX1_tieOf_1 2 rfl rfl ?_
  refine zr_callSp h zcw_X1_72 (by decide) (c_X1_tiePlace E M x1 x2 _ (zOk_bind hk)) rfl rfl (Nat.le_of_ble_eq_true rfl) dX1_tieOf_2 (fun r_2 hk => ?_)
  refine zr_istore_n (L' := [(0, zrf E 20), (3, .int r_2)]) h [1, 0] dX1_tieOf_5 rfl (by decide) rfl ?_
  refine zr_iload_n h dX1_tieOf_6 1 rfl rfl ?_
  refine zr_if_lt (tgt := 28) h dX1_tieOf_7 (by decide) (fun c => ?_) (fun c => ?_)
  · have hk := zOk_t c hk
    refine zr_iconst (v := (zI 0)) h dX1_tieOf_28 rfl ?_
    have hk := zOk_some hk
    exact zr_iret h dX1_tieOf_29 ⟨rfl, _, rfl, hk⟩
  · have hk := zOk_f c hk
    refine zr_iload_n h dX1_tieOf_10 1 rfl rfl ?_
    refine zr_aload_n h dX1_tieOf_11 0 rfl rfl ?_
    refine zr_getR h zfo_X1_15 lC_20 rfl dX1_tieOf_12 ?_
    refine zr_alen h (by decide) lC_22 dX1_tieOf_15 ?_
    refine zr_icmp_ge (tgt := 28) h dX1_tieOf_16 (by decide) (fun c => ?_) (fun c => ?_)
    · have hk := zOk_t c hk
      refine zr_iconst (v := (zI 0)) h dX1_tieOf_28 rfl ?_
      have hk := zOk_some hk
      exact zr_iret h dX1_tieOf_29 ⟨rfl, _, rfl, hk⟩
    · have hk := zOk_f c hk
      refine zr_aload_n h dX1_tieOf_19 0 rfl rfl ?_
      refine zr_getR h zfo_X1_15 lC_20 rfl dX1_tieOf_20 ?_
      refine zr_iload_n h dX1_tieOf_23 1 rfl rfl ?_
      have hb := zOk_chk hk
      have hk := hb.2
      refine zr_iald h lC_22 hb.1 dX1_tieOf_24 ?_
      refine zr_goto (tgt := 29) h dX1_tieOf_25 (by decide) ?_
      have hk := zOk_some hk
      exact zr_iret h dX1_tieOf_29 ⟨rfl, _, rfl, hk⟩
theorem dX1_settingOf_0 : decode cX1_settingOf 0 = .ok (.iload_n 1, 1) := by decide +kernel
theorem dX1_settingOf_1 : decode cX1_settingOf 1 = .ok (.ifCond .lt 21, 3) := by decide +kernel
theorem dX1_settingOf_4 : decode cX1_settingOf 4 = .ok (.iload_n 1, 1) := by decide +kernel
theorem dX1_settingOf_5 : decode cX1_settingOf 5 = .ok (.aload_n 0, 1) := by decide +kernel
theorem dX1_settingOf_6 : decode cX1_settingOf 6 = .ok (.getfield 9, 3) := by decide +kernel
theorem dX1_settingOf_9 : decode cX1_settingOf 9 = .ok (.arraylength, 1) := by decide +kernel
theorem dX1_settingOf_10 : decode cX1_settingOf 10 = .ok (.if_icmp .ge 12, 3) := by decide +kernel
theorem dX1_settingOf_13 : decode cX1_settingOf 13 = .ok (.aload_n 0, 1) := by decide +kernel
theorem dX1_settingOf_14 : decode cX1_settingOf 14 = .ok (.getfield 9, 3) := by decide +kernel
theorem dX1_settingOf_17 : decode cX1_settingOf 17 = .ok (.iload_n 1, 1) := by decide +kernel
theorem dX1_settingOf_18 : decode cX1_settingOf 18 = .ok (.iaload, 1) := by decide +kernel
theorem dX1_settingOf_19 : decode cX1_settingOf 19 = .ok (.goto 4, 3) := by decide +kernel
theorem dX1_settingOf_22 : decode cX1_settingOf 22 = .ok (.iconst (-1), 1) := by decide +kernel
theorem dX1_settingOf_23 : decode cX1_settingOf 23 = .ok (.ireturn, 1) := by decide +kernel
noncomputable def f_X1_settingOf (M : ZMem) (x1 : Int32) : Option Int32 := if x1 < (zI 0) then some (zI (-1)) else if (zI 3) ≤ x1 then some (zI (-1)) else zchk (zin x1 3) (some (M.1 21 (zix x1)))
set_option maxRecDepth 100000 in
set_option maxHeartbeats 4000000 in
theorem c_X1_settingOf (E : ZEv) (M : ZMem) (x1 : Int32) (K : Int32 → Prop) (hk : zOk (f_X1_settingOf M x1) K) : zCon lyC E yX1_settingOf cX1_settingOf 2 (some .int) 0 [zrf E 20, .int x1] M (zRp M K) := by
  refine zcon_of (L0 := [(0, zrf E 20), (1, .int x1)]) (by decide) rfl (Nat.le_of_ble_eq_true rfl) (fun G h => ?_)
  have h : zRu lyC E G (zRp M K) cX1_settingOf RX1 2 (some .int) 0 := h
  unfold f_X1_settingOf at hk
  refine zr_iload_n h dX1_settingOf_0 1 rfl rfl ?_
  refine zr_if_lt (tgt := 22) h dX1_settingOf_1 (by decide) (fun c => ?_) (fun c => ?_)
  · have hk := zOk_t c hk
    refine zr_iconst (v := (zI (-1))) h dX1_settingOf_22 rfl ?_
    have hk := zOk_some hk
    exact zr_iret h dX1_settingOf_23 ⟨rfl, _, rfl, hk⟩
  · have hk := zOk_f c hk
    refine zr_iload_n h dX1_settingOf_4 1 rfl rfl ?_
    refine zr_aload_n h dX1_settingOf_5 0 rfl rfl ?_
    refine zr_getR h zfo_X1_9 lC_20 rfl dX1_settingOf_6 ?_
    refine zr_alen h (by decide) lC_21 dX1_settingOf_9 ?_
    refine zr_icmp_ge (tgt := 22) h dX1_settingOf_10 (by decide) (fun c => ?_) (fun c => ?_)
    · have hk := zOk_t c hk
      refine zr_iconst (v := (zI (-1))) h dX1_settingOf_22 rfl ?_
      have hk := zOk_some hk
      exact zr_iret h dX1_settingOf_23 ⟨rfl, _, rfl, hk⟩
    · have hk := zOk_f c hk
      refine zr_aload_n h dX1_settingOf_13 0 rfl rfl ?_
      refine zr_getR h zfo_X1_9 lC_20 rfl dX1_settingOf_14 ?_
      refine zr_iload_n h dX1_settingOf_17 1 rfl rfl ?_
      have hb := zOk_chk hk
      have hk := hb.2
      refine zr_iald h lC_21 hb.1 dX1_settingOf_18 ?_
      refine zr_goto (tgt := 23) h dX1_settingOf_19 (by decide) ?_
      have hk := zOk_some hk
      exact zr_iret h dX1_settingOf_23 ⟨rfl, _, rfl, hk⟩
theorem dX1_startAnew_0 : decode cX1_startAnew 0 = .ok (.aload_n 0, 1) := by decide +kernel
theorem dX1_startAnew_1 : decode cX1_startAnew 1 = .ok (.getfield 9, 3) := by decide +kernel
theorem dX1_startAnew_4 : decode cX1_startAnew 4 = .ok (.iconst 0, 1) := by decide +kernel
theorem dX1_startAnew_5 : decode cX1_startAnew 5 = .ok (.iconst 2, 1) := by decide +kernel
theorem dX1_startAnew_6 : decode cX1_startAnew 6 = .ok (.iastore, 1) := by decide +kernel
theorem dX1_startAnew_7 : decode cX1_startAnew 7 = .ok (.aload_n 0, 1) := by decide +kernel
theorem dX1_startAnew_8 : decode cX1_startAnew 8 = .ok (.getfield 9, 3) := by decide +kernel
theorem dX1_startAnew_11 : decode cX1_startAnew 11 = .ok (.iconst 1, 1) := by decide +kernel
theorem dX1_startAnew_12 : decode cX1_startAnew 12 = .ok (.iconst 3, 1) := by decide +kernel
theorem dX1_startAnew_13 : decode cX1_startAnew 13 = .ok (.iastore, 1) := by decide +kernel
theorem dX1_startAnew_14 : decode cX1_startAnew 14 = .ok (.aload_n 0, 1) := by decide +kernel
theorem dX1_startAnew_15 : decode cX1_startAnew 15 = .ok (.getfield 9, 3) := by decide +kernel
theorem dX1_startAnew_18 : decode cX1_startAnew 18 = .ok (.iconst 2, 1) := by decide +kernel
theorem dX1_startAnew_19 : decode cX1_startAnew 19 = .ok (.iconst 2, 1) := by decide +kernel
theorem dX1_startAnew_20 : decode cX1_startAnew 20 = .ok (.iastore, 1) := by decide +kernel
theorem dX1_startAnew_21 : decode cX1_startAnew 21 = .ok (.aload_n 0, 1) := by decide +kernel
theorem dX1_startAnew_22 : decode cX1_startAnew 22 = .ok (.getfield 15, 3) := by decide +kernel
theorem dX1_startAnew_25 : decode cX1_startAnew 25 = .ok (.iconst 0, 1) := by decide +kernel
theorem dX1_startAnew_26 : decode cX1_startAnew 26 = .ok (.invokestatic 43, 3) := by decide +kernel
theorem dX1_startAnew_29 : decode cX1_startAnew 29 = .ok (.aload_n 0, 1) := by decide +kernel
theorem dX1_startAnew_30 : decode cX1_startAnew 30 = .ok (.getfield 28, 3) := by decide +kernel
theorem dX1_startAnew_33 : decode cX1_startAnew 33 = .ok (.iconst (-1), 1) := by decide +kernel
theorem dX1_startAnew_34 : decode cX1_startAnew 34 = .ok (.invokestatic 43, 3) := by decide +kernel
theorem dX1_startAnew_37 : decode cX1_startAnew 37 = .ok (.aload_n 0, 1) := by decide +kernel
theorem dX1_startAnew_38 : decode cX1_startAnew 38 = .ok (.iconst 0, 1) := by decide +kernel
theorem dX1_startAnew_39 : decode cX1_startAnew 39 = .ok (.putfield 49, 3) := by decide +kernel
theorem dX1_startAnew_42 : decode cX1_startAnew 42 = .ok (.aload_n 0, 1) := by decide +kernel
theorem dX1_startAnew_43 : decode cX1_startAnew 43 = .ok (.iconst 0, 1) := by decide +kernel
theorem dX1_startAnew_44 : decode cX1_startAnew 44 = .ok (.putfield 53, 3) := by decide +kernel
theorem dX1_startAnew_47 : decode cX1_startAnew 47 = .ok (.aload_n 0, 1) := by decide +kernel
theorem dX1_startAnew_48 : decode cX1_startAnew 48 = .ok (.iconst 0, 1) := by decide +kernel
theorem dX1_startAnew_49 : decode cX1_startAnew 49 = .ok (.putfield 56, 3) := by decide +kernel
theorem dX1_startAnew_52 : decode cX1_startAnew 52 = .ok (.return_, 1) := by decide +kernel
noncomputable def f_X1_startAnew (M : ZMem) : Option ZMem := zbnd (zstI M 21 (zix (zI 0)) (zI 2)) (fun M_6 => zbnd (zstI M_6 21 (zix (zI 1)) (zI 3)) (fun M_13 => zbnd (zstI M_13 21 (zix (zI 2)) (zI 2)) (fun M_20 => zbind (f_J7_fill_53178 22 400 M_20 (zI 0)) (fun M_26 => zbind (f_J7_fill_53178 26 20 M_26 (zI (-1))) (fun M_34 => zbnd (zstI M_34 20 9 (zI 0)) (fun M_39 => zbnd (zstI M_39 20 10 (zI 0)) (fun M_44 => zbnd (zstI M_44 20 11 (zI 0)) (fun M_49 => some M_49))))))))
set_option maxRecDepth 100000 in
set_option maxHeartbeats 4000000 in
theorem c_X1_startAnew (E : ZEv) (M : ZMem) (K : ZMem → Prop) (hk : zOk (f_X1_startAnew M) K) : zCon lyC E yX1_startAnew cX1_startAnew 1 none 1 [zrf E 20] M (zRv K) := by
  refine zcon_of (L0 := [(0, zrf E 20)]) (by decide) rfl (Nat.le_of_ble_eq_true rfl) (fun G h => ?_)
  have h : zRu lyC E G (zRv K) cX1_startAnew RX1 1 none 1 := h
  unfold f_X1_startAnew at hk
  refine zr_aload_n h dX1_startAnew_0 0 rfl rfl ?_
  refine zr_getR h zfo_X1_9 lC_20 rfl dX1_startAnew_1 ?_
  refine zr_iconst (v := (zI 0)) h dX1_startAnew_4 rfl ?_
  refine zr_iconst (v := (zI 2)) h dX1_startAnew_5 rfl ?_
  refine zr_iast h lC_21 (by decide) dX1_startAnew_6 ?_
  refine zr_mem (fun M_6 eM => ?_)
  have hk := zOk_bnd eM hk
  refine zr_aload_n h dX1_startAnew_7 0 rfl rfl ?_
  refine zr_getR h zfo_X1_9 lC_20 rfl dX1_startAnew_8 ?_
  refine zr_iconst (v := (zI 1)) h dX1_startAnew_11 rfl ?_
  refine zr_iconst (v := (zI 3)) h dX1_startAnew_12 rfl ?_
  refine zr_iast h lC_21 (by decide) dX1_startAnew_13 ?_
  refine zr_mem (fun M_13 eM => ?_)
  have hk := zOk_bnd eM hk
  refine zr_aload_n h dX1_startAnew_14 0 rfl rfl ?_
  refine zr_getR h zfo_X1_9 lC_20 rfl dX1_startAnew_15 ?_
  refine zr_iconst (v := (zI 2)) h dX1_startAnew_18 rfl ?_
  refine zr_iconst (v := (zI 2)) h dX1_startAnew_19 rfl ?_
  refine zr_iast h lC_21 (by decide) dX1_startAnew_20 ?_
  refine zr_mem (fun M_20 eM => ?_)
  have hk := zOk_bnd eM hk
  refine zr_aload_n h dX1_startAnew_21 0 rfl rfl ?_
  refine zr_getR h zfo_X1_15 lC_20 rfl dX1_startAnew_22 ?_
  refine zr_iconst (v := (zI 0)) h dX1_startAnew_25 rfl ?_
  refine zr_callSv h zcw_X1_43 (by decide) (c_J7_fill_53178 E 22 400 lC_22 M_20 (zI 0) _ (zOk_bind hk)) rfl rfl (Nat.le_of_ble_eq_true rfl) dX1_startAnew_26 (fun M_26 hk => ?_)
  refine zr_aload_n h dX1_startAnew_29 0 rfl rfl ?_
  refine zr_getR h zfo_X1_28 lC_20 rfl dX1_startAnew_30 ?_
  refine zr_iconst (v := (zI (-1))) h dX1_startAnew_33 rfl ?_
  refine zr_callSv h zcw_X1_43 (by decide) (c_J7_fill_53178 E 26 20 lC_26 M_26 (zI (-1)) _ (zOk_bind hk)) rfl rfl (Nat.le_of_ble_eq_true rfl) dX1_startAnew_34 (fun M_34 hk => ?_)
  refine zr_aload_n h dX1_startAnew_37 0 rfl rfl ?_
  refine zr_iconst (v := (zI 0)) h dX1_startAnew_38 rfl ?_
  refine zr_putI h zfp_X1_49 lC_20 rfl dX1_startAnew_39 ?_
  refine zr_mem (fun M_39 eM => ?_)
  have hk := zOk_bnd eM hk
  refine zr_aload_n h dX1_startAnew_42 0 rfl rfl ?_
  refine zr_iconst (v := (zI 0)) h dX1_startAnew_43 rfl ?_
  refine zr_putI h zfp_X1_53 lC_20 rfl dX1_startAnew_44 ?_
  refine zr_mem (fun M_44 eM => ?_)
  have hk := zOk_bnd eM hk
  refine zr_aload_n h dX1_startAnew_47 0 rfl rfl ?_
  refine zr_iconst (v := (zI 0)) h dX1_startAnew_48 rfl ?_
  refine zr_putI h zfp_X1_56 lC_20 rfl dX1_startAnew_49 ?_
  refine zr_mem (fun M_49 eM => ?_)
  have hk := zOk_bnd eM hk
  have hk := zOk_some hk
  exact zr_vret h dX1_startAnew_52 ⟨rfl, hk⟩
theorem dX1_forgetActs_0 : decode cX1_forgetActs 0 = .ok (.aload_n 0, 1) := by decide +kernel
theorem dX1_forgetActs_1 : decode cX1_forgetActs 1 = .ok (.iconst 0, 1) := by decide +kernel
theorem dX1_forgetActs_2 : decode cX1_forgetActs 2 = .ok (.putfield 56, 3) := by decide +kernel
theorem dX1_forgetActs_5 : decode cX1_forgetActs 5 = .ok (.return_, 1) := by decide +kernel
noncomputable def f_X1_forgetActs (M : ZMem) : Option ZMem := zbnd (zstI M 20 11 (zI 0)) (fun M_2 => some M_2)
set_option maxRecDepth 100000 in
set_option maxHeartbeats 4000000 in
theorem c_X1_forgetActs (E : ZEv) (M : ZMem) (K : ZMem → Prop) (hk : zOk (f_X1_forgetActs M) K) : zCon lyC E yX1_forgetActs cX1_forgetActs 1 none 0 [zrf E 20] M (zRv K) := by
  refine zcon_of (L0 := [(0, zrf E 20)]) (by decide) rfl (Nat.le_of_ble_eq_true rfl) (fun G h => ?_)
  have h : zRu lyC E G (zRv K) cX1_forgetActs RX1 1 none 0 := h
  unfold f_X1_forgetActs at hk
  refine zr_aload_n h dX1_forgetActs_0 0 rfl rfl ?_
  refine zr_iconst (v := (zI 0)) h dX1_forgetActs_1 rfl ?_
  refine zr_putI h zfp_X1_56 lC_20 rfl dX1_forgetActs_2 ?_
  refine zr_mem (fun M_2 eM => ?_)
  have hk := zOk_bnd eM hk
  have hk := zOk_some hk
  exact zr_vret h dX1_forgetActs_5 ⟨rfl, hk⟩
theorem dX1_actsHeld_0 : decode cX1_actsHeld 0 = .ok (.aload_n 0, 1) := by decide +kernel
theorem dX1_actsHeld_1 : decode cX1_actsHeld 1 = .ok (.getfield 56, 3) := by decide +kernel
theorem dX1_actsHeld_4 : decode cX1_actsHeld 4 = .ok (.ireturn, 1) := by decide +kernel
noncomputable def f_X1_actsHeld (M : ZMem) : Option Int32 := some (M.1 20 11)
set_option maxRecDepth 100000 in
set_option maxHeartbeats 4000000 in
theorem c_X1_actsHeld (E : ZEv) (M : ZMem) (K : Int32 → Prop) (hk : zOk (f_X1_actsHeld M) K) : zCon lyC E yX1_actsHeld cX1_actsHeld 1 (some .int) 0 [zrf E 20] M (zRp M K) := by
  refine zcon_of (L0 := [(0, zrf E 20)]) (by decide) rfl (Nat.le_of_ble_eq_true rfl) (fun G h => ?_)
  have h : zRu lyC E G (zRp M K) cX1_actsHeld RX1 1 (some .int) 0 := h
  unfold f_X1_actsHeld at hk
  refine zr_aload_n h dX1_actsHeld_0 0 rfl rfl ?_
  refine zr_getI h zfo_X1_56 lC_20 rfl dX1_actsHeld_1 ?_
  have hk := zOk_some hk
  exact zr_iret h dX1_actsHeld_4 ⟨rfl, _, rfl, hk⟩
theorem dX1_cluesHeld_0 : decode cX1_cluesHeld 0 = .ok (.aload_n 0, 1) := by decide +kernel
theorem dX1_cluesHeld_1 : decode cX1_cluesHeld 1 = .ok (.getfield 49, 3) := by decide +kernel
theorem dX1_cluesHeld_4 : decode cX1_cluesHeld 4 = .ok (.ireturn, 1) := by decide +kernel
noncomputable def f_X1_cluesHeld (M : ZMem) : Option Int32 := some (M.1 20 9)
set_option maxRecDepth 100000 in
set_option maxHeartbeats 4000000 in
theorem c_X1_cluesHeld (E : ZEv) (M : ZMem) (K : Int32 → Prop) (hk : zOk (f_X1_cluesHeld M) K) : zCon lyC E yX1_cluesHeld cX1_cluesHeld 1 (some .int) 0 [zrf E 20] M (zRp M K) := by
  refine zcon_of (L0 := [(0, zrf E 20)]) (by decide) rfl (Nat.le_of_ble_eq_true rfl) (fun G h => ?_)
  have h : zRu lyC E G (zRp M K) cX1_cluesHeld RX1 1 (some .int) 0 := h
  unfold f_X1_cluesHeld at hk
  refine zr_aload_n h dX1_cluesHeld_0 0 rfl rfl ?_
  refine zr_getI h zfo_X1_49 lC_20 rfl dX1_cluesHeld_1 ?_
  have hk := zOk_some hk
  exact zr_iret h dX1_cluesHeld_4 ⟨rfl, _, rfl, hk⟩
theorem dX1_guessesHeld_0 : decode cX1_guessesHeld 0 = .ok (.aload_n 0, 1) := by decide +kernel
theorem dX1_guessesHeld_1 : decode cX1_guessesHeld 1 = .ok (.getfield 53, 3) := by decide +kernel
theorem dX1_guessesHeld_4 : decode cX1_guessesHeld 4 = .ok (.ireturn, 1) := by decide +kernel
noncomputable def f_X1_guessesHeld (M : ZMem) : Option Int32 := some (M.1 20 10)
set_option maxRecDepth 100000 in
set_option maxHeartbeats 4000000 in
theorem c_X1_guessesHeld (E : ZEv) (M : ZMem) (K : Int32 → Prop) (hk : zOk (f_X1_guessesHeld M) K) : zCon lyC E yX1_guessesHeld cX1_guessesHeld 1 (some .int) 0 [zrf E 20] M (zRp M K) := by
  refine zcon_of (L0 := [(0, zrf E 20)]) (by decide) rfl (Nat.le_of_ble_eq_true rfl) (fun G h => ?_)
  have h : zRu lyC E G (zRp M K) cX1_guessesHeld RX1 1 (some .int) 0 := h
  unfold f_X1_guessesHeld at hk
  refine zr_aload_n h dX1_guessesHeld_0 0 rfl rfl ?_
  refine zr_getI h zfo_X1_53 lC_20 rfl dX1_guessesHeld_1 ?_
  have hk := zOk_some hk
  exact zr_iret h dX1_guessesHeld_4 ⟨rfl, _, rfl, hk⟩
theorem dX1_forgetFirst_0 : decode cX1_forgetFirst 0 = .ok (.aload_n 0, 1) := by decide +kernel
theorem dX1_forgetFirst_1 : decode cX1_forgetFirst 1 = .ok (.iconst 1, 1) := by decide +kernel
theorem dX1_forgetFirst_2 : decode cX1_forgetFirst 2 = .ok (.aload_n 0, 1) := by decide +kernel
theorem dX1_forgetFirst_3 : decode cX1_forgetFirst 3 = .ok (.iconst 0, 1) := by decide +kernel
theorem dX1_forgetFirst_4 : decode cX1_forgetFirst 4 = .ok (.aload_n 0, 1) := by decide +kernel
theorem dX1_forgetFirst_5 : decode cX1_forgetFirst 5 = .ok (.arraylength, 1) := by decide +kernel
theorem dX1_forgetFirst_6 : decode cX1_forgetFirst 6 = .ok (.iconst 1, 1) := by decide +kernel
theorem dX1_forgetFirst_7 : decode cX1_forgetFirst 7 = .ok (.isub, 1) := by decide +kernel
theorem dX1_forgetFirst_8 : decode cX1_forgetFirst 8 = .ok (.invokestatic 87, 3) := by decide +kernel
theorem dX1_forgetFirst_11 : decode cX1_forgetFirst 11 = .ok (.return_, 1) := by decide +kernel
noncomputable def f_X1_forgetFirst (q0 : Nat) (n0 : Nat) (M : ZMem) : Option ZMem := zchk (zcp (zI 1) (zI 0) ((zI n0) - (zI 1)) n0 n0) (zbnd (zstF M q0 (va_cpy (M.1 q0) (M.1 q0) (zix (zI 1)) (zix (zI 0)) (zix ((zI n0) - (zI 1))))) (fun M_8 => some M_8))
set_option maxRecDepth 100000 in
set_option maxHeartbeats 4000000 in
theorem c_X1_forgetFirst {ly : List ZEnt} (E : ZEv) (q0 : Nat) (n0 : Nat) (hq0 : ly[q0]? = some (.inl (0, n0))) (M : ZMem) (K : ZMem → Prop) (hk : zOk (f_X1_forgetFirst q0 n0 M) K) : zCon ly E yX1_forgetFirst cX1_forgetFirst 1 none 0 [zrf E q0] M (zRv K) := by
  refine zcon_of (L0 := [(0, zrf E q0)]) (by decide) rfl (Nat.le_of_ble_eq_true rfl) (fun G h => ?_)
  have h : zRu ly E G (zRv K) cX1_forgetFirst RX1 1 none 0 := h
  unfold f_X1_forgetFirst at hk
  refine zr_aload_n h dX1_forgetFirst_0 0 rfl rfl ?_
  refine zr_iconst (v := (zI 1)) h dX1_forgetFirst_1 rfl ?_
  refine zr_aload_n h dX1_forgetFirst_2 0 rfl rfl ?_
  refine zr_iconst (v := (zI 0)) h dX1_forgetFirst_3 rfl ?_
  refine zr_aload_n h dX1_forgetFirst_4 0 rfl rfl ?_
  refine zr_alen h (by decide) hq0 dX1_forgetFirst_5 ?_
  refine zr_iconst (v := (zI 1)) h dX1_forgetFirst_6 rfl ?_
  refine zr_isub h dX1_forgetFirst_7 ?_
  have hb := zOk_chk hk
  have hk := hb.2
  refine zr_copyi h zac_X1_87 hq0 hq0 hb.1 (Nat.le_of_ble_eq_true rfl) dX1_forgetFirst_8 ?_
  refine zr_mem (fun M_8 eM => ?_)
  have hk := zOk_bnd eM hk
  have hk := zOk_some hk
  exact zr_vret h dX1_forgetFirst_11 ⟨rfl, hk⟩
theorem dX1_note_0 : decode cX1_note 0 = .ok (.aload_n 0, 1) := by decide +kernel
theorem dX1_note_1 : decode cX1_note 1 = .ok (.getfield 56, 3) := by decide +kernel
theorem dX1_note_4 : decode cX1_note 4 = .ok (.bipush 20, 2) := by decide +kernel
theorem dX1_note_6 : decode cX1_note 6 = .ok (.if_icmp .lt 30, 3) := by decide +kernel
theorem dX1_note_9 : decode cX1_note 9 = .ok (.aload_n 0, 1) := by decide +kernel
theorem dX1_note_10 : decode cX1_note 10 = .ok (.getfield 31, 3) := by decide +kernel
theorem dX1_note_13 : decode cX1_note 13 = .ok (.invokestatic 83, 3) := by decide +kernel
theorem dX1_note_16 : decode cX1_note 16 = .ok (.aload_n 0, 1) := by decide +kernel
theorem dX1_note_17 : decode cX1_note 17 = .ok (.getfield 34, 3) := by decide +kernel
theorem dX1_note_20 : decode cX1_note 20 = .ok (.invokestatic 83, 3) := by decide +kernel
theorem dX1_note_23 : decode cX1_note 23 = .ok (.aload_n 0, 1) := by decide +kernel
theorem dX1_note_24 : decode cX1_note 24 = .ok (.getfield 37, 3) := by decide +kernel
theorem dX1_note_27 : decode cX1_note 27 = .ok (.invokestatic 83, 3) := by decide +kernel
theorem dX1_note_30 : decode cX1_note 30 = .ok (.aload_n 0, 1) := by decide +kernel
theorem dX1_note_31 : decode cX1_note 31 = .ok (.bipush 19, 2) := by decide +kernel
theorem dX1_note_33 : decode cX1_note 33 = .ok (.putfield 56, 3) := by decide +kernel
theorem dX1_note_36 : decode cX1_note 36 = .ok (.aload_n 0, 1) := by decide +kernel
theorem dX1_note_37 : decode cX1_note 37 = .ok (.getfield 31, 3) := by decide +kernel
theorem dX1_note_40 : decode cX1_note 40 = .ok (.aload_n 0, 1) := by decide +kernel
theorem dX1_note_41 : decode cX1_note 41 = .ok (.getfield 56, 3) := by decide +kernel
theorem dX1_note_44 : decode cX1_note 44 = .ok (.iload_n 1, 1) := by decide +kernel
theorem dX1_note_45 : decode cX1_note 45 = .ok (.iastore, 1) := by decide +kernel
theorem dX1_note_46 : decode cX1_note 46 = .ok (.aload_n 0, 1) := by decide +kernel
theorem dX1_note_47 : decode cX1_note 47 = .ok (.getfield 34, 3) := by decide +kernel
theorem dX1_note_50 : decode cX1_note 50 = .ok (.aload_n 0, 1) := by decide +kernel
theorem dX1_note_51 : decode cX1_note 51 = .ok (.getfield 56, 3) := by decide +kernel
theorem dX1_note_54 : decode cX1_note 54 = .ok (.iload_n 2, 1) := by decide +kernel
theorem dX1_note_55 : decode cX1_note 55 = .ok (.iastore, 1) := by decide +kernel
theorem dX1_note_56 : decode cX1_note 56 = .ok (.aload_n 0, 1) := by decide +kernel
theorem dX1_note_57 : decode cX1_note 57 = .ok (.getfield 37, 3) := by decide +kernel
theorem dX1_note_60 : decode cX1_note 60 = .ok (.aload_n 0, 1) := by decide +kernel
theorem dX1_note_61 : decode cX1_note 61 = .ok (.getfield 56, 3) := by decide +kernel
theorem dX1_note_64 : decode cX1_note 64 = .ok (.iload_n 3, 1) := by decide +kernel
theorem dX1_note_65 : decode cX1_note 65 = .ok (.iastore, 1) := by decide +kernel
theorem dX1_note_66 : decode cX1_note 66 = .ok (.aload_n 0, 1) := by decide +kernel
theorem dX1_note_67 : decode cX1_note 67 = .ok (.dup, 1) := by decide +kernel
theorem dX1_note_68 : decode cX1_note 68 = .ok (.getfield 56, 3) := by decide +kernel
theorem dX1_note_71 : decode cX1_note 71 = .ok (.iconst 1, 1) := by decide +kernel
theorem dX1_note_72 : decode cX1_note 72 = .ok (.iadd, 1) := by decide +kernel
theorem dX1_note_73 : decode cX1_note 73 = .ok (.putfield 56, 3) := by decide +kernel
theorem dX1_note_76 : decode cX1_note 76 = .ok (.return_, 1) := by decide +kernel
noncomputable def f_X1_note_36 (M : ZMem) (x1 : Int32) (x2 : Int32) (x3 : Int32) : Option ZMem := zchk (zin (M.1 20 11) 20) (zbnd (zstI M 27 (zix (M.1 20 11)) x1) (fun M_45 => zchk (zin (M_45.1 20 11) 20) (zbnd (zstI M_45 28 (zix (M_45.1 20 11)) x2) (fun M_55 => zchk (zin (M_55.1 20 11) 20) (zbnd (zstI M_55 29 (zix (M_55.1 20 11)) x3) (fun M_65 => zbnd (zstI M_65 20 11 ((M_65.1 20 11) + (zI 1))) (fun M_73 => some M_73)))))))
set_option maxRecDepth 100000 in
set_option maxHeartbeats 4000000 in
theorem w_X1_note_36 {E : ZEv} {G : ZG} {K : ZMem → Prop} (h : zRu lyC E G (zRv K) cX1_note RX1 4 none 1) (M : ZMem) (x1 : Int32) (x2 : Int32) (x3 : Int32) (hk : zOk (f_X1_note_36 M x1 x2 x3) K) : G M 36 [(0, zrf E 20), (1, .int x1), (2, .int x2), (3, .int x3)] [] := by
  unfold f_X1_note_36 at hk
  refine zr_aload_n h dX1_note_36 0 rfl rfl ?_
  refine zr_getR h zfo_X1_31 lC_20 rfl dX1_note_37 ?_
  refine zr_aload_n h dX1_note_40 0 rfl rfl ?_
  refine zr_getI h zfo_X1_56 lC_20 rfl dX1_note_41 ?_
  refine zr_iload_n h dX1_note_44 1 rfl rfl ?_
  have hb := zOk_chk hk
  have hk := hb.2
  refine zr_iast h lC_27 hb.1 dX1_note_45 ?_
  refine zr_mem (fun M_45 eM => ?_)
  have hk := zOk_bnd eM hk
  refine zr_aload_n h dX1_note_46 0 rfl rfl ?_
  refine zr_getR h zfo_X1_34 lC_20 rfl dX1_note_47 ?_
  refine zr_aload_n h dX1_note_50 0 rfl rfl ?_
  refine zr_getI h zfo_X1_56 lC_20 rfl dX1_note_51 ?_
  refine zr_iload_n h dX1_note_54 2 rfl rfl ?_
  have hb := zOk_chk hk
  have hk := hb.2
  refine zr_iast h lC_28 hb.1 dX1_note_55 ?_
  refine zr_mem (fun M_55 eM => ?_)
  have hk := zOk_bnd eM hk
  refine zr_aload_n h dX1_note_56 0 rfl rfl ?_
  refine zr_getR h zfo_X1_37 lC_20 rfl dX1_note_57 ?_
  refine zr_aload_n h dX1_note_60 0 rfl rfl ?_
  refine zr_getI h zfo_X1_56 lC_20 rfl dX1_note_61 ?_
  refine zr_iload_n h dX1_note_64 3 rfl rfl ?_
  have hb := zOk_chk hk
  have hk := hb.2
  refine zr_iast h lC_29 hb.1 dX1_note_65 ?_
  refine zr_mem (fun M_65 eM => ?_)
  have hk := zOk_bnd eM hk
  refine zr_aload_n h dX1_note_66 0 rfl rfl ?_
  refine zr_dup h dX1_note_67 rfl ?_
  refine zr_getI h zfo_X1_56 lC_20 rfl dX1_note_68 ?_
  refine zr_iconst (v := (zI 1)) h dX1_note_71 rfl ?_
  refine zr_iadd h dX1_note_72 ?_
  refine zr_putI h zfp_X1_56 lC_20 rfl dX1_note_73 ?_
  refine zr_mem (fun M_73 eM => ?_)
  have hk := zOk_bnd eM hk
  have hk := zOk_some hk
  exact zr_vret h dX1_note_76 ⟨rfl, hk⟩
noncomputable def f_X1_note (M : ZMem) (x1 : Int32) (x2 : Int32) (x3 : Int32) : Option ZMem := if (M.1 20 11) < (zI 20) then f_X1_note_36 M x1 x2 x3 else zbind (f_X1_forgetFirst 27 20 M) (fun M_13 => zbind (f_X1_forgetFirst 28 20 M_13) (fun M_20 => zbind (f_X1_forgetFirst 29 20 M_20) (fun M_27 => zbnd (zstI M_27 20 11 (zI 19)) (fun M_33 => f_X1_note_36 M_33 x1 x2 x3))))
set_option maxRecDepth 100000 in
set_option maxHeartbeats 4000000 in
theorem c_X1_note (E : ZEv) (M : ZMem) (x1 : Int32) (x2 : Int32) (x3 : Int32) (K : ZMem → Prop) (hk : zOk (f_X1_note M x1 x2 x3) K) : zCon lyC E yX1_note cX1_note 4 none 1 [zrf E 20, .int x1, .int x2, .int x3] M (zRv K) := by
  refine zcon_of (L0 := [(0, zrf E 20), (1, .int x1), (2, .int x2), (3, .int x3)]) (by decide) rfl (Nat.le_of_ble_eq_true rfl) (fun G h => ?_)
  have h : zRu lyC E G (zRv K) cX1_note RX1 4 none 1 := h
  unfold f_X1_note at hk
  refine zr_aload_n h dX1_note_0 0 rfl rfl ?_
  refine zr_getI h zfo_X1_56 lC_20 rfl dX1_note_1 ?_
  refine zr_bipush (v := (zI 20)) h dX1_note_4 (by decide) ?_
  refine zr_icmp_lt (tgt := 36) h dX1_note_6 (by decide) (fun c => ?_) (fun c => ?_)
  · have hk := zOk_t c hk
    exact w_X1_note_36 h M x1 x2 x3 hk
  · have hk := zOk_f c hk
    refine zr_aload_n h dX1_note_9 0 rfl rfl ?_
    refine zr_getR h zfo_X1_31 lC_20 rfl dX1_note_10 ?_
    refine zr_callSv h zcw_X1_83 (by decide) (c_X1_forgetFirst E 27 20 lC_27 M _ (zOk_bind hk)) rfl rfl (Nat.le_of_ble_eq_true rfl) dX1_note_13 (fun M_13 hk => ?_)
    refine zr_aload_n h dX1_note_16 0 rfl rfl ?_
    refine zr_getR h zfo_X1_34 lC_20 rfl dX1_note_17 ?_
    refine zr_callSv h zcw_X1_83 (by decide) (c_X1_forgetFirst E 28 20 lC_28 M_13 _ (zOk_bind hk)) rfl rfl (Nat.le_of_ble_eq_true rfl) dX1_note_20 (fun M_20 hk => ?_)
    refine zr_aload_n h dX1_note_23 0 rfl rfl ?_
    refine zr_getR h zfo_X1_37 lC_20 rfl dX1_note_24 ?_
    refine zr_callSv h zcw_X1_83 (by decide) (c_X1_forgetFirst E 29 20 lC_29 M_20 _ (zOk_bind hk)) rfl rfl (Nat.le_of_ble_eq_true rfl) dX1_note_27 (fun M_27 hk => ?_)
    refine zr_aload_n h dX1_note_30 0 rfl rfl ?_
    refine zr_bipush (v := (zI 19)) h dX1_note_31 (by decide) ?_
    refine zr_putI h zfp_X1_56 lC_20 rfl dX1_note_33 ?_
    refine zr_mem (fun M_33 eM => ?_)
    have hk := zOk_bnd eM hk
    exact w_X1_note_36 h M_33 x1 x2 x3 hk
theorem dX1_set_0 : decode cX1_set 0 = .ok (.iload_n 1, 1) := by decide +kernel
theorem dX1_set_1 : decode cX1_set 1 = .ok (.ifCond .lt 31, 3) := by decide +kernel
theorem dX1_set_4 : decode cX1_set 4 = .ok (.iload_n 1, 1) := by decide +kernel
theorem dX1_set_5 : decode cX1_set 5 = .ok (.aload_n 0, 1) := by decide +kernel
theorem dX1_set_6 : decode cX1_set 6 = .ok (.getfield 9, 3) := by decide +kernel
theorem dX1_set_9 : decode cX1_set 9 = .ok (.arraylength, 1) := by decide +kernel
theorem dX1_set_10 : decode cX1_set 10 = .ok (.if_icmp .ge 22, 3) := by decide +kernel
theorem dX1_set_13 : decode cX1_set 13 = .ok (.aload_n 0, 1) := by decide +kernel
theorem dX1_set_14 : decode cX1_set 14 = .ok (.iload_n 1, 1) := by decide +kernel
theorem dX1_set_15 : decode cX1_set 15 = .ok (.iload_n 1, 1) := by decide +kernel
theorem dX1_set_16 : decode cX1_set 16 = .ok (.aload_n 0, 1) := by decide +kernel
theorem dX1_set_17 : decode cX1_set 17 = .ok (.getfield 9, 3) := by decide +kernel
theorem dX1_set_20 : decode cX1_set 20 = .ok (.iload_n 1, 1) := by decide +kernel
theorem dX1_set_21 : decode cX1_set 21 = .ok (.iaload, 1) := by decide +kernel
theorem dX1_set_22 : decode cX1_set 22 = .ok (.invokevirtual 59, 3) := by decide +kernel
theorem dX1_set_25 : decode cX1_set 25 = .ok (.aload_n 0, 1) := by decide +kernel
theorem dX1_set_26 : decode cX1_set 26 = .ok (.getfield 9, 3) := by decide +kernel
theorem dX1_set_29 : decode cX1_set 29 = .ok (.iload_n 1, 1) := by decide +kernel
theorem dX1_set_30 : decode cX1_set 30 = .ok (.iload_n 2, 1) := by decide +kernel
theorem dX1_set_31 : decode cX1_set 31 = .ok (.iastore, 1) := by decide +kernel
theorem dX1_set_32 : decode cX1_set 32 = .ok (.return_, 1) := by decide +kernel
noncomputable def f_X1_set (M : ZMem) (x1 : Int32) (x2 : Int32) : Option ZMem := if x1 < (zI 0) then some M else if (zI 3) ≤ x1 then some M else zchk (zin x1 3) (zbind (f_X1_note M x1 x1 (M.1 21 (zix x1))) (fun M_22 => zchk (zin x1 3) (zbnd (zstI M_22 21 (zix x1) x2) (fun M_31 => some M_31))))
set_option maxRecDepth 100000 in
set_option maxHeartbeats 4000000 in
theorem c_X1_set (E : ZEv) (M : ZMem) (x1 : Int32) (x2 : Int32) (K : ZMem → Prop) (hk : zOk (f_X1_set M x1 x2) K) : zCon lyC E yX1_set cX1_set 3 none 2 [zrf E 20, .int x1, .int x2] M (zRv K) := by
  refine zcon_of (L0 := [(0, zrf E 20), (1, .int x1), (2, .int x2)]) (by decide) rfl (Nat.le_of_ble_eq_true rfl) (fun G h => ?_)
  have h : zRu lyC E G (zRv K) cX1_set RX1 3 none 2 := h
  unfold f_X1_set at hk
  refine zr_iload_n h dX1_set_0 1 rfl rfl ?_
  refine zr_if_lt (tgt := 32) h dX1_set_1 (by decide) (fun c => ?_) (fun c => ?_)
  · have hk := zOk_t c hk
    have hk := zOk_some hk
    exact zr_vret h dX1_set_32 ⟨rfl, hk⟩
  · have hk := zOk_f c hk
    refine zr_iload_n h dX1_set_4 1 rfl rfl ?_
    refine zr_aload_n h dX1_set_5 0 rfl rfl ?_
    refine zr_getR h zfo_X1_9 lC_20 rfl dX1_set_6 ?_
    refine zr_alen h (by decide) lC_21 dX1_set_9 ?_
    refine zr_icmp_ge (tgt := 32) h dX1_set_10 (by decide) (fun c => ?_) (fun c => ?_)
    · have hk := zOk_t c hk
      have hk := zOk_some hk
      exact zr_vret h dX1_set_32 ⟨rfl, hk⟩
    · have hk := zOk_f c hk
      refine zr_aload_n h dX1_set_13 0 rfl rfl ?_
      refine zr_iload_n h dX1_set_14 1 rfl rfl ?_
      refine zr_iload_n h dX1_set_15 1 rfl rfl ?_
      refine zr_aload_n h dX1_set_16 0 rfl rfl ?_
      refine zr_getR h zfo_X1_9 lC_20 rfl dX1_set_17 ?_
      refine zr_iload_n h dX1_set_20 1 rfl rfl ?_
      have hb := zOk_chk hk
      have hk := hb.2
      refine zr_iald h lC_21 hb.1 dX1_set_21 ?_
      refine zr_callVv h lC_20 zcw_X1_59 (by decide) (c_X1_note E M x1 x1 (M.1 21 (zix x1)) _ (zOk_bind hk)) rfl rfl (Nat.le_of_ble_eq_true rfl) dX1_set_22 (fun M_22 hk => ?_)
      refine zr_aload_n h dX1_set_25 0 rfl rfl ?_
      refine zr_getR h zfo_X1_9 lC_20 rfl dX1_set_26 ?_
      refine zr_iload_n h dX1_set_29 1 rfl rfl ?_
      refine zr_iload_n h dX1_set_30 2 rfl rfl ?_
      have hb := zOk_chk hk
      have hk := hb.2
      refine zr_iast h lC_21 hb.1 dX1_set_31 ?_
      refine zr_mem (fun M_31 eM => ?_)
      have hk := zOk_bnd eM hk
      have hk := zOk_some hk
      exact zr_vret h dX1_set_32 ⟨rfl, hk⟩
theorem dX1_tellTie_0 : decode cX1_tellTie 0 = .ok (.iload_n 1, 1) := by decide +kernel
theorem dX1_tellTie_1 : decode cX1_tellTie 1 = .ok (.iload_n 2, 1) := by decide +kernel
theorem dX1_tellTie_2 : decode cX1_tellTie 2 = .ok (.invokestatic 72, 3) := by decide +kernel
theorem dX1_tellTie_5 : decode cX1_tellTie 5 = .ok (.istore 5, 2) := by decide +kernel
theorem dX1_tellTie_7 : decode cX1_tellTie 7 = .ok (.iload 5, 2) := by decide +kernel
theorem dX1_tellTie_9 : decode cX1_tellTie 9 = .ok (.ifCond .lt 34, 3) := by decide +kernel
theorem dX1_tellTie_12 : decode cX1_tellTie 12 = .ok (.iload 5, 2) := by decide +kernel
theorem dX1_tellTie_14 : decode cX1_tellTie 14 = .ok (.aload_n 0, 1) := by decide +kernel
theorem dX1_tellTie_15 : decode cX1_tellTie 15 = .ok (.getfield 15, 3) := by decide +kernel
theorem dX1_tellTie_18 : decode cX1_tellTie 18 = .ok (.arraylength, 1) := by decide +kernel
theorem dX1_tellTie_19 : decode cX1_tellTie 19 = .ok (.if_icmp .ge 24, 3) := by decide +kernel
theorem dX1_tellTie_22 : decode cX1_tellTie 22 = .ok (.aload_n 0, 1) := by decide +kernel
theorem dX1_tellTie_23 : decode cX1_tellTie 23 = .ok (.getfield 15, 3) := by decide +kernel
theorem dX1_tellTie_26 : decode cX1_tellTie 26 = .ok (.iload 5, 2) := by decide +kernel
theorem dX1_tellTie_28 : decode cX1_tellTie 28 = .ok (.iaload, 1) := by decide +kernel
theorem dX1_tellTie_29 : decode cX1_tellTie 29 = .ok (.iload_n 3, 1) := by decide +kernel
theorem dX1_tellTie_30 : decode cX1_tellTie 30 = .ok (.if_icmp .ne 7, 3) := by decide +kernel
theorem dX1_tellTie_33 : decode cX1_tellTie 33 = .ok (.iconst 1, 1) := by decide +kernel
theorem dX1_tellTie_34 : decode cX1_tellTie 34 = .ok (.goto 4, 3) := by decide +kernel
theorem dX1_tellTie_37 : decode cX1_tellTie 37 = .ok (.iconst 0, 1) := by decide +kernel
theorem dX1_tellTie_38 : decode cX1_tellTie 38 = .ok (.iload 4, 2) := by decide +kernel
theorem dX1_tellTie_40 : decode cX1_tellTie 40 = .ok (.if_icmp .ne 5, 3) := by decide +kernel
theorem dX1_tellTie_43 : decode cX1_tellTie 43 = .ok (.iconst 0, 1) := by decide +kernel
theorem dX1_tellTie_44 : decode cX1_tellTie 44 = .ok (.ireturn, 1) := by decide +kernel
theorem dX1_tellTie_45 : decode cX1_tellTie 45 = .ok (.aload_n 0, 1) := by decide +kernel
theorem dX1_tellTie_46 : decode cX1_tellTie 46 = .ok (.iconst 3, 1) := by decide +kernel
theorem dX1_tellTie_47 : decode cX1_tellTie 47 = .ok (.iload 5, 2) := by decide +kernel
theorem dX1_tellTie_49 : decode cX1_tellTie 49 = .ok (.aload_n 0, 1) := by decide +kernel
theorem dX1_tellTie_50 : decode cX1_tellTie 50 = .ok (.getfield 15, 3) := by decide +kernel
theorem dX1_tellTie_53 : decode cX1_tellTie 53 = .ok (.iload 5, 2) := by decide +kernel
theorem dX1_tellTie_55 : decode cX1_tellTie 55 = .ok (.iaload, 1) := by decide +kernel
theorem dX1_tellTie_56 : decode cX1_tellTie 56 = .ok (.invokevirtual 59, 3) := by decide +kernel
theorem dX1_tellTie_59 : decode cX1_tellTie 59 = .ok (.aload_n 0, 1) := by decide +kernel
theorem dX1_tellTie_60 : decode cX1_tellTie 60 = .ok (.getfield 15, 3) := by decide +kernel
theorem dX1_tellTie_63 : decode cX1_tellTie 63 = .ok (.iload 5, 2) := by decide +kernel
theorem dX1_tellTie_65 : decode cX1_tellTie 65 = .ok (.iload 4, 2) := by decide +kernel
theorem dX1_tellTie_67 : decode cX1_tellTie 67 = .ok (.ifCond .eq 7, 3) := by decide +kernel
theorem dX1_tellTie_70 : decode cX1_tellTie 70 = .ok (.iload_n 3, 1) := by decide +kernel
theorem dX1_tellTie_71 : decode cX1_tellTie 71 = .ok (.goto 4, 3) := by decide +kernel
theorem dX1_tellTie_74 : decode cX1_tellTie 74 = .ok (.iconst 0, 1) := by decide +kernel
theorem dX1_tellTie_75 : decode cX1_tellTie 75 = .ok (.iastore, 1) := by decide +kernel
theorem dX1_tellTie_76 : decode cX1_tellTie 76 = .ok (.iconst 1, 1) := by decide +kernel
theorem dX1_tellTie_77 : decode cX1_tellTie 77 = .ok (.ireturn, 1) := by decide +kernel
noncomputable def f_X1_tellTie_75 (M : ZMem) (v1 : Int32) (v2 : Int32) : Option (ZMem × Int32) := zchk (zin v1 400) (zbnd (zstI M 22 (zix v1) v2) (fun M_75 => some (M_75, (zI 1))))
set_option maxRecDepth 100000 in
set_option maxHeartbeats 4000000 in
theorem w_X1_tellTie_75 {E : ZEv} {G : ZG} {K : (ZMem × Int32) → Prop} (h : zRu lyC E G (zRm K) cX1_tellTie RX1 6 (some .boolean) 2) (M : ZMem) (v1 : Int32) (v2 : Int32) (hk : zOk (f_X1_tellTie_75 M v1 v2) K) : G M 75 [] [.int v2, .int v1, zrf E 22] := by
  unfold f_X1_tellTie_75 at hk
  have hb := zOk_chk hk
  have hk := hb.2
  refine zr_iast h lC_22 hb.1 dX1_tellTie_75 ?_
  refine zr_mem (fun M_75 eM => ?_)
  have hk := zOk_bnd eM hk
  refine zr_iconst (v := (zI 1)) h dX1_tellTie_76 rfl ?_
  have hk := zOk_some hk
  exact zr_zret h dX1_tellTie_77 (by decide) ⟨_, rfl, hk⟩
noncomputable def f_X1_tellTie_38 (M : ZMem) (x3 : Int32) (x4 : Int32) (x5 : Int32) (v0 : Int32) : Option (ZMem × Int32) := if v0 = x4 then some (M, (zI 0)) else zchk (zin x5 400) (zbind (f_X1_note M (zI 3) x5 (M.1 22 (zix x5))) (fun M_56 => if x4 = (zI 0) then f_X1_tellTie_75 M_56 x5 (zI 0) else f_X1_tellTie_75 M_56 x5 x3))
set_option maxRecDepth 100000 in
set_option maxHeartbeats 4000000 in
theorem w_X1_tellTie_38 {E : ZEv} {G : ZG} {K : (ZMem × Int32) → Prop} (h : zRu lyC E G (zRm K) cX1_tellTie RX1 6 (some .boolean) 2) (M : ZMem) (x3 : Int32) (x4 : Int32) (x5 : Int32) (v0 : Int32) (hk : zOk (f_X1_tellTie_38 M x3 x4 x5 v0) K) : G M 38 [(0, zrf E 20), (3, .int x3), (4, .int x4), (5, .int x5)] [.int v0] := by
  unfold f_X1_tellTie_38 at hk
  refine zr_iload h dX1_tellTie_38 2 rfl ?_
  refine zr_icmp_ne (tgt := 45) h dX1_tellTie_40 (by decide) (fun c => ?_) (fun c => ?_)
  · have hk := zOk_t c hk
    refine zr_iconst (v := (zI 0)) h dX1_tellTie_43 rfl ?_
    have hk := zOk_some hk
    exact zr_zret h dX1_tellTie_44 (by decide) ⟨_, rfl, hk⟩
  · have hk := zOk_f c hk
    refine zr_aload_n h dX1_tellTie_45 0 rfl rfl ?_
    refine zr_iconst (v := (zI 3)) h dX1_tellTie_46 rfl ?_
    refine zr_iload h dX1_tellTie_47 3 rfl ?_
    refine zr_aload_n h dX1_tellTie_49 0 rfl rfl ?_
    refine zr_getR h zfo_X1_15 lC_20 rfl dX1_tellTie_50 ?_
    refine zr_iload h dX1_tellTie_53 3 rfl ?_
    have hb := zOk_chk hk
    have hk := hb.2
    refine zr_iald h lC_22 hb.1 dX1_tellTie_55 ?_
    refine zr_callVv h lC_20 zcw_X1_59 (by decide) (c_X1_note E M (zI 3) x5 (M.1 22 (zix x5)) _ (zOk_bind hk)) rfl rfl (Nat.le_of_ble_eq_true rfl) dX1_tellTie_56 (fun M_56 hk => ?_)
    refine zr_aload_n h dX1_tellTie_59 0 rfl rfl ?_
    refine zr_getR h zfo_X1_15 lC_20 rfl dX1_tellTie_60 ?_
    refine zr_iload h dX1_tellTie_63 3 rfl ?_
    refine zr_iload h dX1_tellTie_65 2 rfl ?_
    refine zr_if_eq (tgt := 74) h dX1_tellTie_67 (by decide) (fun c => ?_) (fun c => ?_)
    · have hk := zOk_t c hk
      refine zr_iconst (v := (zI 0)) h dX1_tellTie_74 rfl ?_
      exact zr_weak h [] rfl (w_X1_tellTie_75 h M_56 x5 (zI 0) hk)
    · have hk := zOk_f c hk
      refine zr_iload_n h dX1_tellTie_70 1 rfl rfl ?_
      refine zr_goto (tgt := 75) h dX1_tellTie_71 (by decide) ?_
      exact zr_weak h [] rfl (w_X1_tellTie_75 h M_56 x5 x3 hk)
noncomputable def f_X1_tellTie (M : ZMem) (x1 : Int32) (x2 : Int32) (x3 : Int32) (x4 : Int32) : Option (ZMem × Int32) := zbind (f_X1_tiePlace M x1 x2) (fun r_2 => if r_2 < (zI 0) then some (M, (zI 0)) else if (zI 400) ≤ r_2 then some (M, (zI 0)) else zchk (zin r_2 400) (if (M.1 22 (zix r_2)) = x3 then f_X1_tellTie_38 M x3 x4 r_2 (zI 1) else f_X1_tellTie_38 M x3 x4 r_2 (zI 0)))
set_option maxRecDepth 100000 in
set_option maxHeartbeats 4000000 in
theorem c_X1_tellTie (E : ZEv) (M : ZMem) (x1 : Int32) (x2 : Int32) (x3 : Int32) (x4 : Int32) (K : ZMem × Int32 → Prop) (hk : zOk (f_X1_tellTie M x1 x2 x3 x4) K) : zCon lyC E yX1_tellTie cX1_tellTie 6 (some .boolean) 2 [zrf E 20, .int x1, .int x2, .int x3, .int x4] M (zRm K) := by
  refine zcon_of (L0 := [(0, zrf E 20), (1, .int x1), (2, .int x2), (3, .int x3), (4, .int x4)]) (by decide) rfl (Nat.le_of_ble_eq_true rfl) (fun G h => ?_)
  have h : zRu lyC E G (zRm K) cX1_tellTie RX1 6 (some .boolean) 2 := h
  unfold f_X1_tellTie at hk
  refine zr_iload_n h dX1_tellTie_0 1 rfl rfl ?_
  refine zr_iload_n h dX1_tellTie_1 2 rfl rfl ?_
  refine zr_callSp h zcw_X1_72 (by decide) (c_X1_tiePlace E M x1 x2 _ (zOk_bind hk)) rfl rfl (Nat.le_of_ble_eq_true rfl) dX1_tellTie_2 (fun r_2 hk => ?_)
  refine zr_istore (L' := [(0, zrf E 20), (3, .int x3), (4, .int x4), (5, .int r_2)]) h [1, 4, 5, 0] dX1_tellTie_5 (by decide) rfl ?_
  refine zr_iload h dX1_tellTie_7 3 rfl ?_
  refine zr_if_lt (tgt := 43) h dX1_tellTie_9 (by decide) (fun c => ?_) (fun c => ?_)
  · have hk := zOk_t c hk
    refine zr_iconst (v := (zI 0)) h dX1_tellTie_43 rfl ?_
    have hk := zOk_some hk
    exact zr_zret h dX1_tellTie_44 (by decide) ⟨_, rfl, hk⟩
  · have hk := zOk_f c hk
    refine zr_iload h dX1_tellTie_12 3 rfl ?_
    refine zr_aload_n h dX1_tellTie_14 0 rfl rfl ?_
    refine zr_getR h zfo_X1_15 lC_20 rfl dX1_tellTie_15 ?_
    refine zr_alen h (by decide) lC_22 dX1_tellTie_18 ?_
    refine zr_icmp_ge (tgt := 43) h dX1_tellTie_19 (by decide) (fun c => ?_) (fun c => ?_)
    · have hk := zOk_t c hk
      refine zr_iconst (v := (zI 0)) h dX1_tellTie_43 rfl ?_
      have hk := zOk_some hk
      exact zr_zret h dX1_tellTie_44 (by decide) ⟨_, rfl, hk⟩
    · have hk := zOk_f c hk
      refine zr_aload_n h dX1_tellTie_22 0 rfl rfl ?_
      refine zr_getR h zfo_X1_15 lC_20 rfl dX1_tellTie_23 ?_
      refine zr_iload h dX1_tellTie_26 3 rfl ?_
      have hb := zOk_chk hk
      have hk := hb.2
      refine zr_iald h lC_22 hb.1 dX1_tellTie_28 ?_
      refine zr_iload_n h dX1_tellTie_29 1 rfl rfl ?_
      refine zr_icmp_ne (tgt := 37) h dX1_tellTie_30 (by decide) (fun c => ?_) (fun c => ?_)
      · have hk := zOk_t c hk
        refine zr_iconst (v := (zI 1)) h dX1_tellTie_33 rfl ?_
        refine zr_goto (tgt := 38) h dX1_tellTie_34 (by decide) ?_
        exact w_X1_tellTie_38 h M x3 x4 r_2 (zI 1) hk
      · have hk := zOk_f c hk
        refine zr_iconst (v := (zI 0)) h dX1_tellTie_37 rfl ?_
        exact w_X1_tellTie_38 h M x3 x4 r_2 (zI 0) hk
theorem dX1_clueIsTold_0 : decode cX1_clueIsTold 0 = .ok (.iconst 0, 1) := by decide +kernel
theorem dX1_clueIsTold_1 : decode cX1_clueIsTold 1 = .ok (.istore 4, 2) := by decide +kernel
theorem dX1_clueIsTold_3 : decode cX1_clueIsTold 3 = .ok (.iload 4, 2) := by decide +kernel
theorem dX1_clueIsTold_5 : decode cX1_clueIsTold 5 = .ok (.aload_n 0, 1) := by decide +kernel
theorem dX1_clueIsTold_6 : decode cX1_clueIsTold 6 = .ok (.getfield 49, 3) := by decide +kernel
theorem dX1_clueIsTold_9 : decode cX1_clueIsTold 9 = .ok (.if_icmp .ge 90, 3) := by decide +kernel
theorem dX1_clueIsTold_12 : decode cX1_clueIsTold 12 = .ok (.aload_n 0, 1) := by decide +kernel
theorem dX1_clueIsTold_13 : decode cX1_clueIsTold 13 = .ok (.getfield 18, 3) := by decide +kernel
theorem dX1_clueIsTold_16 : decode cX1_clueIsTold 16 = .ok (.iload 4, 2) := by decide +kernel
theorem dX1_clueIsTold_18 : decode cX1_clueIsTold 18 = .ok (.iaload, 1) := by decide +kernel
theorem dX1_clueIsTold_19 : decode cX1_clueIsTold 19 = .ok (.iload_n 1, 1) := by decide +kernel
theorem dX1_clueIsTold_20 : decode cX1_clueIsTold 20 = .ok (.if_icmp .ne 18, 3) := by decide +kernel
theorem dX1_clueIsTold_23 : decode cX1_clueIsTold 23 = .ok (.aload_n 0, 1) := by decide +kernel
theorem dX1_clueIsTold_24 : decode cX1_clueIsTold 24 = .ok (.getfield 21, 3) := by decide +kernel
theorem dX1_clueIsTold_27 : decode cX1_clueIsTold 27 = .ok (.iload 4, 2) := by decide +kernel
theorem dX1_clueIsTold_29 : decode cX1_clueIsTold 29 = .ok (.iaload, 1) := by decide +kernel
theorem dX1_clueIsTold_30 : decode cX1_clueIsTold 30 = .ok (.iload_n 2, 1) := by decide +kernel
theorem dX1_clueIsTold_31 : decode cX1_clueIsTold 31 = .ok (.if_icmp .ne 7, 3) := by decide +kernel
theorem dX1_clueIsTold_34 : decode cX1_clueIsTold 34 = .ok (.iconst 1, 1) := by decide +kernel
theorem dX1_clueIsTold_35 : decode cX1_clueIsTold 35 = .ok (.goto 4, 3) := by decide +kernel
theorem dX1_clueIsTold_38 : decode cX1_clueIsTold 38 = .ok (.iconst 0, 1) := by decide +kernel
theorem dX1_clueIsTold_39 : decode cX1_clueIsTold 39 = .ok (.istore 5, 2) := by decide +kernel
theorem dX1_clueIsTold_41 : decode cX1_clueIsTold 41 = .ok (.aload_n 0, 1) := by decide +kernel
theorem dX1_clueIsTold_42 : decode cX1_clueIsTold 42 = .ok (.getfield 18, 3) := by decide +kernel
theorem dX1_clueIsTold_45 : decode cX1_clueIsTold 45 = .ok (.iload 4, 2) := by decide +kernel
theorem dX1_clueIsTold_47 : decode cX1_clueIsTold 47 = .ok (.iaload, 1) := by decide +kernel
theorem dX1_clueIsTold_48 : decode cX1_clueIsTold 48 = .ok (.iload_n 2, 1) := by decide +kernel
theorem dX1_clueIsTold_49 : decode cX1_clueIsTold 49 = .ok (.if_icmp .ne 18, 3) := by decide +kernel
theorem dX1_clueIsTold_52 : decode cX1_clueIsTold 52 = .ok (.aload_n 0, 1) := by decide +kernel
theorem dX1_clueIsTold_53 : decode cX1_clueIsTold 53 = .ok (.getfield 21, 3) := by decide +kernel
theorem dX1_clueIsTold_56 : decode cX1_clueIsTold 56 = .ok (.iload 4, 2) := by decide +kernel
theorem dX1_clueIsTold_58 : decode cX1_clueIsTold 58 = .ok (.iaload, 1) := by decide +kernel
theorem dX1_clueIsTold_59 : decode cX1_clueIsTold 59 = .ok (.iload_n 1, 1) := by decide +kernel
theorem dX1_clueIsTold_60 : decode cX1_clueIsTold 60 = .ok (.if_icmp .ne 7, 3) := by decide +kernel
theorem dX1_clueIsTold_63 : decode cX1_clueIsTold 63 = .ok (.iconst 1, 1) := by decide +kernel
theorem dX1_clueIsTold_64 : decode cX1_clueIsTold 64 = .ok (.goto 4, 3) := by decide +kernel
theorem dX1_clueIsTold_67 : decode cX1_clueIsTold 67 = .ok (.iconst 0, 1) := by decide +kernel
theorem dX1_clueIsTold_68 : decode cX1_clueIsTold 68 = .ok (.istore 6, 2) := by decide +kernel
theorem dX1_clueIsTold_70 : decode cX1_clueIsTold 70 = .ok (.aload_n 0, 1) := by decide +kernel
theorem dX1_clueIsTold_71 : decode cX1_clueIsTold 71 = .ok (.getfield 24, 3) := by decide +kernel
theorem dX1_clueIsTold_74 : decode cX1_clueIsTold 74 = .ok (.iload 4, 2) := by decide +kernel
theorem dX1_clueIsTold_76 : decode cX1_clueIsTold 76 = .ok (.baload, 1) := by decide +kernel
theorem dX1_clueIsTold_77 : decode cX1_clueIsTold 77 = .ok (.iload_n 3, 1) := by decide +kernel
theorem dX1_clueIsTold_78 : decode cX1_clueIsTold 78 = .ok (.if_icmp .ne 15, 3) := by decide +kernel
theorem dX1_clueIsTold_81 : decode cX1_clueIsTold 81 = .ok (.iload 5, 2) := by decide +kernel
theorem dX1_clueIsTold_83 : decode cX1_clueIsTold 83 = .ok (.ifCond .ne 8, 3) := by decide +kernel
theorem dX1_clueIsTold_86 : decode cX1_clueIsTold 86 = .ok (.iload 6, 2) := by decide +kernel
theorem dX1_clueIsTold_88 : decode cX1_clueIsTold 88 = .ok (.ifCond .eq 5, 3) := by decide +kernel
theorem dX1_clueIsTold_91 : decode cX1_clueIsTold 91 = .ok (.iconst 1, 1) := by decide +kernel
theorem dX1_clueIsTold_92 : decode cX1_clueIsTold 92 = .ok (.ireturn, 1) := by decide +kernel
theorem dX1_clueIsTold_93 : decode cX1_clueIsTold 93 = .ok (.iinc 4 1, 3) := by decide +kernel
theorem dX1_clueIsTold_96 : decode cX1_clueIsTold 96 = .ok (.goto (-93), 3) := by decide +kernel
theorem dX1_clueIsTold_99 : decode cX1_clueIsTold 99 = .ok (.iconst 0, 1) := by decide +kernel
theorem dX1_clueIsTold_100 : decode cX1_clueIsTold 100 = .ok (.ireturn, 1) := by decide +kernel
noncomputable def f_X1_clueIsTold_68_L3 (M : ZMem) (x1 : Int32) (x2 : Int32) (x3 : Int32) (x4 : Int32) (x5 : Int32) (v0 : Int32) : Option ((Int32) ⊕ ((Unit) ⊕ Int32)) := zchk (zin x4 12) (if (M.1 25 (zix x4)) = x3 then if x5 = (zI 0) then if v0 = (zI 0) then zbnd (x4 + (zI 1)) (fun x4_93 => some (.inl x4_93)) else some (.inr (.inr (zI 1))) else some (.inr (.inr (zI 1))) else zbnd (x4 + (zI 1)) (fun x4_93 => some (.inl x4_93)))
set_option maxRecDepth 100000 in
set_option maxHeartbeats 4000000 in
theorem w_X1_clueIsTold_68_L3 {E : ZEv} {G : ZG} {K : Int32 → Prop} (M : ZMem) (h : zRu lyC E G (zRp M K) cX1_clueIsTold RX1 7 (some .boolean) 0) (x1 : Int32) (x2 : Int32) (x3 : Int32) (x4 : Int32) (x5 : Int32) (v0 : Int32) (hk : zOk (f_X1_clueIsTold_68_L3 M x1 x2 x3 x4 x5 v0) (zlp (fun s => G M 3 [(0, zrf E 20), (1, .int x1), (2, .int x2), (3, .int x3), (4, .int s)] []) (fun e => zsel e (fun e0 => G M 99 [] []) (fun f0 => K f0)))) : G M 68 [(0, zrf E 20), (1, .int x1), (2, .int x2), (3, .int x3), (4, .int x4), (5, .int x5)] [.int v0] := by
  unfold f_X1_clueIsTold_68_L3 at hk
  refine zr_istore (L' := [(0, zrf E 20), (1, .int x1), (2, .int x2), (3, .int x3), (4, .int x4), (5, .int x5), (6, .int v0)]) h [1, 2, 3, 4, 5, 6, 0] dX1_clueIsTold_68 (by decide) rfl ?_
  refine zr_aload_n h dX1_clueIsTold_70 0 rfl rfl ?_
  refine zr_getR h zfo_X1_24 lC_20 rfl dX1_clueIsTold_71 ?_
  refine zr_iload h dX1_clueIsTold_74 4 rfl ?_
  have hb := zOk_chk hk
  have hk := hb.2
  refine zr_zald h lC_25 hb.1 dX1_clueIsTold_76 ?_
  refine zr_iload_n h dX1_clueIsTold_77 3 rfl rfl ?_
  refine zr_icmp_ne (tgt := 93) h dX1_clueIsTold_78 (by decide) (fun c => ?_) (fun c => ?_)
  · have hk := zOk_t c hk
    refine zr_iload h dX1_clueIsTold_81 5 rfl ?_
    refine zr_if_ne (tgt := 91) h dX1_clueIsTold_83 (by decide) (fun c => ?_) (fun c => ?_)
    · have hk := zOk_t c hk
      refine zr_iload h dX1_clueIsTold_86 6 rfl ?_
      refine zr_if_eq (tgt := 93) h dX1_clueIsTold_88 (by decide) (fun c => ?_) (fun c => ?_)
      · have hk := zOk_t c hk
        obtain ⟨x4_93, ex⟩ : ∃ y : Int32, y = x4 + (zI 1) := ⟨_, rfl⟩
        have hk := zOk_bnd ex hk
        refine zr_iinc (v := x4_93) (L' := [(0, zrf E 20), (1, .int x1), (2, .int x2), (3, .int x3), (4, .int x4_93)]) h 4 [1, 2, 3, 4, 0] dX1_clueIsTold_93 rfl (by rw [ex]; rfl) (by decide) rfl ?_
        refine zr_goto (tgt := 3) h dX1_clueIsTold_96 (by decide) ?_
        have hk := zOk_some hk
        exact zr_weak h [0, 1, 2, 3, 4] rfl hk
      · have hk := zOk_f c hk
        refine zr_iconst (v := (zI 1)) h dX1_clueIsTold_91 rfl ?_
        have hk := zOk_some hk
        exact zr_zret h dX1_clueIsTold_92 (by decide) ⟨rfl, _, rfl, hk⟩
    · have hk := zOk_f c hk
      refine zr_iconst (v := (zI 1)) h dX1_clueIsTold_91 rfl ?_
      have hk := zOk_some hk
      exact zr_zret h dX1_clueIsTold_92 (by decide) ⟨rfl, _, rfl, hk⟩
  · have hk := zOk_f c hk
    obtain ⟨x4_93, ex⟩ : ∃ y : Int32, y = x4 + (zI 1) := ⟨_, rfl⟩
    have hk := zOk_bnd ex hk
    refine zr_iinc (v := x4_93) (L' := [(0, zrf E 20), (1, .int x1), (2, .int x2), (3, .int x3), (4, .int x4_93)]) h 4 [1, 2, 3, 4, 0] dX1_clueIsTold_93 rfl (by rw [ex]; rfl) (by decide) rfl ?_
    refine zr_goto (tgt := 3) h dX1_clueIsTold_96 (by decide) ?_
    have hk := zOk_some hk
    exact zr_weak h [0, 1, 2, 3, 4] rfl hk
noncomputable def f_X1_clueIsTold_67_L3 (M : ZMem) (x1 : Int32) (x2 : Int32) (x3 : Int32) (x4 : Int32) (x5 : Int32) : Option ((Int32) ⊕ ((Unit) ⊕ Int32)) := f_X1_clueIsTold_68_L3 M x1 x2 x3 x4 x5 (zI 0)
set_option maxRecDepth 100000 in
set_option maxHeartbeats 4000000 in
theorem w_X1_clueIsTold_67_L3 {E : ZEv} {G : ZG} {K : Int32 → Prop} (M : ZMem) (h : zRu lyC E G (zRp M K) cX1_clueIsTold RX1 7 (some .boolean) 0) (x1 : Int32) (x2 : Int32) (x3 : Int32) (x4 : Int32) (x5 : Int32) (hk : zOk (f_X1_clueIsTold_67_L3 M x1 x2 x3 x4 x5) (zlp (fun s => G M 3 [(0, zrf E 20), (1, .int x1), (2, .int x2), (3, .int x3), (4, .int s)] []) (fun e => zsel e (fun e0 => G M 99 [] []) (fun f0 => K f0)))) : G M 67 [(0, zrf E 20), (1, .int x1), (2, .int x2), (3, .int x3), (4, .int x4), (5, .int x5)] [] := by
  unfold f_X1_clueIsTold_67_L3 at hk
  refine zr_iconst (v := (zI 0)) h dX1_clueIsTold_67 rfl ?_
  exact w_X1_clueIsTold_68_L3 M h x1 x2 x3 x4 x5 (zI 0) hk
noncomputable def f_X1_clueIsTold_39_L3 (M : ZMem) (x1 : Int32) (x2 : Int32) (x3 : Int32) (x4 : Int32) (v0 : Int32) : Option ((Int32) ⊕ ((Unit) ⊕ Int32)) := zchk (zin x4 12) (if (M.1 23 (zix x4)) = x2 then zchk (zin x4 12) (if (M.1 24 (zix x4)) = x1 then f_X1_clueIsTold_68_L3 M x1 x2 x3 x4 v0 (zI 1) else f_X1_clueIsTold_67_L3 M x1 x2 x3 x4 v0) else f_X1_clueIsTold_67_L3 M x1 x2 x3 x4 v0)
set_option maxRecDepth 100000 in
set_option maxHeartbeats 4000000 in
theorem w_X1_clueIsTold_39_L3 {E : ZEv} {G : ZG} {K : Int32 → Prop} (M : ZMem) (h : zRu lyC E G (zRp M K) cX1_clueIsTold RX1 7 (some .boolean) 0) (x1 : Int32) (x2 : Int32) (x3 : Int32) (x4 : Int32) (v0 : Int32) (hk : zOk (f_X1_clueIsTold_39_L3 M x1 x2 x3 x4 v0) (zlp (fun s => G M 3 [(0, zrf E 20), (1, .int x1), (2, .int x2), (3, .int x3), (4, .int s)] []) (fun e => zsel e (fun e0 => G M 99 [] []) (fun f0 => K f0)))) : G M 39 [(0, zrf E 20), (1, .int x1), (2, .int x2), (3, .int x3), (4, .int x4)] [.int v0] := by
  unfold f_X1_clueIsTold_39_L3 at hk
  refine zr_istore (L' := [(0, zrf E 20), (1, .int x1), (2, .int x2), (3, .int x3), (4, .int x4), (5, .int v0)]) h [1, 2, 3, 4, 5, 0] dX1_clueIsTold_39 (by decide) rfl ?_
  refine zr_aload_n h dX1_clueIsTold_41 0 rfl rfl ?_
  refine zr_getR h zfo_X1_18 lC_20 rfl dX1_clueIsTold_42 ?_
  refine zr_iload h dX1_clueIsTold_45 4 rfl ?_
  have hb := zOk_chk hk
  have hk := hb.2
  refine zr_iald h lC_23 hb.1 dX1_clueIsTold_47 ?_
  refine zr_iload_n h dX1_clueIsTold_48 2 rfl rfl ?_
  refine zr_icmp_ne (tgt := 67) h dX1_clueIsTold_49 (by decide) (fun c => ?_) (fun c => ?_)
  · have hk := zOk_t c hk
    refine zr_aload_n h dX1_clueIsTold_52 0 rfl rfl ?_
    refine zr_getR h zfo_X1_21 lC_20 rfl dX1_clueIsTold_53 ?_
    refine zr_iload h dX1_clueIsTold_56 4 rfl ?_
    have hb := zOk_chk hk
    have hk := hb.2
    refine zr_iald h lC_24 hb.1 dX1_clueIsTold_58 ?_
    refine zr_iload_n h dX1_clueIsTold_59 1 rfl rfl ?_
    refine zr_icmp_ne (tgt := 67) h dX1_clueIsTold_60 (by decide) (fun c => ?_) (fun c => ?_)
    · have hk := zOk_t c hk
      refine zr_iconst (v := (zI 1)) h dX1_clueIsTold_63 rfl ?_
      refine zr_goto (tgt := 68) h dX1_clueIsTold_64 (by decide) ?_
      exact w_X1_clueIsTold_68_L3 M h x1 x2 x3 x4 v0 (zI 1) hk
    · have hk := zOk_f c hk
      exact w_X1_clueIsTold_67_L3 M h x1 x2 x3 x4 v0 hk
  · have hk := zOk_f c hk
    exact w_X1_clueIsTold_67_L3 M h x1 x2 x3 x4 v0 hk
noncomputable def f_X1_clueIsTold_38_L3 (M : ZMem) (x1 : Int32) (x2 : Int32) (x3 : Int32) (x4 : Int32) : Option ((Int32) ⊕ ((Unit) ⊕ Int32)) := f_X1_clueIsTold_39_L3 M x1 x2 x3 x4 (zI 0)
set_option maxRecDepth 100000 in
set_option maxHeartbeats 4000000 in
theorem w_X1_clueIsTold_38_L3 {E : ZEv} {G : ZG} {K : Int32 → Prop} (M : ZMem) (h : zRu lyC E G (zRp M K) cX1_clueIsTold RX1 7 (some .boolean) 0) (x1 : Int32) (x2 : Int32) (x3 : Int32) (x4 : Int32) (hk : zOk (f_X1_clueIsTold_38_L3 M x1 x2 x3 x4) (zlp (fun s => G M 3 [(0, zrf E 20), (1, .int x1), (2, .int x2), (3, .int x3), (4, .int s)] []) (fun e => zsel e (fun e0 => G M 99 [] []) (fun f0 => K f0)))) : G M 38 [(0, zrf E 20), (1, .int x1), (2, .int x2), (3, .int x3), (4, .int x4)] [] := by
  unfold f_X1_clueIsTold_38_L3 at hk
  refine zr_iconst (v := (zI 0)) h dX1_clueIsTold_38 rfl ?_
  exact w_X1_clueIsTold_39_L3 M h x1 x2 x3 x4 (zI 0) hk
noncomputable def f_X1_clueIsTold_L3 (M : ZMem) (x1 : Int32) (x2 : Int32) (x3 : Int32) (s : (Int32)) : Option ((Int32) ⊕ ((Unit) ⊕ Int32)) := if (M.1 20 9) ≤ s then some (.inr (.inl ())) else zchk (zin s 12) (if (M.1 23 (zix s)) = x1 then zchk (zin s 12) (if (M.1 24 (zix s)) = x2 then f_X1_clueIsTold_39_L3 M x1 x2 x3 s (zI 1) else f_X1_clueIsTold_38_L3 M x1 x2 x3 s) else f_X1_clueIsTold_38_L3 M x1 x2 x3 s)
set_option maxRecDepth 100000 in
set_option maxHeartbeats 4000000 in
theorem w_X1_clueIsTold_L3 {E : ZEv} {G : ZG} {K : Int32 → Prop} (M : ZMem) (h : zRu lyC E G (zRp M K) cX1_clueIsTold RX1 7 (some .boolean) 0) (x1 : Int32) (x2 : Int32) (x3 : Int32) (s : (Int32)) (hk : zOk (zloop (f_X1_clueIsTold_L3 M x1 x2 x3) s) (fun e => zsel e (fun e0 => G M 99 [] []) (fun f0 => K f0))) : G M 3 [(0, zrf E 20), (1, .int x1), (2, .int x2), (3, .int x3), (4, .int s)] [] := by
  refine zloop_walk (P := fun s => G M 3 [(0, zrf E 20), (1, .int x1), (2, .int x2), (3, .int x3), (4, .int s)] []) hk (fun s hk => ?_)
  unfold f_X1_clueIsTold_L3 at hk
  refine zr_iload h dX1_clueIsTold_3 4 rfl ?_
  refine zr_aload_n h dX1_clueIsTold_5 0 rfl rfl ?_
  refine zr_getI h zfo_X1_49 lC_20 rfl dX1_clueIsTold_6 ?_
  refine zr_icmp_ge (tgt := 99) h dX1_clueIsTold_9 (by decide) (fun c => ?_) (fun c => ?_)
  · have hk := zOk_t c hk
    have hk := zOk_some hk
    exact zr_weak h [] rfl hk
  · have hk := zOk_f c hk
    refine zr_aload_n h dX1_clueIsTold_12 0 rfl rfl ?_
    refine zr_getR h zfo_X1_18 lC_20 rfl dX1_clueIsTold_13 ?_
    refine zr_iload h dX1_clueIsTold_16 4 rfl ?_
    have hb := zOk_chk hk
    have hk := hb.2
    refine zr_iald h lC_23 hb.1 dX1_clueIsTold_18 ?_
    refine zr_iload_n h dX1_clueIsTold_19 1 rfl rfl ?_
    refine zr_icmp_ne (tgt := 38) h dX1_clueIsTold_20 (by decide) (fun c => ?_) (fun c => ?_)
    · have hk := zOk_t c hk
      refine zr_aload_n h dX1_clueIsTold_23 0 rfl rfl ?_
      refine zr_getR h zfo_X1_21 lC_20 rfl dX1_clueIsTold_24 ?_
      refine zr_iload h dX1_clueIsTold_27 4 rfl ?_
      have hb := zOk_chk hk
      have hk := hb.2
      refine zr_iald h lC_24 hb.1 dX1_clueIsTold_29 ?_
      refine zr_iload_n h dX1_clueIsTold_30 2 rfl rfl ?_
      refine zr_icmp_ne (tgt := 38) h dX1_clueIsTold_31 (by decide) (fun c => ?_) (fun c => ?_)
      · have hk := zOk_t c hk
        refine zr_iconst (v := (zI 1)) h dX1_clueIsTold_34 rfl ?_
        refine zr_goto (tgt := 39) h dX1_clueIsTold_35 (by decide) ?_
        exact w_X1_clueIsTold_39_L3 M h x1 x2 x3 s (zI 1) hk
      · have hk := zOk_f c hk
        exact w_X1_clueIsTold_38_L3 M h x1 x2 x3 s hk
    · have hk := zOk_f c hk
      exact w_X1_clueIsTold_38_L3 M h x1 x2 x3 s hk
noncomputable def f_X1_clueIsTold (M : ZMem) (x1 : Int32) (x2 : Int32) (x3 : Int32) : Option Int32 := zbind (zloop (f_X1_clueIsTold_L3 M x1 x2 x3) (zI 0)) (fun e3 => zsel e3 (fun e3a => some (zI 0)) (fun e3b => some e3b))
set_option maxRecDepth 100000 in
set_option maxHeartbeats 4000000 in
theorem c_X1_clueIsTold (E : ZEv) (M : ZMem) (x1 : Int32) (x2 : Int32) (x3 : Int32) (K : Int32 → Prop) (hk : zOk (f_X1_clueIsTold M x1 x2 x3) K) : zCon lyC E yX1_clueIsTold cX1_clueIsTold 7 (some .boolean) 0 [zrf E 20, .int x1, .int x2, .int x3] M (zRp M K) := by
  refine zcon_of (L0 := [(0, zrf E 20), (1, .int x1), (2, .int x2), (3, .int x3)]) (by decide) rfl (Nat.le_of_ble_eq_true rfl) (fun G h => ?_)
  have h : zRu lyC E G (zRp M K) cX1_clueIsTold RX1 7 (some .boolean) 0 := h
  unfold f_X1_clueIsTold at hk
  refine zr_iconst (v := (zI 0)) h dX1_clueIsTold_0 rfl ?_
  refine zr_istore (L' := [(0, zrf E 20), (1, .int x1), (2, .int x2), (3, .int x3), (4, .int (zI 0))]) h [1, 2, 3, 4, 0] dX1_clueIsTold_1 (by decide) rfl ?_
  refine w_X1_clueIsTold_L3 M h x1 x2 x3 (zI 0) (zOk_mono (zOk_bind hk) (fun e3 hk => ?_))
  cases e3 with
  | inl e3a =>
    have hk := zOk_selL hk
    refine zr_iconst (v := (zI 0)) h dX1_clueIsTold_99 rfl ?_
    have hk := zOk_some hk
    exact zr_zret h dX1_clueIsTold_100 (by decide) ⟨rfl, _, rfl, hk⟩
  | inr e3b =>
    have hk := zOk_selR hk
    have hk := zOk_some hk
    exact hk
theorem dX1_tellClue_0 : decode cX1_tellClue 0 = .ok (.aload_n 0, 1) := by decide +kernel
theorem dX1_tellClue_1 : decode cX1_tellClue 1 = .ok (.getfield 49, 3) := by decide +kernel
theorem dX1_tellClue_4 : decode cX1_tellClue 4 = .ok (.bipush 12, 2) := by decide +kernel
theorem dX1_tellClue_6 : decode cX1_tellClue 6 = .ok (.if_icmp .ge 13, 3) := by decide +kernel
theorem dX1_tellClue_9 : decode cX1_tellClue 9 = .ok (.aload_n 0, 1) := by decide +kernel
theorem dX1_tellClue_10 : decode cX1_tellClue 10 = .ok (.iload_n 1, 1) := by decide +kernel
theorem dX1_tellClue_11 : decode cX1_tellClue 11 = .ok (.iload_n 2, 1) := by decide +kernel
theorem dX1_tellClue_12 : decode cX1_tellClue 12 = .ok (.iload_n 3, 1) := by decide +kernel
theorem dX1_tellClue_13 : decode cX1_tellClue 13 = .ok (.invokevirtual 75, 3) := by decide +kernel
theorem dX1_tellClue_16 : decode cX1_tellClue 16 = .ok (.ifCond .eq 5, 3) := by decide +kernel
theorem dX1_tellClue_19 : decode cX1_tellClue 19 = .ok (.iconst (-1), 1) := by decide +kernel
theorem dX1_tellClue_20 : decode cX1_tellClue 20 = .ok (.ireturn, 1) := by decide +kernel
theorem dX1_tellClue_21 : decode cX1_tellClue 21 = .ok (.aload_n 0, 1) := by decide +kernel
theorem dX1_tellClue_22 : decode cX1_tellClue 22 = .ok (.iconst 4, 1) := by decide +kernel
theorem dX1_tellClue_23 : decode cX1_tellClue 23 = .ok (.iconst 0, 1) := by decide +kernel
theorem dX1_tellClue_24 : decode cX1_tellClue 24 = .ok (.iconst 0, 1) := by decide +kernel
theorem dX1_tellClue_25 : decode cX1_tellClue 25 = .ok (.invokevirtual 59, 3) := by decide +kernel
theorem dX1_tellClue_28 : decode cX1_tellClue 28 = .ok (.aload_n 0, 1) := by decide +kernel
theorem dX1_tellClue_29 : decode cX1_tellClue 29 = .ok (.getfield 18, 3) := by decide +kernel
theorem dX1_tellClue_32 : decode cX1_tellClue 32 = .ok (.aload_n 0, 1) := by decide +kernel
theorem dX1_tellClue_33 : decode cX1_tellClue 33 = .ok (.getfield 49, 3) := by decide +kernel
theorem dX1_tellClue_36 : decode cX1_tellClue 36 = .ok (.iload_n 1, 1) := by decide +kernel
theorem dX1_tellClue_37 : decode cX1_tellClue 37 = .ok (.iastore, 1) := by decide +kernel
theorem dX1_tellClue_38 : decode cX1_tellClue 38 = .ok (.aload_n 0, 1) := by decide +kernel
theorem dX1_tellClue_39 : decode cX1_tellClue 39 = .ok (.getfield 21, 3) := by decide +kernel
theorem dX1_tellClue_42 : decode cX1_tellClue 42 = .ok (.aload_n 0, 1) := by decide +kernel
theorem dX1_tellClue_43 : decode cX1_tellClue 43 = .ok (.getfield 49, 3) := by decide +kernel
theorem dX1_tellClue_46 : decode cX1_tellClue 46 = .ok (.iload_n 2, 1) := by decide +kernel
theorem dX1_tellClue_47 : decode cX1_tellClue 47 = .ok (.iastore, 1) := by decide +kernel
theorem dX1_tellClue_48 : decode cX1_tellClue 48 = .ok (.aload_n 0, 1) := by decide +kernel
theorem dX1_tellClue_49 : decode cX1_tellClue 49 = .ok (.getfield 24, 3) := by decide +kernel
theorem dX1_tellClue_52 : decode cX1_tellClue 52 = .ok (.aload_n 0, 1) := by decide +kernel
theorem dX1_tellClue_53 : decode cX1_tellClue 53 = .ok (.getfield 49, 3) := by decide +kernel
theorem dX1_tellClue_56 : decode cX1_tellClue 56 = .ok (.iload_n 3, 1) := by decide +kernel
theorem dX1_tellClue_57 : decode cX1_tellClue 57 = .ok (.bastore, 1) := by decide +kernel
theorem dX1_tellClue_58 : decode cX1_tellClue 58 = .ok (.aload_n 0, 1) := by decide +kernel
theorem dX1_tellClue_59 : decode cX1_tellClue 59 = .ok (.dup, 1) := by decide +kernel
theorem dX1_tellClue_60 : decode cX1_tellClue 60 = .ok (.getfield 49, 3) := by decide +kernel
theorem dX1_tellClue_63 : decode cX1_tellClue 63 = .ok (.iconst 1, 1) := by decide +kernel
theorem dX1_tellClue_64 : decode cX1_tellClue 64 = .ok (.iadd, 1) := by decide +kernel
theorem dX1_tellClue_65 : decode cX1_tellClue 65 = .ok (.putfield 49, 3) := by decide +kernel
theorem dX1_tellClue_68 : decode cX1_tellClue 68 = .ok (.aload_n 0, 1) := by decide +kernel
theorem dX1_tellClue_69 : decode cX1_tellClue 69 = .ok (.getfield 49, 3) := by decide +kernel
theorem dX1_tellClue_72 : decode cX1_tellClue 72 = .ok (.ireturn, 1) := by decide +kernel
noncomputable def f_X1_tellClue (M : ZMem) (x1 : Int32) (x2 : Int32) (x3 : Int32) : Option (ZMem × Int32) := if (zI 12) ≤ (M.1 20 9) then some (M, (zI (-1))) else zbind (f_X1_clueIsTold M x1 x2 x3) (fun r_13 => if r_13 = (zI 0) then zbind (f_X1_note M (zI 4) (zI 0) (zI 0)) (fun M_25 => zchk (zin (M_25.1 20 9) 12) (zbnd (zstI M_25 23 (zix (M_25.1 20 9)) x1) (fun M_37 => zchk (zin (M_37.1 20 9) 12) (zbnd (zstI M_37 24 (zix (M_37.1 20 9)) x2) (fun M_47 => zchk (zin (M_47.1 20 9) 12) (zbnd (zstI M_47 25 (zix (M_47.1 20 9)) (vp_nar .boolean x3)) (fun M_57 => zbnd (zstI M_57 20 9 ((M_57.1 20 9) + (zI 1))) (fun M_65 => some (M_65, (M_65.1 20 9)))))))))) else some (M, (zI (-1))))
set_option maxRecDepth 100000 in
set_option maxHeartbeats 4000000 in
theorem c_X1_tellClue (E : ZEv) (M : ZMem) (x1 : Int32) (x2 : Int32) (x3 : Int32) (K : ZMem × Int32 → Prop) (hk : zOk (f_X1_tellClue M x1 x2 x3) K) : zCon lyC E yX1_tellClue cX1_tellClue 4 (some .int) 2 [zrf E 20, .int x1, .int x2, .int x3] M (zRm K) := by
  refine zcon_of (L0 := [(0, zrf E 20), (1, .int x1), (2, .int x2), (3, .int x3)]) (by decide) rfl (Nat.le_of_ble_eq_true rfl) (fun G h => ?_)
  have h : zRu lyC E G (zRm K) cX1_tellClue RX1 4 (some .int) 2 := h
  unfold f_X1_tellClue at hk
  refine zr_aload_n h dX1_tellClue_0 0 rfl rfl ?_
  refine zr_getI h zfo_X1_49 lC_20 rfl dX1_tellClue_1 ?_
  refine zr_bipush (v := (zI 12)) h dX1_tellClue_4 (by decide) ?_
  refine zr_icmp_ge (tgt := 19) h dX1_tellClue_6 (by decide) (fun c => ?_) (fun c => ?_)
  · have hk := zOk_t c hk
    refine zr_iconst (v := (zI (-1))) h dX1_tellClue_19 rfl ?_
    have hk := zOk_some hk
    exact zr_iret h dX1_tellClue_20 ⟨_, rfl, hk⟩
  · have hk := zOk_f c hk
    refine zr_aload_n h dX1_tellClue_9 0 rfl rfl ?_
    refine zr_iload_n h dX1_tellClue_10 1 rfl rfl ?_
    refine zr_iload_n h dX1_tellClue_11 2 rfl rfl ?_
    refine zr_iload_n h dX1_tellClue_12 3 rfl rfl ?_
    refine zr_callVp h lC_20 zcw_X1_75 (by decide) (c_X1_clueIsTold E M x1 x2 x3 _ (zOk_bind hk)) rfl rfl (Nat.le_of_ble_eq_true rfl) dX1_tellClue_13 (fun r_13 hk => ?_)
    refine zr_if_eq (tgt := 21) h dX1_tellClue_16 (by decide) (fun c => ?_) (fun c => ?_)
    · have hk := zOk_t c hk
      refine zr_aload_n h dX1_tellClue_21 0 rfl rfl ?_
      refine zr_iconst (v := (zI 4)) h dX1_tellClue_22 rfl ?_
      refine zr_iconst (v := (zI 0)) h dX1_tellClue_23 rfl ?_
      refine zr_iconst (v := (zI 0)) h dX1_tellClue_24 rfl ?_
      refine zr_callVv h lC_20 zcw_X1_59 (by decide) (c_X1_note E M (zI 4) (zI 0) (zI 0) _ (zOk_bind hk)) rfl rfl (Nat.le_of_ble_eq_true rfl) dX1_tellClue_25 (fun M_25 hk => ?_)
      refine zr_aload_n h dX1_tellClue_28 0 rfl rfl ?_
      refine zr_getR h zfo_X1_18 lC_20 rfl dX1_tellClue_29 ?_
      refine zr_aload_n h dX1_tellClue_32 0 rfl rfl ?_
      refine zr_getI h zfo_X1_49 lC_20 rfl dX1_tellClue_33 ?_
      refine zr_iload_n h dX1_tellClue_36 1 rfl rfl ?_
      have hb := zOk_chk hk
      have hk := hb.2
      refine zr_iast h lC_23 hb.1 dX1_tellClue_37 ?_
      refine zr_mem (fun M_37 eM => ?_)
      have hk := zOk_bnd eM hk
      refine zr_aload_n h dX1_tellClue_38 0 rfl rfl ?_
      refine zr_getR h zfo_X1_21 lC_20 rfl dX1_tellClue_39 ?_
      refine zr_aload_n h dX1_tellClue_42 0 rfl rfl ?_
      refine zr_getI h zfo_X1_49 lC_20 rfl dX1_tellClue_43 ?_
      refine zr_iload_n h dX1_tellClue_46 2 rfl rfl ?_
      have hb := zOk_chk hk
      have hk := hb.2
      refine zr_iast h lC_24 hb.1 dX1_tellClue_47 ?_
      refine zr_mem (fun M_47 eM => ?_)
      have hk := zOk_bnd eM hk
      refine zr_aload_n h dX1_tellClue_48 0 rfl rfl ?_
      refine zr_getR h zfo_X1_24 lC_20 rfl dX1_tellClue_49 ?_
      refine zr_aload_n h dX1_tellClue_52 0 rfl rfl ?_
      refine zr_getI h zfo_X1_49 lC_20 rfl dX1_tellClue_53 ?_
      refine zr_iload_n h dX1_tellClue_56 3 rfl rfl ?_
      have hb := zOk_chk hk
      have hk := hb.2
      refine zr_zast h lC_25 hb.1 dX1_tellClue_57 ?_
      refine zr_mem (fun M_57 eM => ?_)
      have hk := zOk_bnd eM hk
      refine zr_aload_n h dX1_tellClue_58 0 rfl rfl ?_
      refine zr_dup h dX1_tellClue_59 rfl ?_
      refine zr_getI h zfo_X1_49 lC_20 rfl dX1_tellClue_60 ?_
      refine zr_iconst (v := (zI 1)) h dX1_tellClue_63 rfl ?_
      refine zr_iadd h dX1_tellClue_64 ?_
      refine zr_putI h zfp_X1_49 lC_20 rfl dX1_tellClue_65 ?_
      refine zr_mem (fun M_65 eM => ?_)
      have hk := zOk_bnd eM hk
      refine zr_aload_n h dX1_tellClue_68 0 rfl rfl ?_
      refine zr_getI h zfo_X1_49 lC_20 rfl dX1_tellClue_69 ?_
      have hk := zOk_some hk
      exact zr_iret h dX1_tellClue_72 ⟨_, rfl, hk⟩
    · have hk := zOk_f c hk
      refine zr_iconst (v := (zI (-1))) h dX1_tellClue_19 rfl ?_
      have hk := zOk_some hk
      exact zr_iret h dX1_tellClue_20 ⟨_, rfl, hk⟩
theorem dX1_clueIsOf_0 : decode cX1_clueIsOf 0 = .ok (.iload_n 1, 1) := by decide +kernel
theorem dX1_clueIsOf_1 : decode cX1_clueIsOf 1 = .ok (.ifCond .lt 25, 3) := by decide +kernel
theorem dX1_clueIsOf_4 : decode cX1_clueIsOf 4 = .ok (.iload_n 1, 1) := by decide +kernel
theorem dX1_clueIsOf_5 : decode cX1_clueIsOf 5 = .ok (.aload_n 0, 1) := by decide +kernel
theorem dX1_clueIsOf_6 : decode cX1_clueIsOf 6 = .ok (.getfield 49, 3) := by decide +kernel
theorem dX1_clueIsOf_9 : decode cX1_clueIsOf 9 = .ok (.if_icmp .ge 17, 3) := by decide +kernel
theorem dX1_clueIsOf_12 : decode cX1_clueIsOf 12 = .ok (.aload_n 0, 1) := by decide +kernel
theorem dX1_clueIsOf_13 : decode cX1_clueIsOf 13 = .ok (.getfield 24, 3) := by decide +kernel
theorem dX1_clueIsOf_16 : decode cX1_clueIsOf 16 = .ok (.iload_n 1, 1) := by decide +kernel
theorem dX1_clueIsOf_17 : decode cX1_clueIsOf 17 = .ok (.baload, 1) := by decide +kernel
theorem dX1_clueIsOf_18 : decode cX1_clueIsOf 18 = .ok (.iload_n 2, 1) := by decide +kernel
theorem dX1_clueIsOf_19 : decode cX1_clueIsOf 19 = .ok (.if_icmp .ne 7, 3) := by decide +kernel
theorem dX1_clueIsOf_22 : decode cX1_clueIsOf 22 = .ok (.iconst 1, 1) := by decide +kernel
theorem dX1_clueIsOf_23 : decode cX1_clueIsOf 23 = .ok (.goto 4, 3) := by decide +kernel
theorem dX1_clueIsOf_26 : decode cX1_clueIsOf 26 = .ok (.iconst 0, 1) := by decide +kernel
theorem dX1_clueIsOf_27 : decode cX1_clueIsOf 27 = .ok (.ireturn, 1) := by decide +kernel
noncomputable def f_X1_clueIsOf (M : ZMem) (x1 : Int32) (x2 : Int32) : Option Int32 := if x1 < (zI 0) then some (zI 0) else if (M.1 20 9) ≤ x1 then some (zI 0) else zchk (zin x1 12) (if (M.1 25 (zix x1)) = x2 then some (zI 1) else some (zI 0))
set_option maxRecDepth 100000 in
set_option maxHeartbeats 4000000 in
theorem c_X1_clueIsOf (E : ZEv) (M : ZMem) (x1 : Int32) (x2 : Int32) (K : Int32 → Prop) (hk : zOk (f_X1_clueIsOf M x1 x2) K) : zCon lyC E yX1_clueIsOf cX1_clueIsOf 3 (some .boolean) 0 [zrf E 20, .int x1, .int x2] M (zRp M K) := by
  refine zcon_of (L0 := [(0, zrf E 20), (1, .int x1), (2, .int x2)]) (by decide) rfl (Nat.le_of_ble_eq_true rfl) (fun G h => ?_)
  have h : zRu lyC E G (zRp M K) cX1_clueIsOf RX1 3 (some .boolean) 0 := h
  unfold f_X1_clueIsOf at hk
  refine zr_iload_n h dX1_clueIsOf_0 1 rfl rfl ?_
  refine zr_if_lt (tgt := 26) h dX1_clueIsOf_1 (by decide) (fun c => ?_) (fun c => ?_)
  · have hk := zOk_t c hk
    refine zr_iconst (v := (zI 0)) h dX1_clueIsOf_26 rfl ?_
    have hk := zOk_some hk
    exact zr_zret h dX1_clueIsOf_27 (by decide) ⟨rfl, _, rfl, hk⟩
  · have hk := zOk_f c hk
    refine zr_iload_n h dX1_clueIsOf_4 1 rfl rfl ?_
    refine zr_aload_n h dX1_clueIsOf_5 0 rfl rfl ?_
    refine zr_getI h zfo_X1_49 lC_20 rfl dX1_clueIsOf_6 ?_
    refine zr_icmp_ge (tgt := 26) h dX1_clueIsOf_9 (by decide) (fun c => ?_) (fun c => ?_)
    · have hk := zOk_t c hk
      refine zr_iconst (v := (zI 0)) h dX1_clueIsOf_26 rfl ?_
      have hk := zOk_some hk
      exact zr_zret h dX1_clueIsOf_27 (by decide) ⟨rfl, _, rfl, hk⟩
    · have hk := zOk_f c hk
      refine zr_aload_n h dX1_clueIsOf_12 0 rfl rfl ?_
      refine zr_getR h zfo_X1_24 lC_20 rfl dX1_clueIsOf_13 ?_
      refine zr_iload_n h dX1_clueIsOf_16 1 rfl rfl ?_
      have hb := zOk_chk hk
      have hk := hb.2
      refine zr_zald h lC_25 hb.1 dX1_clueIsOf_17 ?_
      refine zr_iload_n h dX1_clueIsOf_18 2 rfl rfl ?_
      refine zr_icmp_ne (tgt := 26) h dX1_clueIsOf_19 (by decide) (fun c => ?_) (fun c => ?_)
      · have hk := zOk_t c hk
        refine zr_iconst (v := (zI 1)) h dX1_clueIsOf_22 rfl ?_
        refine zr_goto (tgt := 27) h dX1_clueIsOf_23 (by decide) ?_
        have hk := zOk_some hk
        exact zr_zret h dX1_clueIsOf_27 (by decide) ⟨rfl, _, rfl, hk⟩
      · have hk := zOk_f c hk
        refine zr_iconst (v := (zI 0)) h dX1_clueIsOf_26 rfl ?_
        have hk := zOk_some hk
        exact zr_zret h dX1_clueIsOf_27 (by decide) ⟨rfl, _, rfl, hk⟩
theorem dX1_clueOne_0 : decode cX1_clueOne 0 = .ok (.iload_n 1, 1) := by decide +kernel
theorem dX1_clueOne_1 : decode cX1_clueOne 1 = .ok (.ifCond .lt 20, 3) := by decide +kernel
theorem dX1_clueOne_4 : decode cX1_clueOne 4 = .ok (.iload_n 1, 1) := by decide +kernel
theorem dX1_clueOne_5 : decode cX1_clueOne 5 = .ok (.aload_n 0, 1) := by decide +kernel
theorem dX1_clueOne_6 : decode cX1_clueOne 6 = .ok (.getfield 49, 3) := by decide +kernel
theorem dX1_clueOne_9 : decode cX1_clueOne 9 = .ok (.if_icmp .ge 12, 3) := by decide +kernel
theorem dX1_clueOne_12 : decode cX1_clueOne 12 = .ok (.aload_n 0, 1) := by decide +kernel
theorem dX1_clueOne_13 : decode cX1_clueOne 13 = .ok (.getfield 18, 3) := by decide +kernel
theorem dX1_clueOne_16 : decode cX1_clueOne 16 = .ok (.iload_n 1, 1) := by decide +kernel
theorem dX1_clueOne_17 : decode cX1_clueOne 17 = .ok (.iaload, 1) := by decide +kernel
theorem dX1_clueOne_18 : decode cX1_clueOne 18 = .ok (.goto 4, 3) := by decide +kernel
theorem dX1_clueOne_21 : decode cX1_clueOne 21 = .ok (.iconst (-1), 1) := by decide +kernel
theorem dX1_clueOne_22 : decode cX1_clueOne 22 = .ok (.ireturn, 1) := by decide +kernel
noncomputable def f_X1_clueOne (M : ZMem) (x1 : Int32) : Option Int32 := if x1 < (zI 0) then some (zI (-1)) else if (M.1 20 9) ≤ x1 then some (zI (-1)) else zchk (zin x1 12) (some (M.1 23 (zix x1)))
set_option maxRecDepth 100000 in
set_option maxHeartbeats 4000000 in
theorem c_X1_clueOne (E : ZEv) (M : ZMem) (x1 : Int32) (K : Int32 → Prop) (hk : zOk (f_X1_clueOne M x1) K) : zCon lyC E yX1_clueOne cX1_clueOne 2 (some .int) 0 [zrf E 20, .int x1] M (zRp M K) := by
  refine zcon_of (L0 := [(0, zrf E 20), (1, .int x1)]) (by decide) rfl (Nat.le_of_ble_eq_true rfl) (fun G h => ?_)
  have h : zRu lyC E G (zRp M K) cX1_clueOne RX1 2 (some .int) 0 := h
  unfold f_X1_clueOne at hk
  refine zr_iload_n h dX1_clueOne_0 1 rfl rfl ?_
  refine zr_if_lt (tgt := 21) h dX1_clueOne_1 (by decide) (fun c => ?_) (fun c => ?_)
  · have hk := zOk_t c hk
    refine zr_iconst (v := (zI (-1))) h dX1_clueOne_21 rfl ?_
    have hk := zOk_some hk
    exact zr_iret h dX1_clueOne_22 ⟨rfl, _, rfl, hk⟩
  · have hk := zOk_f c hk
    refine zr_iload_n h dX1_clueOne_4 1 rfl rfl ?_
    refine zr_aload_n h dX1_clueOne_5 0 rfl rfl ?_
    refine zr_getI h zfo_X1_49 lC_20 rfl dX1_clueOne_6 ?_
    refine zr_icmp_ge (tgt := 21) h dX1_clueOne_9 (by decide) (fun c => ?_) (fun c => ?_)
    · have hk := zOk_t c hk
      refine zr_iconst (v := (zI (-1))) h dX1_clueOne_21 rfl ?_
      have hk := zOk_some hk
      exact zr_iret h dX1_clueOne_22 ⟨rfl, _, rfl, hk⟩
    · have hk := zOk_f c hk
      refine zr_aload_n h dX1_clueOne_12 0 rfl rfl ?_
      refine zr_getR h zfo_X1_18 lC_20 rfl dX1_clueOne_13 ?_
      refine zr_iload_n h dX1_clueOne_16 1 rfl rfl ?_
      have hb := zOk_chk hk
      have hk := hb.2
      refine zr_iald h lC_23 hb.1 dX1_clueOne_17 ?_
      refine zr_goto (tgt := 22) h dX1_clueOne_18 (by decide) ?_
      have hk := zOk_some hk
      exact zr_iret h dX1_clueOne_22 ⟨rfl, _, rfl, hk⟩
theorem dX1_clueOther_0 : decode cX1_clueOther 0 = .ok (.iload_n 1, 1) := by decide +kernel
theorem dX1_clueOther_1 : decode cX1_clueOther 1 = .ok (.ifCond .lt 20, 3) := by decide +kernel
theorem dX1_clueOther_4 : decode cX1_clueOther 4 = .ok (.iload_n 1, 1) := by decide +kernel
theorem dX1_clueOther_5 : decode cX1_clueOther 5 = .ok (.aload_n 0, 1) := by decide +kernel
theorem dX1_clueOther_6 : decode cX1_clueOther 6 = .ok (.getfield 49, 3) := by decide +kernel
theorem dX1_clueOther_9 : decode cX1_clueOther 9 = .ok (.if_icmp .ge 12, 3) := by decide +kernel
theorem dX1_clueOther_12 : decode cX1_clueOther 12 = .ok (.aload_n 0, 1) := by decide +kernel
theorem dX1_clueOther_13 : decode cX1_clueOther 13 = .ok (.getfield 21, 3) := by decide +kernel
theorem dX1_clueOther_16 : decode cX1_clueOther 16 = .ok (.iload_n 1, 1) := by decide +kernel
theorem dX1_clueOther_17 : decode cX1_clueOther 17 = .ok (.iaload, 1) := by decide +kernel
theorem dX1_clueOther_18 : decode cX1_clueOther 18 = .ok (.goto 4, 3) := by decide +kernel
theorem dX1_clueOther_21 : decode cX1_clueOther 21 = .ok (.iconst (-1), 1) := by decide +kernel
theorem dX1_clueOther_22 : decode cX1_clueOther 22 = .ok (.ireturn, 1) := by decide +kernel
noncomputable def f_X1_clueOther (M : ZMem) (x1 : Int32) : Option Int32 := if x1 < (zI 0) then some (zI (-1)) else if (M.1 20 9) ≤ x1 then some (zI (-1)) else zchk (zin x1 12) (some (M.1 24 (zix x1)))
set_option maxRecDepth 100000 in
set_option maxHeartbeats 4000000 in
theorem c_X1_clueOther (E : ZEv) (M : ZMem) (x1 : Int32) (K : Int32 → Prop) (hk : zOk (f_X1_clueOther M x1) K) : zCon lyC E yX1_clueOther cX1_clueOther 2 (some .int) 0 [zrf E 20, .int x1] M (zRp M K) := by
  refine zcon_of (L0 := [(0, zrf E 20), (1, .int x1)]) (by decide) rfl (Nat.le_of_ble_eq_true rfl) (fun G h => ?_)
  have h : zRu lyC E G (zRp M K) cX1_clueOther RX1 2 (some .int) 0 := h
  unfold f_X1_clueOther at hk
  refine zr_iload_n h dX1_clueOther_0 1 rfl rfl ?_
  refine zr_if_lt (tgt := 21) h dX1_clueOther_1 (by decide) (fun c => ?_) (fun c => ?_)
  · have hk := zOk_t c hk
    refine zr_iconst (v := (zI (-1))) h dX1_clueOther_21 rfl ?_
    have hk := zOk_some hk
    exact zr_iret h dX1_clueOther_22 ⟨rfl, _, rfl, hk⟩
  · have hk := zOk_f c hk
    refine zr_iload_n h dX1_clueOther_4 1 rfl rfl ?_
    refine zr_aload_n h dX1_clueOther_5 0 rfl rfl ?_
    refine zr_getI h zfo_X1_49 lC_20 rfl dX1_clueOther_6 ?_
    refine zr_icmp_ge (tgt := 21) h dX1_clueOther_9 (by decide) (fun c => ?_) (fun c => ?_)
    · have hk := zOk_t c hk
      refine zr_iconst (v := (zI (-1))) h dX1_clueOther_21 rfl ?_
      have hk := zOk_some hk
      exact zr_iret h dX1_clueOther_22 ⟨rfl, _, rfl, hk⟩
    · have hk := zOk_f c hk
      refine zr_aload_n h dX1_clueOther_12 0 rfl rfl ?_
      refine zr_getR h zfo_X1_21 lC_20 rfl dX1_clueOther_13 ?_
      refine zr_iload_n h dX1_clueOther_16 1 rfl rfl ?_
      have hb := zOk_chk hk
      have hk := hb.2
      refine zr_iald h lC_24 hb.1 dX1_clueOther_17 ?_
      refine zr_goto (tgt := 22) h dX1_clueOther_18 (by decide) ?_
      have hk := zOk_some hk
      exact zr_iret h dX1_clueOther_22 ⟨rfl, _, rfl, hk⟩
theorem dX1_guessOf_0 : decode cX1_guessOf 0 = .ok (.iload_n 1, 1) := by decide +kernel
theorem dX1_guessOf_1 : decode cX1_guessOf 1 = .ok (.ifCond .lt 18, 3) := by decide +kernel
theorem dX1_guessOf_4 : decode cX1_guessOf 4 = .ok (.iload_n 1, 1) := by decide +kernel
theorem dX1_guessOf_5 : decode cX1_guessOf 5 = .ok (.bipush 20, 2) := by decide +kernel
theorem dX1_guessOf_7 : decode cX1_guessOf 7 = .ok (.if_icmp .ge 12, 3) := by decide +kernel
theorem dX1_guessOf_10 : decode cX1_guessOf 10 = .ok (.aload_n 0, 1) := by decide +kernel
theorem dX1_guessOf_11 : decode cX1_guessOf 11 = .ok (.getfield 28, 3) := by decide +kernel
theorem dX1_guessOf_14 : decode cX1_guessOf 14 = .ok (.iload_n 1, 1) := by decide +kernel
theorem dX1_guessOf_15 : decode cX1_guessOf 15 = .ok (.iaload, 1) := by decide +kernel
theorem dX1_guessOf_16 : decode cX1_guessOf 16 = .ok (.goto 4, 3) := by decide +kernel
theorem dX1_guessOf_19 : decode cX1_guessOf 19 = .ok (.iconst (-1), 1) := by decide +kernel
theorem dX1_guessOf_20 : decode cX1_guessOf 20 = .ok (.ireturn, 1) := by decide +kernel
noncomputable def f_X1_guessOf (M : ZMem) (x1 : Int32) : Option Int32 := if x1 < (zI 0) then some (zI (-1)) else if (zI 20) ≤ x1 then some (zI (-1)) else zchk (zin x1 20) (some (M.1 26 (zix x1)))
set_option maxRecDepth 100000 in
set_option maxHeartbeats 4000000 in
theorem c_X1_guessOf (E : ZEv) (M : ZMem) (x1 : Int32) (K : Int32 → Prop) (hk : zOk (f_X1_guessOf M x1) K) : zCon lyC E yX1_guessOf cX1_guessOf 2 (some .int) 0 [zrf E 20, .int x1] M (zRp M K) := by
  refine zcon_of (L0 := [(0, zrf E 20), (1, .int x1)]) (by decide) rfl (Nat.le_of_ble_eq_true rfl) (fun G h => ?_)
  have h : zRu lyC E G (zRp M K) cX1_guessOf RX1 2 (some .int) 0 := h
  unfold f_X1_guessOf at hk
  refine zr_iload_n h dX1_guessOf_0 1 rfl rfl ?_
  refine zr_if_lt (tgt := 19) h dX1_guessOf_1 (by decide) (fun c => ?_) (fun c => ?_)
  · have hk := zOk_t c hk
    refine zr_iconst (v := (zI (-1))) h dX1_guessOf_19 rfl ?_
    have hk := zOk_some hk
    exact zr_iret h dX1_guessOf_20 ⟨rfl, _, rfl, hk⟩
  · have hk := zOk_f c hk
    refine zr_iload_n h dX1_guessOf_4 1 rfl rfl ?_
    refine zr_bipush (v := (zI 20)) h dX1_guessOf_5 (by decide) ?_
    refine zr_icmp_ge (tgt := 19) h dX1_guessOf_7 (by decide) (fun c => ?_) (fun c => ?_)
    · have hk := zOk_t c hk
      refine zr_iconst (v := (zI (-1))) h dX1_guessOf_19 rfl ?_
      have hk := zOk_some hk
      exact zr_iret h dX1_guessOf_20 ⟨rfl, _, rfl, hk⟩
    · have hk := zOk_f c hk
      refine zr_aload_n h dX1_guessOf_10 0 rfl rfl ?_
      refine zr_getR h zfo_X1_28 lC_20 rfl dX1_guessOf_11 ?_
      refine zr_iload_n h dX1_guessOf_14 1 rfl rfl ?_
      have hb := zOk_chk hk
      have hk := hb.2
      refine zr_iald h lC_26 hb.1 dX1_guessOf_15 ?_
      refine zr_goto (tgt := 20) h dX1_guessOf_16 (by decide) ?_
      have hk := zOk_some hk
      exact zr_iret h dX1_guessOf_20 ⟨rfl, _, rfl, hk⟩
theorem dX1_putGuess_0 : decode cX1_putGuess 0 = .ok (.iload_n 1, 1) := by decide +kernel
theorem dX1_putGuess_1 : decode cX1_putGuess 1 = .ok (.ifCond .lt 51, 3) := by decide +kernel
theorem dX1_putGuess_4 : decode cX1_putGuess 4 = .ok (.iload_n 1, 1) := by decide +kernel
theorem dX1_putGuess_5 : decode cX1_putGuess 5 = .ok (.bipush 20, 2) := by decide +kernel
theorem dX1_putGuess_7 : decode cX1_putGuess 7 = .ok (.if_icmp .ge 45, 3) := by decide +kernel
theorem dX1_putGuess_10 : decode cX1_putGuess 10 = .ok (.aload_n 0, 1) := by decide +kernel
theorem dX1_putGuess_11 : decode cX1_putGuess 11 = .ok (.dup, 1) := by decide +kernel
theorem dX1_putGuess_12 : decode cX1_putGuess 12 = .ok (.getfield 53, 3) := by decide +kernel
theorem dX1_putGuess_15 : decode cX1_putGuess 15 = .ok (.iload_n 2, 1) := by decide +kernel
theorem dX1_putGuess_16 : decode cX1_putGuess 16 = .ok (.iconst (-1), 1) := by decide +kernel
theorem dX1_putGuess_17 : decode cX1_putGuess 17 = .ok (.if_icmp .ne 7, 3) := by decide +kernel
theorem dX1_putGuess_20 : decode cX1_putGuess 20 = .ok (.iconst 0, 1) := by decide +kernel
theorem dX1_putGuess_21 : decode cX1_putGuess 21 = .ok (.goto 4, 3) := by decide +kernel
theorem dX1_putGuess_24 : decode cX1_putGuess 24 = .ok (.iconst 1, 1) := by decide +kernel
theorem dX1_putGuess_25 : decode cX1_putGuess 25 = .ok (.aload_n 0, 1) := by decide +kernel
theorem dX1_putGuess_26 : decode cX1_putGuess 26 = .ok (.getfield 28, 3) := by decide +kernel
theorem dX1_putGuess_29 : decode cX1_putGuess 29 = .ok (.iload_n 1, 1) := by decide +kernel
theorem dX1_putGuess_30 : decode cX1_putGuess 30 = .ok (.iaload, 1) := by decide +kernel
theorem dX1_putGuess_31 : decode cX1_putGuess 31 = .ok (.iconst (-1), 1) := by decide +kernel
theorem dX1_putGuess_32 : decode cX1_putGuess 32 = .ok (.if_icmp .ne 7, 3) := by decide +kernel
theorem dX1_putGuess_35 : decode cX1_putGuess 35 = .ok (.iconst 0, 1) := by decide +kernel
theorem dX1_putGuess_36 : decode cX1_putGuess 36 = .ok (.goto 4, 3) := by decide +kernel
theorem dX1_putGuess_39 : decode cX1_putGuess 39 = .ok (.iconst 1, 1) := by decide +kernel
theorem dX1_putGuess_40 : decode cX1_putGuess 40 = .ok (.isub, 1) := by decide +kernel
theorem dX1_putGuess_41 : decode cX1_putGuess 41 = .ok (.iadd, 1) := by decide +kernel
theorem dX1_putGuess_42 : decode cX1_putGuess 42 = .ok (.putfield 53, 3) := by decide +kernel
theorem dX1_putGuess_45 : decode cX1_putGuess 45 = .ok (.aload_n 0, 1) := by decide +kernel
theorem dX1_putGuess_46 : decode cX1_putGuess 46 = .ok (.getfield 28, 3) := by decide +kernel
theorem dX1_putGuess_49 : decode cX1_putGuess 49 = .ok (.iload_n 1, 1) := by decide +kernel
theorem dX1_putGuess_50 : decode cX1_putGuess 50 = .ok (.iload_n 2, 1) := by decide +kernel
theorem dX1_putGuess_51 : decode cX1_putGuess 51 = .ok (.iastore, 1) := by decide +kernel
theorem dX1_putGuess_52 : decode cX1_putGuess 52 = .ok (.return_, 1) := by decide +kernel
noncomputable def f_X1_putGuess_40 (M : ZMem) (x1 : Int32) (x2 : Int32) (v1 : Int32) (v2 : Int32) (v3 : Int32) : Option ZMem := zbnd (zstI M 20 10 (v1 + (v2 - v3))) (fun M_42 => zchk (zin x1 20) (zbnd (zstI M_42 26 (zix x1) x2) (fun M_51 => some M_51)))
set_option maxRecDepth 100000 in
set_option maxHeartbeats 4000000 in
theorem w_X1_putGuess_40 {E : ZEv} {G : ZG} {K : ZMem → Prop} (h : zRu lyC E G (zRv K) cX1_putGuess RX1 3 none 0) (M : ZMem) (x1 : Int32) (x2 : Int32) (v1 : Int32) (v2 : Int32) (v3 : Int32) (hk : zOk (f_X1_putGuess_40 M x1 x2 v1 v2 v3) K) : G M 40 [(0, zrf E 20), (1, .int x1), (2, .int x2)] [.int v3, .int v2, .int v1, zrf E 20] := by
  unfold f_X1_putGuess_40 at hk
  refine zr_isub h dX1_putGuess_40 ?_
  refine zr_iadd h dX1_putGuess_41 ?_
  refine zr_putI h zfp_X1_53 lC_20 rfl dX1_putGuess_42 ?_
  refine zr_mem (fun M_42 eM => ?_)
  have hk := zOk_bnd eM hk
  refine zr_aload_n h dX1_putGuess_45 0 rfl rfl ?_
  refine zr_getR h zfo_X1_28 lC_20 rfl dX1_putGuess_46 ?_
  refine zr_iload_n h dX1_putGuess_49 1 rfl rfl ?_
  refine zr_iload_n h dX1_putGuess_50 2 rfl rfl ?_
  have hb := zOk_chk hk
  have hk := hb.2
  refine zr_iast h lC_26 hb.1 dX1_putGuess_51 ?_
  refine zr_mem (fun M_51 eM => ?_)
  have hk := zOk_bnd eM hk
  have hk := zOk_some hk
  exact zr_vret h dX1_putGuess_52 ⟨rfl, hk⟩
noncomputable def f_X1_putGuess_25 (M : ZMem) (x1 : Int32) (x2 : Int32) (v1 : Int32) (v2 : Int32) : Option ZMem := zchk (zin x1 20) (if (M.1 26 (zix x1)) = (zI (-1)) then f_X1_putGuess_40 M x1 x2 v1 v2 (zI 0) else f_X1_putGuess_40 M x1 x2 v1 v2 (zI 1))
set_option maxRecDepth 100000 in
set_option maxHeartbeats 4000000 in
theorem w_X1_putGuess_25 {E : ZEv} {G : ZG} {K : ZMem → Prop} (h : zRu lyC E G (zRv K) cX1_putGuess RX1 3 none 0) (M : ZMem) (x1 : Int32) (x2 : Int32) (v1 : Int32) (v2 : Int32) (hk : zOk (f_X1_putGuess_25 M x1 x2 v1 v2) K) : G M 25 [(0, zrf E 20), (1, .int x1), (2, .int x2)] [.int v2, .int v1, zrf E 20] := by
  unfold f_X1_putGuess_25 at hk
  refine zr_aload_n h dX1_putGuess_25 0 rfl rfl ?_
  refine zr_getR h zfo_X1_28 lC_20 rfl dX1_putGuess_26 ?_
  refine zr_iload_n h dX1_putGuess_29 1 rfl rfl ?_
  have hb := zOk_chk hk
  have hk := hb.2
  refine zr_iald h lC_26 hb.1 dX1_putGuess_30 ?_
  refine zr_iconst (v := (zI (-1))) h dX1_putGuess_31 rfl ?_
  refine zr_icmp_ne (tgt := 39) h dX1_putGuess_32 (by decide) (fun c => ?_) (fun c => ?_)
  · have hk := zOk_t c hk
    refine zr_iconst (v := (zI 0)) h dX1_putGuess_35 rfl ?_
    refine zr_goto (tgt := 40) h dX1_putGuess_36 (by decide) ?_
    exact w_X1_putGuess_40 h M x1 x2 v1 v2 (zI 0) hk
  · have hk := zOk_f c hk
    refine zr_iconst (v := (zI 1)) h dX1_putGuess_39 rfl ?_
    exact w_X1_putGuess_40 h M x1 x2 v1 v2 (zI 1) hk
noncomputable def f_X1_putGuess (M : ZMem) (x1 : Int32) (x2 : Int32) : Option ZMem := if x1 < (zI 0) then some M else if (zI 20) ≤ x1 then some M else if x2 = (zI (-1)) then f_X1_putGuess_25 M x1 x2 (M.1 20 10) (zI 0) else f_X1_putGuess_25 M x1 x2 (M.1 20 10) (zI 1)
set_option maxRecDepth 100000 in
set_option maxHeartbeats 4000000 in
theorem c_X1_putGuess (E : ZEv) (M : ZMem) (x1 : Int32) (x2 : Int32) (K : ZMem → Prop) (hk : zOk (f_X1_putGuess M x1 x2) K) : zCon lyC E yX1_putGuess cX1_putGuess 3 none 0 [zrf E 20, .int x1, .int x2] M (zRv K) := by
  refine zcon_of (L0 := [(0, zrf E 20), (1, .int x1), (2, .int x2)]) (by decide) rfl (Nat.le_of_ble_eq_true rfl) (fun G h => ?_)
  have h : zRu lyC E G (zRv K) cX1_putGuess RX1 3 none 0 := h
  unfold f_X1_putGuess at hk
  refine zr_iload_n h dX1_putGuess_0 1 rfl rfl ?_
  refine zr_if_lt (tgt := 52) h dX1_putGuess_1 (by decide) (fun c => ?_) (fun c => ?_)
  · have hk := zOk_t c hk
    have hk := zOk_some hk
    exact zr_vret h dX1_putGuess_52 ⟨rfl, hk⟩
  · have hk := zOk_f c hk
    refine zr_iload_n h dX1_putGuess_4 1 rfl rfl ?_
    refine zr_bipush (v := (zI 20)) h dX1_putGuess_5 (by decide) ?_
    refine zr_icmp_ge (tgt := 52) h dX1_putGuess_7 (by decide) (fun c => ?_) (fun c => ?_)
    · have hk := zOk_t c hk
      have hk := zOk_some hk
      exact zr_vret h dX1_putGuess_52 ⟨rfl, hk⟩
    · have hk := zOk_f c hk
      refine zr_aload_n h dX1_putGuess_10 0 rfl rfl ?_
      refine zr_dup h dX1_putGuess_11 rfl ?_
      refine zr_getI h zfo_X1_53 lC_20 rfl dX1_putGuess_12 ?_
      refine zr_iload_n h dX1_putGuess_15 2 rfl rfl ?_
      refine zr_iconst (v := (zI (-1))) h dX1_putGuess_16 rfl ?_
      refine zr_icmp_ne (tgt := 24) h dX1_putGuess_17 (by decide) (fun c => ?_) (fun c => ?_)
      · have hk := zOk_t c hk
        refine zr_iconst (v := (zI 0)) h dX1_putGuess_20 rfl ?_
        refine zr_goto (tgt := 25) h dX1_putGuess_21 (by decide) ?_
        exact w_X1_putGuess_25 h M x1 x2 (M.1 20 10) (zI 0) hk
      · have hk := zOk_f c hk
        refine zr_iconst (v := (zI 1)) h dX1_putGuess_24 rfl ?_
        exact w_X1_putGuess_25 h M x1 x2 (M.1 20 10) (zI 1) hk
theorem dX1_tellGuess_0 : decode cX1_tellGuess 0 = .ok (.iload_n 1, 1) := by decide +kernel
theorem dX1_tellGuess_1 : decode cX1_tellGuess 1 = .ok (.ifCond .lt 19, 3) := by decide +kernel
theorem dX1_tellGuess_4 : decode cX1_tellGuess 4 = .ok (.iload_n 1, 1) := by decide +kernel
theorem dX1_tellGuess_5 : decode cX1_tellGuess 5 = .ok (.bipush 20, 2) := by decide +kernel
theorem dX1_tellGuess_7 : decode cX1_tellGuess 7 = .ok (.if_icmp .ge 13, 3) := by decide +kernel
theorem dX1_tellGuess_10 : decode cX1_tellGuess 10 = .ok (.aload_n 0, 1) := by decide +kernel
theorem dX1_tellGuess_11 : decode cX1_tellGuess 11 = .ok (.getfield 28, 3) := by decide +kernel
theorem dX1_tellGuess_14 : decode cX1_tellGuess 14 = .ok (.iload_n 1, 1) := by decide +kernel
theorem dX1_tellGuess_15 : decode cX1_tellGuess 15 = .ok (.iaload, 1) := by decide +kernel
theorem dX1_tellGuess_16 : decode cX1_tellGuess 16 = .ok (.iload_n 2, 1) := by decide +kernel
theorem dX1_tellGuess_17 : decode cX1_tellGuess 17 = .ok (.if_icmp .ne 5, 3) := by decide +kernel
theorem dX1_tellGuess_20 : decode cX1_tellGuess 20 = .ok (.iconst 0, 1) := by decide +kernel
theorem dX1_tellGuess_21 : decode cX1_tellGuess 21 = .ok (.ireturn, 1) := by decide +kernel
theorem dX1_tellGuess_22 : decode cX1_tellGuess 22 = .ok (.aload_n 0, 1) := by decide +kernel
theorem dX1_tellGuess_23 : decode cX1_tellGuess 23 = .ok (.iconst 5, 1) := by decide +kernel
theorem dX1_tellGuess_24 : decode cX1_tellGuess 24 = .ok (.iload_n 1, 1) := by decide +kernel
theorem dX1_tellGuess_25 : decode cX1_tellGuess 25 = .ok (.aload_n 0, 1) := by decide +kernel
theorem dX1_tellGuess_26 : decode cX1_tellGuess 26 = .ok (.getfield 28, 3) := by decide +kernel
theorem dX1_tellGuess_29 : decode cX1_tellGuess 29 = .ok (.iload_n 1, 1) := by decide +kernel
theorem dX1_tellGuess_30 : decode cX1_tellGuess 30 = .ok (.iaload, 1) := by decide +kernel
theorem dX1_tellGuess_31 : decode cX1_tellGuess 31 = .ok (.invokevirtual 59, 3) := by decide +kernel
theorem dX1_tellGuess_34 : decode cX1_tellGuess 34 = .ok (.aload_n 0, 1) := by decide +kernel
theorem dX1_tellGuess_35 : decode cX1_tellGuess 35 = .ok (.iload_n 1, 1) := by decide +kernel
theorem dX1_tellGuess_36 : decode cX1_tellGuess 36 = .ok (.iload_n 2, 1) := by decide +kernel
theorem dX1_tellGuess_37 : decode cX1_tellGuess 37 = .ok (.invokevirtual 79, 3) := by decide +kernel
theorem dX1_tellGuess_40 : decode cX1_tellGuess 40 = .ok (.iconst 1, 1) := by decide +kernel
theorem dX1_tellGuess_41 : decode cX1_tellGuess 41 = .ok (.ireturn, 1) := by decide +kernel
noncomputable def f_X1_tellGuess (M : ZMem) (x1 : Int32) (x2 : Int32) : Option (ZMem × Int32) := if x1 < (zI 0) then some (M, (zI 0)) else if (zI 20) ≤ x1 then some (M, (zI 0)) else zchk (zin x1 20) (if (M.1 26 (zix x1)) = x2 then some (M, (zI 0)) else zchk (zin x1 20) (zbind (f_X1_note M (zI 5) x1 (M.1 26 (zix x1))) (fun M_31 => zbind (f_X1_putGuess M_31 x1 x2) (fun M_37 => some (M_37, (zI 1))))))
set_option maxRecDepth 100000 in
set_option maxHeartbeats 4000000 in
theorem c_X1_tellGuess (E : ZEv) (M : ZMem) (x1 : Int32) (x2 : Int32) (K : ZMem × Int32 → Prop) (hk : zOk (f_X1_tellGuess M x1 x2) K) : zCon lyC E yX1_tellGuess cX1_tellGuess 3 (some .boolean) 2 [zrf E 20, .int x1, .int x2] M (zRm K) := by
  refine zcon_of (L0 := [(0, zrf E 20), (1, .int x1), (2, .int x2)]) (by decide) rfl (Nat.le_of_ble_eq_true rfl) (fun G h => ?_)
  have h : zRu lyC E G (zRm K) cX1_tellGuess RX1 3 (some .boolean) 2 := h
  unfold f_X1_tellGuess at hk
  refine zr_iload_n h dX1_tellGuess_0 1 rfl rfl ?_
  refine zr_if_lt (tgt := 20) h dX1_tellGuess_1 (by decide) (fun c => ?_) (fun c => ?_)
  · have hk := zOk_t c hk
    refine zr_iconst (v := (zI 0)) h dX1_tellGuess_20 rfl ?_
    have hk := zOk_some hk
    exact zr_zret h dX1_tellGuess_21 (by decide) ⟨_, rfl, hk⟩
  · have hk := zOk_f c hk
    refine zr_iload_n h dX1_tellGuess_4 1 rfl rfl ?_
    refine zr_bipush (v := (zI 20)) h dX1_tellGuess_5 (by decide) ?_
    refine zr_icmp_ge (tgt := 20) h dX1_tellGuess_7 (by decide) (fun c => ?_) (fun c => ?_)
    · have hk := zOk_t c hk
      refine zr_iconst (v := (zI 0)) h dX1_tellGuess_20 rfl ?_
      have hk := zOk_some hk
      exact zr_zret h dX1_tellGuess_21 (by decide) ⟨_, rfl, hk⟩
    · have hk := zOk_f c hk
      refine zr_aload_n h dX1_tellGuess_10 0 rfl rfl ?_
      refine zr_getR h zfo_X1_28 lC_20 rfl dX1_tellGuess_11 ?_
      refine zr_iload_n h dX1_tellGuess_14 1 rfl rfl ?_
      have hb := zOk_chk hk
      have hk := hb.2
      refine zr_iald h lC_26 hb.1 dX1_tellGuess_15 ?_
      refine zr_iload_n h dX1_tellGuess_16 2 rfl rfl ?_
      refine zr_icmp_ne (tgt := 22) h dX1_tellGuess_17 (by decide) (fun c => ?_) (fun c => ?_)
      · have hk := zOk_t c hk
        refine zr_iconst (v := (zI 0)) h dX1_tellGuess_20 rfl ?_
        have hk := zOk_some hk
        exact zr_zret h dX1_tellGuess_21 (by decide) ⟨_, rfl, hk⟩
      · have hk := zOk_f c hk
        refine zr_aload_n h dX1_tellGuess_22 0 rfl rfl ?_
        refine zr_iconst (v := (zI 5)) h dX1_tellGuess_23 rfl ?_
        refine zr_iload_n h dX1_tellGuess_24 1 rfl rfl ?_
        refine zr_aload_n h dX1_tellGuess_25 0 rfl rfl ?_
        refine zr_getR h zfo_X1_28 lC_20 rfl dX1_tellGuess_26 ?_
        refine zr_iload_n h dX1_tellGuess_29 1 rfl rfl ?_
        have hb := zOk_chk hk
        have hk := hb.2
        refine zr_iald h lC_26 hb.1 dX1_tellGuess_30 ?_
        refine zr_callVv h lC_20 zcw_X1_59 (by decide) (c_X1_note E M (zI 5) x1 (M.1 26 (zix x1)) _ (zOk_bind hk)) rfl rfl (Nat.le_of_ble_eq_true rfl) dX1_tellGuess_31 (fun M_31 hk => ?_)
        refine zr_aload_n h dX1_tellGuess_34 0 rfl rfl ?_
        refine zr_iload_n h dX1_tellGuess_35 1 rfl rfl ?_
        refine zr_iload_n h dX1_tellGuess_36 2 rfl rfl ?_
        refine zr_callVv h lC_20 zcw_X1_79 (by decide) (c_X1_putGuess E M_31 x1 x2 _ (zOk_bind hk)) rfl rfl (Nat.le_of_ble_eq_true rfl) dX1_tellGuess_37 (fun M_37 hk => ?_)
        refine zr_iconst (v := (zI 1)) h dX1_tellGuess_40 rfl ?_
        have hk := zOk_some hk
        exact zr_zret h dX1_tellGuess_41 (by decide) ⟨_, rfl, hk⟩
theorem dX1_undoLast_0 : decode cX1_undoLast 0 = .ok (.aload_n 0, 1) := by decide +kernel
theorem dX1_undoLast_1 : decode cX1_undoLast 1 = .ok (.getfield 56, 3) := by decide +kernel
theorem dX1_undoLast_4 : decode cX1_undoLast 4 = .ok (.ifCond .gt 5, 3) := by decide +kernel
theorem dX1_undoLast_7 : decode cX1_undoLast 7 = .ok (.iconst (-1), 1) := by decide +kernel
theorem dX1_undoLast_8 : decode cX1_undoLast 8 = .ok (.ireturn, 1) := by decide +kernel
theorem dX1_undoLast_9 : decode cX1_undoLast 9 = .ok (.aload_n 0, 1) := by decide +kernel
theorem dX1_undoLast_10 : decode cX1_undoLast 10 = .ok (.dup, 1) := by decide +kernel
theorem dX1_undoLast_11 : decode cX1_undoLast 11 = .ok (.getfield 56, 3) := by decide +kernel
theorem dX1_undoLast_14 : decode cX1_undoLast 14 = .ok (.iconst 1, 1) := by decide +kernel
theorem dX1_undoLast_15 : decode cX1_undoLast 15 = .ok (.isub, 1) := by decide +kernel
theorem dX1_undoLast_16 : decode cX1_undoLast 16 = .ok (.putfield 56, 3) := by decide +kernel
theorem dX1_undoLast_19 : decode cX1_undoLast 19 = .ok (.aload_n 0, 1) := by decide +kernel
theorem dX1_undoLast_20 : decode cX1_undoLast 20 = .ok (.getfield 31, 3) := by decide +kernel
theorem dX1_undoLast_23 : decode cX1_undoLast 23 = .ok (.aload_n 0, 1) := by decide +kernel
theorem dX1_undoLast_24 : decode cX1_undoLast 24 = .ok (.getfield 56, 3) := by decide +kernel
theorem dX1_undoLast_27 : decode cX1_undoLast 27 = .ok (.iaload, 1) := by decide +kernel
theorem dX1_undoLast_28 : decode cX1_undoLast 28 = .ok (.istore_n 1, 1) := by decide +kernel
theorem dX1_undoLast_29 : decode cX1_undoLast 29 = .ok (.aload_n 0, 1) := by decide +kernel
theorem dX1_undoLast_30 : decode cX1_undoLast 30 = .ok (.getfield 34, 3) := by decide +kernel
theorem dX1_undoLast_33 : decode cX1_undoLast 33 = .ok (.aload_n 0, 1) := by decide +kernel
theorem dX1_undoLast_34 : decode cX1_undoLast 34 = .ok (.getfield 56, 3) := by decide +kernel
theorem dX1_undoLast_37 : decode cX1_undoLast 37 = .ok (.iaload, 1) := by decide +kernel
theorem dX1_undoLast_38 : decode cX1_undoLast 38 = .ok (.istore_n 2, 1) := by decide +kernel
theorem dX1_undoLast_39 : decode cX1_undoLast 39 = .ok (.aload_n 0, 1) := by decide +kernel
theorem dX1_undoLast_40 : decode cX1_undoLast 40 = .ok (.getfield 37, 3) := by decide +kernel
theorem dX1_undoLast_43 : decode cX1_undoLast 43 = .ok (.aload_n 0, 1) := by decide +kernel
theorem dX1_undoLast_44 : decode cX1_undoLast 44 = .ok (.getfield 56, 3) := by decide +kernel
theorem dX1_undoLast_47 : decode cX1_undoLast 47 = .ok (.iaload, 1) := by decide +kernel
theorem dX1_undoLast_48 : decode cX1_undoLast 48 = .ok (.istore_n 3, 1) := by decide +kernel
theorem dX1_undoLast_49 : decode cX1_undoLast 49 = .ok (.iload_n 1, 1) := by decide +kernel
theorem dX1_undoLast_50 : decode cX1_undoLast 50 = .ok (.iconst 4, 1) := by decide +kernel
theorem dX1_undoLast_51 : decode cX1_undoLast 51 = .ok (.if_icmp .ne 20, 3) := by decide +kernel
theorem dX1_undoLast_54 : decode cX1_undoLast 54 = .ok (.aload_n 0, 1) := by decide +kernel
theorem dX1_undoLast_55 : decode cX1_undoLast 55 = .ok (.iconst 0, 1) := by decide +kernel
theorem dX1_undoLast_56 : decode cX1_undoLast 56 = .ok (.aload_n 0, 1) := by decide +kernel
theorem dX1_undoLast_57 : decode cX1_undoLast 57 = .ok (.getfield 49, 3) := by decide +kernel
theorem dX1_undoLast_60 : decode cX1_undoLast 60 = .ok (.iconst 1, 1) := by decide +kernel
theorem dX1_undoLast_61 : decode cX1_undoLast 61 = .ok (.isub, 1) := by decide +kernel
theorem dX1_undoLast_62 : decode cX1_undoLast 62 = .ok (.invokestatic 69, 3) := by decide +kernel
theorem dX1_undoLast_65 : decode cX1_undoLast 65 = .ok (.putfield 49, 3) := by decide +kernel
theorem dX1_undoLast_68 : decode cX1_undoLast 68 = .ok (.goto 65, 3) := by decide +kernel
theorem dX1_undoLast_71 : decode cX1_undoLast 71 = .ok (.iload_n 1, 1) := by decide +kernel
theorem dX1_undoLast_72 : decode cX1_undoLast 72 = .ok (.iconst 5, 1) := by decide +kernel
theorem dX1_undoLast_73 : decode cX1_undoLast 73 = .ok (.if_icmp .ne 12, 3) := by decide +kernel
theorem dX1_undoLast_76 : decode cX1_undoLast 76 = .ok (.aload_n 0, 1) := by decide +kernel
theorem dX1_undoLast_77 : decode cX1_undoLast 77 = .ok (.iload_n 2, 1) := by decide +kernel
theorem dX1_undoLast_78 : decode cX1_undoLast 78 = .ok (.iload_n 3, 1) := by decide +kernel
theorem dX1_undoLast_79 : decode cX1_undoLast 79 = .ok (.invokevirtual 79, 3) := by decide +kernel
theorem dX1_undoLast_82 : decode cX1_undoLast 82 = .ok (.goto 51, 3) := by decide +kernel
theorem dX1_undoLast_85 : decode cX1_undoLast 85 = .ok (.iload_n 1, 1) := by decide +kernel
theorem dX1_undoLast_86 : decode cX1_undoLast 86 = .ok (.iconst 3, 1) := by decide +kernel
theorem dX1_undoLast_87 : decode cX1_undoLast 87 = .ok (.if_icmp .ne 26, 3) := by decide +kernel
theorem dX1_undoLast_90 : decode cX1_undoLast 90 = .ok (.iload_n 2, 1) := by decide +kernel
theorem dX1_undoLast_91 : decode cX1_undoLast 91 = .ok (.ifCond .lt 22, 3) := by decide +kernel
theorem dX1_undoLast_94 : decode cX1_undoLast 94 = .ok (.iload_n 2, 1) := by decide +kernel
theorem dX1_undoLast_95 : decode cX1_undoLast 95 = .ok (.aload_n 0, 1) := by decide +kernel
theorem dX1_undoLast_96 : decode cX1_undoLast 96 = .ok (.getfield 15, 3) := by decide +kernel
theorem dX1_undoLast_99 : decode cX1_undoLast 99 = .ok (.arraylength, 1) := by decide +kernel
theorem dX1_undoLast_100 : decode cX1_undoLast 100 = .ok (.if_icmp .ge 13, 3) := by decide +kernel
theorem dX1_undoLast_103 : decode cX1_undoLast 103 = .ok (.aload_n 0, 1) := by decide +kernel
theorem dX1_undoLast_104 : decode cX1_undoLast 104 = .ok (.getfield 15, 3) := by decide +kernel
theorem dX1_undoLast_107 : decode cX1_undoLast 107 = .ok (.iload_n 2, 1) := by decide +kernel
theorem dX1_undoLast_108 : decode cX1_undoLast 108 = .ok (.iload_n 3, 1) := by decide +kernel
theorem dX1_undoLast_109 : decode cX1_undoLast 109 = .ok (.iastore, 1) := by decide +kernel
theorem dX1_undoLast_110 : decode cX1_undoLast 110 = .ok (.goto 23, 3) := by decide +kernel
theorem dX1_undoLast_113 : decode cX1_undoLast 113 = .ok (.iload_n 2, 1) := by decide +kernel
theorem dX1_undoLast_114 : decode cX1_undoLast 114 = .ok (.ifCond .lt 19, 3) := by decide +kernel
theorem dX1_undoLast_117 : decode cX1_undoLast 117 = .ok (.iload_n 2, 1) := by decide +kernel
theorem dX1_undoLast_118 : decode cX1_undoLast 118 = .ok (.aload_n 0, 1) := by decide +kernel
theorem dX1_undoLast_119 : decode cX1_undoLast 119 = .ok (.getfield 9, 3) := by decide +kernel
theorem dX1_undoLast_122 : decode cX1_undoLast 122 = .ok (.arraylength, 1) := by decide +kernel
theorem dX1_undoLast_123 : decode cX1_undoLast 123 = .ok (.if_icmp .ge 10, 3) := by decide +kernel
theorem dX1_undoLast_126 : decode cX1_undoLast 126 = .ok (.aload_n 0, 1) := by decide +kernel
theorem dX1_undoLast_127 : decode cX1_undoLast 127 = .ok (.getfield 9, 3) := by decide +kernel
theorem dX1_undoLast_130 : decode cX1_undoLast 130 = .ok (.iload_n 2, 1) := by decide +kernel
theorem dX1_undoLast_131 : decode cX1_undoLast 131 = .ok (.iload_n 3, 1) := by decide +kernel
theorem dX1_undoLast_132 : decode cX1_undoLast 132 = .ok (.iastore, 1) := by decide +kernel
theorem dX1_undoLast_133 : decode cX1_undoLast 133 = .ok (.iload_n 1, 1) := by decide +kernel
theorem dX1_undoLast_134 : decode cX1_undoLast 134 = .ok (.ireturn, 1) := by decide +kernel
noncomputable def f_X1_undoLast_113 (M : ZMem) (x1 : Int32) (x2 : Int32) (x3 : Int32) : Option (ZMem × Int32) := if x2 < (zI 0) then some (M, x1) else if (zI 3) ≤ x2 then some (M, x1) else zchk (zin x2 3) (zbnd (zstI M 21 (zix x2) x3) (fun M_132 => some (M_132, x1)))
set_option maxRecDepth 100000 in
set_option maxHeartbeats 4000000 in
theorem w_X1_undoLast_113 {E : ZEv} {G : ZG} {K : (ZMem × Int32) → Prop} (h : zRu lyC E G (zRm K) cX1_undoLast RX1 4 (some .int) 1) (M : ZMem) (x1 : Int32) (x2 : Int32) (x3 : Int32) (hk : zOk (f_X1_undoLast_113 M x1 x2 x3) K) : G M 113 [(0, zrf E 20), (1, .int x1), (2, .int x2), (3, .int x3)] [] := by
  unfold f_X1_undoLast_113 at hk
  refine zr_iload_n h dX1_undoLast_113 2 rfl rfl ?_
  refine zr_if_lt (tgt := 133) h dX1_undoLast_114 (by decide) (fun c => ?_) (fun c => ?_)
  · have hk := zOk_t c hk
    refine zr_iload_n h dX1_undoLast_133 1 rfl rfl ?_
    have hk := zOk_some hk
    exact zr_iret h dX1_undoLast_134 ⟨_, rfl, hk⟩
  · have hk := zOk_f c hk
    refine zr_iload_n h dX1_undoLast_117 2 rfl rfl ?_
    refine zr_aload_n h dX1_undoLast_118 0 rfl rfl ?_
    refine zr_getR h zfo_X1_9 lC_20 rfl dX1_undoLast_119 ?_
    refine zr_alen h (by decide) lC_21 dX1_undoLast_122 ?_
    refine zr_icmp_ge (tgt := 133) h dX1_undoLast_123 (by decide) (fun c => ?_) (fun c => ?_)
    · have hk := zOk_t c hk
      refine zr_iload_n h dX1_undoLast_133 1 rfl rfl ?_
      have hk := zOk_some hk
      exact zr_iret h dX1_undoLast_134 ⟨_, rfl, hk⟩
    · have hk := zOk_f c hk
      refine zr_aload_n h dX1_undoLast_126 0 rfl rfl ?_
      refine zr_getR h zfo_X1_9 lC_20 rfl dX1_undoLast_127 ?_
      refine zr_iload_n h dX1_undoLast_130 2 rfl rfl ?_
      refine zr_iload_n h dX1_undoLast_131 3 rfl rfl ?_
      have hb := zOk_chk hk
      have hk := hb.2
      refine zr_iast h lC_21 hb.1 dX1_undoLast_132 ?_
      refine zr_mem (fun M_132 eM => ?_)
      have hk := zOk_bnd eM hk
      refine zr_iload_n h dX1_undoLast_133 1 rfl rfl ?_
      have hk := zOk_some hk
      exact zr_iret h dX1_undoLast_134 ⟨_, rfl, hk⟩
noncomputable def f_X1_undoLast (M : ZMem) : Option (ZMem × Int32) := if (zI 0) < (M.1 20 11) then zbnd (zstI M 20 11 ((M.1 20 11) - (zI 1))) (fun M_16 => zchk (zin (M_16.1 20 11) 20) (zbnd (M_16.1 27 (zix (M_16.1 20 11))) (fun x1_28 => zchk (zin (M_16.1 20 11) 20) (zbnd (M_16.1 28 (zix (M_16.1 20 11))) (fun x2_38 => zchk (zin (M_16.1 20 11) 20) (zbnd (M_16.1 29 (zix (M_16.1 20 11))) (fun x3_48 => if x1_28 = (zI 4) then zbnd (zstI M_16 20 9 (if (zI 0) < ((M_16.1 20 9) - (zI 1)) then ((M_16.1 20 9) - (zI 1)) else (zI 0))) (fun M_65 => some (M_65, x1_28)) else if x1_28 = (zI 5) then zbind (f_X1_putGuess M_16 x2_38 x3_48) (fun M_79 => some (M_79, x1_28)) else if x1_28 = (zI 3) then if x2_38 < (zI 0) then f_X1_undoLast_113 M_16 x1_28 x2_38 x3_48 else if (zI 400) ≤ x2_38 then f_X1_undoLast_113 M_16 x1_28 x2_38 x3_48 else zchk (zin x2_38 400) (zbnd (zstI M_16 22 (zix x2_38) x3_48) (fun M_109 => some (M_109, x1_28))) else f_X1_undoLast_113 M_16 x1_28 x2_38 x3_48))))))) else some (M, (zI (-1)))
set_option maxRecDepth 100000 in
set_option maxHeartbeats 4000000 in
theorem c_X1_undoLast (E : ZEv) (M : ZMem) (K : ZMem × Int32 → Prop) (hk : zOk (f_X1_undoLast M) K) : zCon lyC E yX1_undoLast cX1_undoLast 4 (some .int) 1 [zrf E 20] M (zRm K) := by
  refine zcon_of (L0 := [(0, zrf E 20)]) (by decide) rfl (Nat.le_of_ble_eq_true rfl) (fun G h => ?_)
  have h : zRu lyC E G (zRm K) cX1_undoLast RX1 4 (some .int) 1 := h
  unfold f_X1_undoLast at hk
  refine zr_aload_n h dX1_undoLast_0 0 rfl rfl ?_
  refine zr_getI h zfo_X1_56 lC_20 rfl dX1_undoLast_1 ?_
  refine zr_if_gt (tgt := 9) h dX1_undoLast_4 (by decide) (fun c => ?_) (fun c => ?_)
  · have hk := zOk_t c hk
    refine zr_aload_n h dX1_undoLast_9 0 rfl rfl ?_
    refine zr_dup h dX1_undoLast_10 rfl ?_
    refine zr_getI h zfo_X1_56 lC_20 rfl dX1_undoLast_11 ?_
    refine zr_iconst (v := (zI 1)) h dX1_undoLast_14 rfl ?_
    refine zr_isub h dX1_undoLast_15 ?_
    refine zr_putI h zfp_X1_56 lC_20 rfl dX1_undoLast_16 ?_
    refine zr_mem (fun M_16 eM => ?_)
    have hk := zOk_bnd eM hk
    refine zr_aload_n h dX1_undoLast_19 0 rfl rfl ?_
    refine zr_getR h zfo_X1_31 lC_20 rfl dX1_undoLast_20 ?_
    refine zr_aload_n h dX1_undoLast_23 0 rfl rfl ?_
    refine zr_getI h zfo_X1_56 lC_20 rfl dX1_undoLast_24 ?_
    have hb := zOk_chk hk
    have hk := hb.2
    refine zr_iald h lC_27 hb.1 dX1_undoLast_27 ?_
    refine zr_topi (fun x1_28 ex => ?_)
    have hk := zOk_bnd ex hk
    refine zr_istore_n (L' := [(0, zrf E 20), (1, .int x1_28)]) h [1, 0] dX1_undoLast_28 rfl (by decide) rfl ?_
    refine zr_aload_n h dX1_undoLast_29 0 rfl rfl ?_
    refine zr_getR h zfo_X1_34 lC_20 rfl dX1_undoLast_30 ?_
    refine zr_aload_n h dX1_undoLast_33 0 rfl rfl ?_
    refine zr_getI h zfo_X1_56 lC_20 rfl dX1_undoLast_34 ?_
    have hb := zOk_chk hk
    have hk := hb.2
    refine zr_iald h lC_28 hb.1 dX1_undoLast_37 ?_
    refine zr_topi (fun x2_38 ex => ?_)
    have hk := zOk_bnd ex hk
    refine zr_istore_n (L' := [(0, zrf E 20), (1, .int x1_28), (2, .int x2_38)]) h [1, 2, 0] dX1_undoLast_38 rfl (by decide) rfl ?_
    refine zr_aload_n h dX1_undoLast_39 0 rfl rfl ?_
    refine zr_getR h zfo_X1_37 lC_20 rfl dX1_undoLast_40 ?_
    refine zr_aload_n h dX1_undoLast_43 0 rfl rfl ?_
    refine zr_getI h zfo_X1_56 lC_20 rfl dX1_undoLast_44 ?_
    have hb := zOk_chk hk
    have hk := hb.2
    refine zr_iald h lC_29 hb.1 dX1_undoLast_47 ?_
    refine zr_topi (fun x3_48 ex => ?_)
    have hk := zOk_bnd ex hk
    refine zr_istore_n (L' := [(0, zrf E 20), (1, .int x1_28), (2, .int x2_38), (3, .int x3_48)]) h [1, 2, 3, 0] dX1_undoLast_48 rfl (by decide) rfl ?_
    refine zr_iload_n h dX1_undoLast_49 1 rfl rfl ?_
    refine zr_iconst (v := (zI 4)) h dX1_undoLast_50 rfl ?_
    refine zr_icmp_ne (tgt := 71) h dX1_undoLast_51 (by decide) (fun c => ?_) (fun c => ?_)
    · have hk := zOk_t c hk
      refine zr_aload_n h dX1_undoLast_54 0 rfl rfl ?_
      refine zr_iconst (v := (zI 0)) h dX1_undoLast_55 rfl ?_
      refine zr_aload_n h dX1_undoLast_56 0 rfl rfl ?_
      refine zr_getI h zfo_X1_49 lC_20 rfl dX1_undoLast_57 ?_
      refine zr_iconst (v := (zI 1)) h dX1_undoLast_60 rfl ?_
      refine zr_isub h dX1_undoLast_61 ?_
      refine zr_mmax h (zm_27 _ (List.mem_of_getElem? (i := 20) rfl)) (zm_13 _ (List.mem_of_getElem? (i := 10) rfl)) (zm_12 _ (List.mem_of_getElem? (i := 12) rfl)) (zm_13 _ (List.mem_of_getElem? (i := 11) rfl)) (Nat.le_of_ble_eq_true rfl) dX1_undoLast_62 ?_
      refine zr_putI h zfp_X1_49 lC_20 rfl dX1_undoLast_65 ?_
      refine zr_mem (fun M_65 eM => ?_)
      have hk := zOk_bnd eM hk
      refine zr_goto (tgt := 133) h dX1_undoLast_68 (by decide) ?_
      refine zr_iload_n h dX1_undoLast_133 1 rfl rfl ?_
      have hk := zOk_some hk
      exact zr_iret h dX1_undoLast_134 ⟨_, rfl, hk⟩
    · have hk := zOk_f c hk
      refine zr_iload_n h dX1_undoLast_71 1 rfl rfl ?_
      refine zr_iconst (v := (zI 5)) h dX1_undoLast_72 rfl ?_
      refine zr_icmp_ne (tgt := 85) h dX1_undoLast_73 (by decide) (fun c => ?_) (fun c => ?_)
      · have hk := zOk_t c hk
        refine zr_aload_n h dX1_undoLast_76 0 rfl rfl ?_
        refine zr_iload_n h dX1_undoLast_77 2 rfl rfl ?_
        refine zr_iload_n h dX1_undoLast_78 3 rfl rfl ?_
        refine zr_callVv h lC_20 zcw_X1_79 (by decide) (c_X1_putGuess E M_16 x2_38 x3_48 _ (zOk_bind hk)) rfl rfl (Nat.le_of_ble_eq_true rfl) dX1_undoLast_79 (fun M_79 hk => ?_)
        refine zr_goto (tgt := 133) h dX1_undoLast_82 (by decide) ?_
        refine zr_iload_n h dX1_undoLast_133 1 rfl rfl ?_
        have hk := zOk_some hk
        exact zr_iret h dX1_undoLast_134 ⟨_, rfl, hk⟩
      · have hk := zOk_f c hk
        refine zr_iload_n h dX1_undoLast_85 1 rfl rfl ?_
        refine zr_iconst (v := (zI 3)) h dX1_undoLast_86 rfl ?_
        refine zr_icmp_ne (tgt := 113) h dX1_undoLast_87 (by decide) (fun c => ?_) (fun c => ?_)
        · have hk := zOk_t c hk
          refine zr_iload_n h dX1_undoLast_90 2 rfl rfl ?_
          refine zr_if_lt (tgt := 113) h dX1_undoLast_91 (by decide) (fun c => ?_) (fun c => ?_)
          · have hk := zOk_t c hk
            exact w_X1_undoLast_113 h M_16 x1_28 x2_38 x3_48 hk
          · have hk := zOk_f c hk
            refine zr_iload_n h dX1_undoLast_94 2 rfl rfl ?_
            refine zr_aload_n h dX1_undoLast_95 0 rfl rfl ?_
            refine zr_getR h zfo_X1_15 lC_20 rfl dX1_undoLast_96 ?_
            refine zr_alen h (by decide) lC_22 dX1_undoLast_99 ?_
            refine zr_icmp_ge (tgt := 113) h dX1_undoLast_100 (by decide) (fun c => ?_) (fun c => ?_)
            · have hk := zOk_t c hk
              exact w_X1_undoLast_113 h M_16 x1_28 x2_38 x3_48 hk
            · have hk := zOk_f c hk
              refine zr_aload_n h dX1_undoLast_103 0 rfl rfl ?_
              refine zr_getR h zfo_X1_15 lC_20 rfl dX1_undoLast_104 ?_
              refine zr_iload_n h dX1_undoLast_107 2 rfl rfl ?_
              refine zr_iload_n h dX1_undoLast_108 3 rfl rfl ?_
              have hb := zOk_chk hk
              have hk := hb.2
              refine zr_iast h lC_22 hb.1 dX1_undoLast_109 ?_
              refine zr_mem (fun M_109 eM => ?_)
              have hk := zOk_bnd eM hk
              refine zr_goto (tgt := 133) h dX1_undoLast_110 (by decide) ?_
              refine zr_iload_n h dX1_undoLast_133 1 rfl rfl ?_
              have hk := zOk_some hk
              exact zr_iret h dX1_undoLast_134 ⟨_, rfl, hk⟩
        · have hk := zOk_f c hk
          exact w_X1_undoLast_113 h M_16 x1_28 x2_38 x3_48 hk
  · have hk := zOk_f c hk
    refine zr_iconst (v := (zI (-1))) h dX1_undoLast_7 rfl ?_
    have hk := zOk_some hk
    exact zr_iret h dX1_undoLast_8 ⟨_, rfl, hk⟩
theorem dX4_told_0 : decode cX4_told 0 = .ok (.aload_n 0, 1) := by decide +kernel
theorem dX4_told_1 : decode cX4_told 1 = .ok (.getfield 18, 3) := by decide +kernel
theorem dX4_told_4 : decode cX4_told 4 = .ok (.ireturn, 1) := by decide +kernel
noncomputable def f_X4_told (M : ZMem) : Option Int32 := some (M.1 17 2)
set_option maxRecDepth 100000 in
set_option maxHeartbeats 4000000 in
theorem c_X4_told (E : ZEv) (M : ZMem) (K : Int32 → Prop) (hk : zOk (f_X4_told M) K) : zCon lyC E yX4_told cX4_told 1 (some .int) 0 [zrf E 17] M (zRp M K) := by
  refine zcon_of (L0 := [(0, zrf E 17)]) (by decide) rfl (Nat.le_of_ble_eq_true rfl) (fun G h => ?_)
  have h : zRu lyC E G (zRp M K) cX4_told RX4 1 (some .int) 0 := h
  unfold f_X4_told at hk
  refine zr_aload_n h dX4_told_0 0 rfl rfl ?_
  refine zr_getI h zfo_X4_18 lC_17 rfl dX4_told_1 ?_
  have hk := zOk_some hk
  exact zr_iret h dX4_told_4 ⟨rfl, _, rfl, hk⟩
theorem dX4_has_0 : decode cX4_has 0 = .ok (.iload_n 1, 1) := by decide +kernel
theorem dX4_has_1 : decode cX4_has 1 = .ok (.ifCond .lt 15, 3) := by decide +kernel
theorem dX4_has_4 : decode cX4_has 4 = .ok (.iload_n 1, 1) := by decide +kernel
theorem dX4_has_5 : decode cX4_has 5 = .ok (.aload_n 0, 1) := by decide +kernel
theorem dX4_has_6 : decode cX4_has 6 = .ok (.getfield 18, 3) := by decide +kernel
theorem dX4_has_9 : decode cX4_has 9 = .ok (.if_icmp .ge 7, 3) := by decide +kernel
theorem dX4_has_12 : decode cX4_has 12 = .ok (.iconst 1, 1) := by decide +kernel
theorem dX4_has_13 : decode cX4_has 13 = .ok (.goto 4, 3) := by decide +kernel
theorem dX4_has_16 : decode cX4_has 16 = .ok (.iconst 0, 1) := by decide +kernel
theorem dX4_has_17 : decode cX4_has 17 = .ok (.ireturn, 1) := by decide +kernel
noncomputable def f_X4_has (M : ZMem) (x1 : Int32) : Option Int32 := if x1 < (zI 0) then some (zI 0) else if (M.1 17 2) ≤ x1 then some (zI 0) else some (zI 1)
set_option maxRecDepth 100000 in
set_option maxHeartbeats 4000000 in
theorem c_X4_has (E : ZEv) (M : ZMem) (x1 : Int32) (K : Int32 → Prop) (hk : zOk (f_X4_has M x1) K) : zCon lyC E yX4_has cX4_has 2 (some .boolean) 0 [zrf E 17, .int x1] M (zRp M K) := by
  refine zcon_of (L0 := [(0, zrf E 17), (1, .int x1)]) (by decide) rfl (Nat.le_of_ble_eq_true rfl) (fun G h => ?_)
  have h : zRu lyC E G (zRp M K) cX4_has RX4 2 (some .boolean) 0 := h
  unfold f_X4_has at hk
  refine zr_iload_n h dX4_has_0 1 rfl rfl ?_
  refine zr_if_lt (tgt := 16) h dX4_has_1 (by decide) (fun c => ?_) (fun c => ?_)
  · have hk := zOk_t c hk
    refine zr_iconst (v := (zI 0)) h dX4_has_16 rfl ?_
    have hk := zOk_some hk
    exact zr_zret h dX4_has_17 (by decide) ⟨rfl, _, rfl, hk⟩
  · have hk := zOk_f c hk
    refine zr_iload_n h dX4_has_4 1 rfl rfl ?_
    refine zr_aload_n h dX4_has_5 0 rfl rfl ?_
    refine zr_getI h zfo_X4_18 lC_17 rfl dX4_has_6 ?_
    refine zr_icmp_ge (tgt := 16) h dX4_has_9 (by decide) (fun c => ?_) (fun c => ?_)
    · have hk := zOk_t c hk
      refine zr_iconst (v := (zI 0)) h dX4_has_16 rfl ?_
      have hk := zOk_some hk
      exact zr_zret h dX4_has_17 (by decide) ⟨rfl, _, rfl, hk⟩
    · have hk := zOk_f c hk
      refine zr_iconst (v := (zI 1)) h dX4_has_12 rfl ?_
      refine zr_goto (tgt := 17) h dX4_has_13 (by decide) ?_
      have hk := zOk_some hk
      exact zr_zret h dX4_has_17 (by decide) ⟨rfl, _, rfl, hk⟩
theorem dX4_lengthOf_0 : decode cX4_lengthOf 0 = .ok (.aload_n 0, 1) := by decide +kernel
theorem dX4_lengthOf_1 : decode cX4_lengthOf 1 = .ok (.iload_n 1, 1) := by decide +kernel
theorem dX4_lengthOf_2 : decode cX4_lengthOf 2 = .ok (.invokevirtual 52, 3) := by decide +kernel
theorem dX4_lengthOf_5 : decode cX4_lengthOf 5 = .ok (.ifCond .eq 12, 3) := by decide +kernel
theorem dX4_lengthOf_8 : decode cX4_lengthOf 8 = .ok (.aload_n 0, 1) := by decide +kernel
theorem dX4_lengthOf_9 : decode cX4_lengthOf 9 = .ok (.getfield 15, 3) := by decide +kernel
theorem dX4_lengthOf_12 : decode cX4_lengthOf 12 = .ok (.iload_n 1, 1) := by decide +kernel
theorem dX4_lengthOf_13 : decode cX4_lengthOf 13 = .ok (.iaload, 1) := by decide +kernel
theorem dX4_lengthOf_14 : decode cX4_lengthOf 14 = .ok (.goto 4, 3) := by decide +kernel
theorem dX4_lengthOf_17 : decode cX4_lengthOf 17 = .ok (.iconst 0, 1) := by decide +kernel
theorem dX4_lengthOf_18 : decode cX4_lengthOf 18 = .ok (.ireturn, 1) := by decide +kernel
noncomputable def f_X4_lengthOf (M : ZMem) (x1 : Int32) : Option Int32 := zbind (f_X4_has M x1) (fun r_2 => if r_2 = (zI 0) then some (zI 0) else zchk (zin x1 4) (some (M.1 19 (zix x1))))
set_option maxRecDepth 100000 in
set_option maxHeartbeats 4000000 in
theorem c_X4_lengthOf (E : ZEv) (M : ZMem) (x1 : Int32) (K : Int32 → Prop) (hk : zOk (f_X4_lengthOf M x1) K) : zCon lyC E yX4_lengthOf cX4_lengthOf 2 (some .int) 1 [zrf E 17, .int x1] M (zRp M K) := by
  refine zcon_of (L0 := [(0, zrf E 17), (1, .int x1)]) (by decide) rfl (Nat.le_of_ble_eq_true rfl) (fun G h => ?_)
  have h : zRu lyC E G (zRp M K) cX4_lengthOf RX4 2 (some .int) 1 := h
  unfold f_X4_lengthOf at hk
  refine zr_aload_n h dX4_lengthOf_0 0 rfl rfl ?_
  refine zr_iload_n h dX4_lengthOf_1 1 rfl rfl ?_
  refine zr_callVp h lC_17 zcw_X4_52 (by decide) (c_X4_has E M x1 _ (zOk_bind hk)) rfl rfl (Nat.le_of_ble_eq_true rfl) dX4_lengthOf_2 (fun r_2 hk => ?_)
  refine zr_if_eq (tgt := 17) h dX4_lengthOf_5 (by decide) (fun c => ?_) (fun c => ?_)
  · have hk := zOk_t c hk
    refine zr_iconst (v := (zI 0)) h dX4_lengthOf_17 rfl ?_
    have hk := zOk_some hk
    exact zr_iret h dX4_lengthOf_18 ⟨rfl, _, rfl, hk⟩
  · have hk := zOk_f c hk
    refine zr_aload_n h dX4_lengthOf_8 0 rfl rfl ?_
    refine zr_getR h zfo_X4_15 lC_17 rfl dX4_lengthOf_9 ?_
    refine zr_iload_n h dX4_lengthOf_12 1 rfl rfl ?_
    have hb := zOk_chk hk
    have hk := hb.2
    refine zr_iald h lC_19 hb.1 dX4_lengthOf_13 ?_
    refine zr_goto (tgt := 18) h dX4_lengthOf_14 (by decide) ?_
    have hk := zOk_some hk
    exact zr_iret h dX4_lengthOf_18 ⟨rfl, _, rfl, hk⟩
theorem dX4_syllableAt_0 : decode cX4_syllableAt 0 = .ok (.aload_n 0, 1) := by decide +kernel
theorem dX4_syllableAt_1 : decode cX4_syllableAt 1 = .ok (.iload_n 1, 1) := by decide +kernel
theorem dX4_syllableAt_2 : decode cX4_syllableAt 2 = .ok (.invokevirtual 52, 3) := by decide +kernel
theorem dX4_syllableAt_5 : decode cX4_syllableAt 5 = .ok (.ifCond .eq 31, 3) := by decide +kernel
theorem dX4_syllableAt_8 : decode cX4_syllableAt 8 = .ok (.iload_n 2, 1) := by decide +kernel
theorem dX4_syllableAt_9 : decode cX4_syllableAt 9 = .ok (.ifCond .lt 27, 3) := by decide +kernel
theorem dX4_syllableAt_12 : decode cX4_syllableAt 12 = .ok (.iload_n 2, 1) := by decide +kernel
theorem dX4_syllableAt_13 : decode cX4_syllableAt 13 = .ok (.aload_n 0, 1) := by decide +kernel
theorem dX4_syllableAt_14 : decode cX4_syllableAt 14 = .ok (.getfield 15, 3) := by decide +kernel
theorem dX4_syllableAt_17 : decode cX4_syllableAt 17 = .ok (.iload_n 1, 1) := by decide +kernel
theorem dX4_syllableAt_18 : decode cX4_syllableAt 18 = .ok (.iaload, 1) := by decide +kernel
theorem dX4_syllableAt_19 : decode cX4_syllableAt 19 = .ok (.if_icmp .ge 17, 3) := by decide +kernel
theorem dX4_syllableAt_22 : decode cX4_syllableAt 22 = .ok (.aload_n 0, 1) := by decide +kernel
theorem dX4_syllableAt_23 : decode cX4_syllableAt 23 = .ok (.getfield 9, 3) := by decide +kernel
theorem dX4_syllableAt_26 : decode cX4_syllableAt 26 = .ok (.iload_n 1, 1) := by decide +kernel
theorem dX4_syllableAt_27 : decode cX4_syllableAt 27 = .ok (.bipush 7, 2) := by decide +kernel
theorem dX4_syllableAt_29 : decode cX4_syllableAt 29 = .ok (.imul, 1) := by decide +kernel
theorem dX4_syllableAt_30 : decode cX4_syllableAt 30 = .ok (.iload_n 2, 1) := by decide +kernel
theorem dX4_syllableAt_31 : decode cX4_syllableAt 31 = .ok (.iadd, 1) := by decide +kernel
theorem dX4_syllableAt_32 : decode cX4_syllableAt 32 = .ok (.iaload, 1) := by decide +kernel
theorem dX4_syllableAt_33 : decode cX4_syllableAt 33 = .ok (.goto 4, 3) := by decide +kernel
theorem dX4_syllableAt_36 : decode cX4_syllableAt 36 = .ok (.iconst (-1), 1) := by decide +kernel
theorem dX4_syllableAt_37 : decode cX4_syllableAt 37 = .ok (.ireturn, 1) := by decide +kernel
noncomputable def f_X4_syllableAt (M : ZMem) (x1 : Int32) (x2 : Int32) : Option Int32 := zbind (f_X4_has M x1) (fun r_2 => if r_2 = (zI 0) then some (zI (-1)) else if x2 < (zI 0) then some (zI (-1)) else zchk (zin x1 4) (if (M.1 19 (zix x1)) ≤ x2 then some (zI (-1)) else zchk (zin ((x1 * (zI 7)) + x2) 28) (some (M.1 18 (zix ((x1 * (zI 7)) + x2))))))
set_option maxRecDepth 100000 in
set_option maxHeartbeats 4000000 in
theorem c_X4_syllableAt (E : ZEv) (M : ZMem) (x1 : Int32) (x2 : Int32) (K : Int32 → Prop) (hk : zOk (f_X4_syllableAt M x1 x2) K) : zCon lyC E yX4_syllableAt cX4_syllableAt 3 (some .int) 1 [zrf E 17, .int x1, .int x2] M (zRp M K) := by
  refine zcon_of (L0 := [(0, zrf E 17), (1, .int x1), (2, .int x2)]) (by decide) rfl (Nat.le_of_ble_eq_true rfl) (fun G h => ?_)
  have h : zRu lyC E G (zRp M K) cX4_syllableAt RX4 3 (some .int) 1 := h
  unfold f_X4_syllableAt at hk
  refine zr_aload_n h dX4_syllableAt_0 0 rfl rfl ?_
  refine zr_iload_n h dX4_syllableAt_1 1 rfl rfl ?_
  refine zr_callVp h lC_17 zcw_X4_52 (by decide) (c_X4_has E M x1 _ (zOk_bind hk)) rfl rfl (Nat.le_of_ble_eq_true rfl) dX4_syllableAt_2 (fun r_2 hk => ?_)
  refine zr_if_eq (tgt := 36) h dX4_syllableAt_5 (by decide) (fun c => ?_) (fun c => ?_)
  · have hk := zOk_t c hk
    refine zr_iconst (v := (zI (-1))) h dX4_syllableAt_36 rfl ?_
    have hk := zOk_some hk
    exact zr_iret h dX4_syllableAt_37 ⟨rfl, _, rfl, hk⟩
  · have hk := zOk_f c hk
    refine zr_iload_n h dX4_syllableAt_8 2 rfl rfl ?_
    refine zr_if_lt (tgt := 36) h dX4_syllableAt_9 (by decide) (fun c => ?_) (fun c => ?_)
    · have hk := zOk_t c hk
      refine zr_iconst (v := (zI (-1))) h dX4_syllableAt_36 rfl ?_
      have hk := zOk_some hk
      exact zr_iret h dX4_syllableAt_37 ⟨rfl, _, rfl, hk⟩
    · have hk := zOk_f c hk
      refine zr_iload_n h dX4_syllableAt_12 2 rfl rfl ?_
      refine zr_aload_n h dX4_syllableAt_13 0 rfl rfl ?_
      refine zr_getR h zfo_X4_15 lC_17 rfl dX4_syllableAt_14 ?_
      refine zr_iload_n h dX4_syllableAt_17 1 rfl rfl ?_
      have hb := zOk_chk hk
      have hk := hb.2
      refine zr_iald h lC_19 hb.1 dX4_syllableAt_18 ?_
      refine zr_icmp_ge (tgt := 36) h dX4_syllableAt_19 (by decide) (fun c => ?_) (fun c => ?_)
      · have hk := zOk_t c hk
        refine zr_iconst (v := (zI (-1))) h dX4_syllableAt_36 rfl ?_
        have hk := zOk_some hk
        exact zr_iret h dX4_syllableAt_37 ⟨rfl, _, rfl, hk⟩
      · have hk := zOk_f c hk
        refine zr_aload_n h dX4_syllableAt_22 0 rfl rfl ?_
        refine zr_getR h zfo_X4_9 lC_17 rfl dX4_syllableAt_23 ?_
        refine zr_iload_n h dX4_syllableAt_26 1 rfl rfl ?_
        refine zr_bipush (v := (zI 7)) h dX4_syllableAt_27 (by decide) ?_
        refine zr_imul h dX4_syllableAt_29 ?_
        refine zr_iload_n h dX4_syllableAt_30 2 rfl rfl ?_
        refine zr_iadd h dX4_syllableAt_31 ?_
        have hb := zOk_chk hk
        have hk := hb.2
        refine zr_iald h lC_18 hb.1 dX4_syllableAt_32 ?_
        refine zr_goto (tgt := 37) h dX4_syllableAt_33 (by decide) ?_
        have hk := zOk_some hk
        exact zr_iret h dX4_syllableAt_37 ⟨rfl, _, rfl, hk⟩
theorem dX4_isFull_0 : decode cX4_isFull 0 = .ok (.aload_n 0, 1) := by decide +kernel
theorem dX4_isFull_1 : decode cX4_isFull 1 = .ok (.getfield 18, 3) := by decide +kernel
theorem dX4_isFull_4 : decode cX4_isFull 4 = .ok (.iconst 4, 1) := by decide +kernel
theorem dX4_isFull_5 : decode cX4_isFull 5 = .ok (.if_icmp .lt 7, 3) := by decide +kernel
theorem dX4_isFull_8 : decode cX4_isFull 8 = .ok (.iconst 1, 1) := by decide +kernel
theorem dX4_isFull_9 : decode cX4_isFull 9 = .ok (.goto 4, 3) := by decide +kernel
theorem dX4_isFull_12 : decode cX4_isFull 12 = .ok (.iconst 0, 1) := by decide +kernel
theorem dX4_isFull_13 : decode cX4_isFull 13 = .ok (.ireturn, 1) := by decide +kernel
noncomputable def f_X4_isFull (M : ZMem) : Option Int32 := if (M.1 17 2) < (zI 4) then some (zI 0) else some (zI 1)
set_option maxRecDepth 100000 in
set_option maxHeartbeats 4000000 in
theorem c_X4_isFull (E : ZEv) (M : ZMem) (K : Int32 → Prop) (hk : zOk (f_X4_isFull M) K) : zCon lyC E yX4_isFull cX4_isFull 1 (some .boolean) 0 [zrf E 17] M (zRp M K) := by
  refine zcon_of (L0 := [(0, zrf E 17)]) (by decide) rfl (Nat.le_of_ble_eq_true rfl) (fun G h => ?_)
  have h : zRu lyC E G (zRp M K) cX4_isFull RX4 1 (some .boolean) 0 := h
  unfold f_X4_isFull at hk
  refine zr_aload_n h dX4_isFull_0 0 rfl rfl ?_
  refine zr_getI h zfo_X4_18 lC_17 rfl dX4_isFull_1 ?_
  refine zr_iconst (v := (zI 4)) h dX4_isFull_4 rfl ?_
  refine zr_icmp_lt (tgt := 12) h dX4_isFull_5 (by decide) (fun c => ?_) (fun c => ?_)
  · have hk := zOk_t c hk
    refine zr_iconst (v := (zI 0)) h dX4_isFull_12 rfl ?_
    have hk := zOk_some hk
    exact zr_zret h dX4_isFull_13 (by decide) ⟨rfl, _, rfl, hk⟩
  · have hk := zOk_f c hk
    refine zr_iconst (v := (zI 1)) h dX4_isFull_8 rfl ?_
    refine zr_goto (tgt := 13) h dX4_isFull_9 (by decide) ?_
    have hk := zOk_some hk
    exact zr_zret h dX4_isFull_13 (by decide) ⟨rfl, _, rfl, hk⟩
theorem dX4_same_0 : decode cX4_same 0 = .ok (.aload_n 0, 1) := by decide +kernel
theorem dX4_same_1 : decode cX4_same 1 = .ok (.getfield 15, 3) := by decide +kernel
theorem dX4_same_4 : decode cX4_same 4 = .ok (.iload_n 1, 1) := by decide +kernel
theorem dX4_same_5 : decode cX4_same 5 = .ok (.iaload, 1) := by decide +kernel
theorem dX4_same_6 : decode cX4_same 6 = .ok (.aload_n 0, 1) := by decide +kernel
theorem dX4_same_7 : decode cX4_same 7 = .ok (.getfield 15, 3) := by decide +kernel
theorem dX4_same_10 : decode cX4_same 10 = .ok (.iload_n 2, 1) := by decide +kernel
theorem dX4_same_11 : decode cX4_same 11 = .ok (.iaload, 1) := by decide +kernel
theorem dX4_same_12 : decode cX4_same 12 = .ok (.if_icmp .eq 5, 3) := by decide +kernel
theorem dX4_same_15 : decode cX4_same 15 = .ok (.iconst 0, 1) := by decide +kernel
theorem dX4_same_16 : decode cX4_same 16 = .ok (.ireturn, 1) := by decide +kernel
theorem dX4_same_17 : decode cX4_same 17 = .ok (.iconst 0, 1) := by decide +kernel
theorem dX4_same_18 : decode cX4_same 18 = .ok (.istore_n 3, 1) := by decide +kernel
theorem dX4_same_19 : decode cX4_same 19 = .ok (.iload_n 3, 1) := by decide +kernel
theorem dX4_same_20 : decode cX4_same 20 = .ok (.aload_n 0, 1) := by decide +kernel
theorem dX4_same_21 : decode cX4_same 21 = .ok (.getfield 15, 3) := by decide +kernel
theorem dX4_same_24 : decode cX4_same 24 = .ok (.iload_n 1, 1) := by decide +kernel
theorem dX4_same_25 : decode cX4_same 25 = .ok (.iaload, 1) := by decide +kernel
theorem dX4_same_26 : decode cX4_same 26 = .ok (.if_icmp .ge 36, 3) := by decide +kernel
theorem dX4_same_29 : decode cX4_same 29 = .ok (.aload_n 0, 1) := by decide +kernel
theorem dX4_same_30 : decode cX4_same 30 = .ok (.getfield 9, 3) := by decide +kernel
theorem dX4_same_33 : decode cX4_same 33 = .ok (.iload_n 1, 1) := by decide +kernel
theorem dX4_same_34 : decode cX4_same 34 = .ok (.bipush 7, 2) := by decide +kernel
theorem dX4_same_36 : decode cX4_same 36 = .ok (.imul, 1) := by decide +kernel
theorem dX4_same_37 : decode cX4_same 37 = .ok (.iload_n 3, 1) := by decide +kernel
theorem dX4_same_38 : decode cX4_same 38 = .ok (.iadd, 1) := by decide +kernel
theorem dX4_same_39 : decode cX4_same 39 = .ok (.iaload, 1) := by decide +kernel
theorem dX4_same_40 : decode cX4_same 40 = .ok (.aload_n 0, 1) := by decide +kernel
theorem dX4_same_41 : decode cX4_same 41 = .ok (.getfield 9, 3) := by decide +kernel
theorem dX4_same_44 : decode cX4_same 44 = .ok (.iload_n 2, 1) := by decide +kernel
theorem dX4_same_45 : decode cX4_same 45 = .ok (.bipush 7, 2) := by decide +kernel
theorem dX4_same_47 : decode cX4_same 47 = .ok (.imul, 1) := by decide +kernel
theorem dX4_same_48 : decode cX4_same 48 = .ok (.iload_n 3, 1) := by decide +kernel
theorem dX4_same_49 : decode cX4_same 49 = .ok (.iadd, 1) := by decide +kernel
theorem dX4_same_50 : decode cX4_same 50 = .ok (.iaload, 1) := by decide +kernel
theorem dX4_same_51 : decode cX4_same 51 = .ok (.if_icmp .eq 5, 3) := by decide +kernel
theorem dX4_same_54 : decode cX4_same 54 = .ok (.iconst 0, 1) := by decide +kernel
theorem dX4_same_55 : decode cX4_same 55 = .ok (.ireturn, 1) := by decide +kernel
theorem dX4_same_56 : decode cX4_same 56 = .ok (.iinc 3 1, 3) := by decide +kernel
theorem dX4_same_59 : decode cX4_same 59 = .ok (.goto (-40), 3) := by decide +kernel
theorem dX4_same_62 : decode cX4_same 62 = .ok (.iconst 1, 1) := by decide +kernel
theorem dX4_same_63 : decode cX4_same 63 = .ok (.ireturn, 1) := by decide +kernel
noncomputable def f_X4_same_L19 (M : ZMem) (x1 : Int32) (x2 : Int32) (s : (Int32)) : Option ((Int32) ⊕ ((Unit) ⊕ Int32)) := zchk (zin x1 4) (if (M.1 19 (zix x1)) ≤ s then some (.inr (.inl ())) else zchk (zin ((x1 * (zI 7)) + s) 28) (zchk (zin ((x2 * (zI 7)) + s) 28) (if (M.1 18 (zix ((x1 * (zI 7)) + s))) = (M.1 18 (zix ((x2 * (zI 7)) + s))) then zbnd (s + (zI 1)) (fun x3_56 => some (.inl x3_56)) else some (.inr (.inr (zI 0))))))
set_option maxRecDepth 100000 in
set_option maxHeartbeats 4000000 in
theorem w_X4_same_L19 {E : ZEv} {G : ZG} {K : Int32 → Prop} (M : ZMem) (h : zRu lyC E G (zRp M K) cX4_same RX4 4 (some .boolean) 0) (x1 : Int32) (x2 : Int32) (s : (Int32)) (hk : zOk (zloop (f_X4_same_L19 M x1 x2) s) (fun e => zsel e (fun e0 => G M 62 [] []) (fun f0 => K f0))) : G M 19 [(0, zrf E 17), (1, .int x1), (2, .int x2), (3, .int s)] [] := by
  refine zloop_walk (P := fun s => G M 19 [(0, zrf E 17), (1, .int x1), (2, .int x2), (3, .int s)] []) hk (fun s hk => ?_)
  unfold f_X4_same_L19 at hk
  refine zr_iload_n h dX4_same_19 3 rfl rfl ?_
  refine zr_aload_n h dX4_same_20 0 rfl rfl ?_
  refine zr_getR h zfo_X4_15 lC_17 rfl dX4_same_21 ?_
  refine zr_iload_n h dX4_same_24 1 rfl rfl ?_
  have hb := zOk_chk hk
  have hk := hb.2
  refine zr_iald h lC_19 hb.1 dX4_same_25 ?_
  refine zr_icmp_ge (tgt := 62) h dX4_same_26 (by decide) (fun c => ?_) (fun c => ?_)
  · have hk := zOk_t c hk
    have hk := zOk_some hk
    exact zr_weak h [] rfl hk
  · have hk := zOk_f c hk
    refine zr_aload_n h dX4_same_29 0 rfl rfl ?_
    refine zr_getR h zfo_X4_9 lC_17 rfl dX4_same_30 ?_
    refine zr_iload_n h dX4_same_33 1 rfl rfl ?_
    refine zr_bipush (v := (zI 7)) h dX4_same_34 (by decide) ?_
    refine zr_imul h dX4_same_36 ?_
    refine zr_iload_n h dX4_same_37 3 rfl rfl ?_
    refine zr_iadd h dX4_same_38 ?_
    have hb := zOk_chk hk
    have hk := hb.2
    refine zr_iald h lC_18 hb.1 dX4_same_39 ?_
    refine zr_aload_n h dX4_same_40 0 rfl rfl ?_
    refine zr_getR h zfo_X4_9 lC_17 rfl dX4_same_41 ?_
    refine zr_iload_n h dX4_same_44 2 rfl rfl ?_
    refine zr_bipush (v := (zI 7)) h dX4_same_45 (by decide) ?_
    refine zr_imul h dX4_same_47 ?_
    refine zr_iload_n h dX4_same_48 3 rfl rfl ?_
    refine zr_iadd h dX4_same_49 ?_
    have hb := zOk_chk hk
    have hk := hb.2
    refine zr_iald h lC_18 hb.1 dX4_same_50 ?_
    refine zr_icmp_eq (tgt := 56) h dX4_same_51 (by decide) (fun c => ?_) (fun c => ?_)
    · have hk := zOk_t c hk
      obtain ⟨x3_56, ex⟩ : ∃ y : Int32, y = s + (zI 1) := ⟨_, rfl⟩
      have hk := zOk_bnd ex hk
      refine zr_iinc (v := x3_56) (L' := [(0, zrf E 17), (1, .int x1), (2, .int x2), (3, .int x3_56)]) h 3 [1, 2, 3, 0] dX4_same_56 rfl (by rw [ex]; rfl) (by decide) rfl ?_
      refine zr_goto (tgt := 19) h dX4_same_59 (by decide) ?_
      have hk := zOk_some hk
      exact zr_weak h [0, 1, 2, 3] rfl hk
    · have hk := zOk_f c hk
      refine zr_iconst (v := (zI 0)) h dX4_same_54 rfl ?_
      have hk := zOk_some hk
      exact zr_zret h dX4_same_55 (by decide) ⟨rfl, _, rfl, hk⟩
noncomputable def f_X4_same (M : ZMem) (x1 : Int32) (x2 : Int32) : Option Int32 := zchk (zin x1 4) (zchk (zin x2 4) (if (M.1 19 (zix x1)) = (M.1 19 (zix x2)) then zbind (zloop (f_X4_same_L19 M x1 x2) (zI 0)) (fun e19 => zsel e19 (fun e19a => some (zI 1)) (fun e19b => some e19b)) else some (zI 0)))
set_option maxRecDepth 100000 in
set_option maxHeartbeats 4000000 in
theorem c_X4_same (E : ZEv) (M : ZMem) (x1 : Int32) (x2 : Int32) (K : Int32 → Prop) (hk : zOk (f_X4_same M x1 x2) K) : zCon lyC E yX4_same cX4_same 4 (some .boolean) 0 [zrf E 17, .int x1, .int x2] M (zRp M K) := by
  refine zcon_of (L0 := [(0, zrf E 17), (1, .int x1), (2, .int x2)]) (by decide) rfl (Nat.le_of_ble_eq_true rfl) (fun G h => ?_)
  have h : zRu lyC E G (zRp M K) cX4_same RX4 4 (some .boolean) 0 := h
  unfold f_X4_same at hk
  refine zr_aload_n h dX4_same_0 0 rfl rfl ?_
  refine zr_getR h zfo_X4_15 lC_17 rfl dX4_same_1 ?_
  refine zr_iload_n h dX4_same_4 1 rfl rfl ?_
  have hb := zOk_chk hk
  have hk := hb.2
  refine zr_iald h lC_19 hb.1 dX4_same_5 ?_
  refine zr_aload_n h dX4_same_6 0 rfl rfl ?_
  refine zr_getR h zfo_X4_15 lC_17 rfl dX4_same_7 ?_
  refine zr_iload_n h dX4_same_10 2 rfl rfl ?_
  have hb := zOk_chk hk
  have hk := hb.2
  refine zr_iald h lC_19 hb.1 dX4_same_11 ?_
  refine zr_icmp_eq (tgt := 17) h dX4_same_12 (by decide) (fun c => ?_) (fun c => ?_)
  · have hk := zOk_t c hk
    refine zr_iconst (v := (zI 0)) h dX4_same_17 rfl ?_
    refine zr_istore_n (L' := [(0, zrf E 17), (1, .int x1), (2, .int x2), (3, .int (zI 0))]) h [1, 2, 3, 0] dX4_same_18 rfl (by decide) rfl ?_
    refine w_X4_same_L19 M h x1 x2 (zI 0) (zOk_mono (zOk_bind hk) (fun e19 hk => ?_))
    cases e19 with
    | inl e19a =>
      have hk := zOk_selL hk
      refine zr_iconst (v := (zI 1)) h dX4_same_62 rfl ?_
      have hk := zOk_some hk
      exact zr_zret h dX4_same_63 (by decide) ⟨rfl, _, rfl, hk⟩
    | inr e19b =>
      have hk := zOk_selR hk
      have hk := zOk_some hk
      exact hk
  · have hk := zOk_f c hk
    refine zr_iconst (v := (zI 0)) h dX4_same_15 rfl ?_
    have hk := zOk_some hk
    exact zr_zret h dX4_same_16 (by decide) ⟨rfl, _, rfl, hk⟩
theorem dX4_keep_0 : decode cX4_keep 0 = .ok (.aload_n 0, 1) := by decide +kernel
theorem dX4_keep_1 : decode cX4_keep 1 = .ok (.getfield 18, 3) := by decide +kernel
theorem dX4_keep_4 : decode cX4_keep 4 = .ok (.iconst 4, 1) := by decide +kernel
theorem dX4_keep_5 : decode cX4_keep 5 = .ok (.if_icmp .lt 5, 3) := by decide +kernel
theorem dX4_keep_8 : decode cX4_keep 8 = .ok (.iconst (-1), 1) := by decide +kernel
theorem dX4_keep_9 : decode cX4_keep 9 = .ok (.ireturn, 1) := by decide +kernel
theorem dX4_keep_10 : decode cX4_keep 10 = .ok (.aload_n 0, 1) := by decide +kernel
theorem dX4_keep_11 : decode cX4_keep 11 = .ok (.getfield 15, 3) := by decide +kernel
theorem dX4_keep_14 : decode cX4_keep 14 = .ok (.aload_n 0, 1) := by decide +kernel
theorem dX4_keep_15 : decode cX4_keep 15 = .ok (.getfield 18, 3) := by decide +kernel
theorem dX4_keep_18 : decode cX4_keep 18 = .ok (.iload_n 1, 1) := by decide +kernel
theorem dX4_keep_19 : decode cX4_keep 19 = .ok (.iastore, 1) := by decide +kernel
theorem dX4_keep_20 : decode cX4_keep 20 = .ok (.iconst 0, 1) := by decide +kernel
theorem dX4_keep_21 : decode cX4_keep 21 = .ok (.istore_n 2, 1) := by decide +kernel
theorem dX4_keep_22 : decode cX4_keep 22 = .ok (.iload_n 2, 1) := by decide +kernel
theorem dX4_keep_23 : decode cX4_keep 23 = .ok (.aload_n 0, 1) := by decide +kernel
theorem dX4_keep_24 : decode cX4_keep 24 = .ok (.getfield 18, 3) := by decide +kernel
theorem dX4_keep_27 : decode cX4_keep 27 = .ok (.if_icmp .ge 27, 3) := by decide +kernel
theorem dX4_keep_30 : decode cX4_keep 30 = .ok (.aload_n 0, 1) := by decide +kernel
theorem dX4_keep_31 : decode cX4_keep 31 = .ok (.iload_n 2, 1) := by decide +kernel
theorem dX4_keep_32 : decode cX4_keep 32 = .ok (.aload_n 0, 1) := by decide +kernel
theorem dX4_keep_33 : decode cX4_keep 33 = .ok (.getfield 18, 3) := by decide +kernel
theorem dX4_keep_36 : decode cX4_keep 36 = .ok (.invokevirtual 48, 3) := by decide +kernel
theorem dX4_keep_39 : decode cX4_keep 39 = .ok (.ifCond .eq 9, 3) := by decide +kernel
theorem dX4_keep_42 : decode cX4_keep 42 = .ok (.iconst 0, 1) := by decide +kernel
theorem dX4_keep_43 : decode cX4_keep 43 = .ok (.iconst 3, 1) := by decide +kernel
theorem dX4_keep_44 : decode cX4_keep 44 = .ok (.invokestatic 37, 3) := by decide +kernel
theorem dX4_keep_47 : decode cX4_keep 47 = .ok (.ireturn, 1) := by decide +kernel
theorem dX4_keep_48 : decode cX4_keep 48 = .ok (.iinc 2 1, 3) := by decide +kernel
theorem dX4_keep_51 : decode cX4_keep 51 = .ok (.goto (-29), 3) := by decide +kernel
theorem dX4_keep_54 : decode cX4_keep 54 = .ok (.aload_n 0, 1) := by decide +kernel
theorem dX4_keep_55 : decode cX4_keep 55 = .ok (.dup, 1) := by decide +kernel
theorem dX4_keep_56 : decode cX4_keep 56 = .ok (.getfield 18, 3) := by decide +kernel
theorem dX4_keep_59 : decode cX4_keep 59 = .ok (.iconst 1, 1) := by decide +kernel
theorem dX4_keep_60 : decode cX4_keep 60 = .ok (.iadd, 1) := by decide +kernel
theorem dX4_keep_61 : decode cX4_keep 61 = .ok (.putfield 18, 3) := by decide +kernel
theorem dX4_keep_64 : decode cX4_keep 64 = .ok (.aload_n 0, 1) := by decide +kernel
theorem dX4_keep_65 : decode cX4_keep 65 = .ok (.getfield 18, 3) := by decide +kernel
theorem dX4_keep_68 : decode cX4_keep 68 = .ok (.iconst 1, 1) := by decide +kernel
theorem dX4_keep_69 : decode cX4_keep 69 = .ok (.isub, 1) := by decide +kernel
theorem dX4_keep_70 : decode cX4_keep 70 = .ok (.ireturn, 1) := by decide +kernel
noncomputable def f_X4_keep_L22 (M : ZMem) (s : (Int32)) : Option ((Int32) ⊕ ((Unit) ⊕ (ZMem × Int32))) := if (M.1 17 2) ≤ s then some (.inr (.inl ())) else zbind (f_X4_same M s (M.1 17 2)) (fun r_36 => if r_36 = (zI 0) then zbnd (s + (zI 1)) (fun x2_48 => some (.inl x2_48)) else zbind (f_X11_faultAt M (zI 0) (zI 3)) (fun r_44 => some (.inr (.inr (M, r_44)))))
set_option maxRecDepth 100000 in
set_option maxHeartbeats 4000000 in
theorem w_X4_keep_L22 {E : ZEv} {G : ZG} {K : (ZMem × Int32) → Prop} (h : zRu lyC E G (zRm K) cX4_keep RX4 3 (some .int) 1) (M : ZMem) (s : (Int32)) (hk : zOk (zloop (f_X4_keep_L22 M) s) (fun e => zsel e (fun e0 => G M 54 [(0, zrf E 17)] []) (fun f0 => K f0))) : G M 22 [(0, zrf E 17), (2, .int s)] [] := by
  refine zloop_walk (P := fun s => G M 22 [(0, zrf E 17), (2, .int s)] []) hk (fun s hk => ?_)
  unfold f_X4_keep_L22 at hk
  refine zr_iload_n h dX4_keep_22 1 rfl rfl ?_
  refine zr_aload_n h dX4_keep_23 0 rfl rfl ?_
  refine zr_getI h zfo_X4_18 lC_17 rfl dX4_keep_24 ?_
  refine zr_icmp_ge (tgt := 54) h dX4_keep_27 (by decide) (fun c => ?_) (fun c => ?_)
  · have hk := zOk_t c hk
    have hk := zOk_some hk
    exact zr_weak h [0] rfl hk
  · have hk := zOk_f c hk
    refine zr_aload_n h dX4_keep_30 0 rfl rfl ?_
    refine zr_iload_n h dX4_keep_31 1 rfl rfl ?_
    refine zr_aload_n h dX4_keep_32 0 rfl rfl ?_
    refine zr_getI h zfo_X4_18 lC_17 rfl dX4_keep_33 ?_
    refine zr_callVp h lC_17 zcw_X4_48 (by decide) (c_X4_same E M s (M.1 17 2) _ (zOk_bind hk)) rfl rfl (Nat.le_of_ble_eq_true rfl) dX4_keep_36 (fun r_36 hk => ?_)
    refine zr_if_eq (tgt := 48) h dX4_keep_39 (by decide) (fun c => ?_) (fun c => ?_)
    · have hk := zOk_t c hk
      obtain ⟨x2_48, ex⟩ : ∃ y : Int32, y = s + (zI 1) := ⟨_, rfl⟩
      have hk := zOk_bnd ex hk
      refine zr_iinc (v := x2_48) (L' := [(0, zrf E 17), (2, .int x2_48)]) h 1 [1, 0] dX4_keep_48 rfl (by rw [ex]; rfl) (by decide) rfl ?_
      refine zr_goto (tgt := 22) h dX4_keep_51 (by decide) ?_
      have hk := zOk_some hk
      exact zr_weak h [0, 1] rfl hk
    · have hk := zOk_f c hk
      refine zr_iconst (v := (zI 0)) h dX4_keep_42 rfl ?_
      refine zr_iconst (v := (zI 3)) h dX4_keep_43 rfl ?_
      refine zr_callNp h zcw_X4_37 (by decide) (c_X11_faultAt E M (zI 0) (zI 3) _ (zOk_bind hk)) rfl rfl (Nat.le_of_ble_eq_true rfl) dX4_keep_44 (fun r_44 hk => ?_)
      have hk := zOk_some hk
      exact zr_iret h dX4_keep_47 ⟨_, rfl, hk⟩
noncomputable def f_X4_keep (M : ZMem) (x1 : Int32) : Option (ZMem × Int32) := if (M.1 17 2) < (zI 4) then zchk (zin (M.1 17 2) 4) (zbnd (zstI M 19 (zix (M.1 17 2)) x1) (fun M_19 => zbind (zloop (f_X4_keep_L22 M_19) (zI 0)) (fun e22 => zsel e22 (fun e22a => zbnd (zstI M_19 17 2 ((M_19.1 17 2) + (zI 1))) (fun M_61 => some (M_61, ((M_61.1 17 2) - (zI 1))))) (fun e22b => some e22b)))) else some (M, (zI (-1)))
set_option maxRecDepth 100000 in
set_option maxHeartbeats 4000000 in
theorem c_X4_keep (E : ZEv) (M : ZMem) (x1 : Int32) (K : ZMem × Int32 → Prop) (hk : zOk (f_X4_keep M x1) K) : zCon lyC E yX4_keep cX4_keep 3 (some .int) 1 [zrf E 17, .int x1] M (zRm K) := by
  refine zcon_of (L0 := [(0, zrf E 17), (1, .int x1)]) (by decide) rfl (Nat.le_of_ble_eq_true rfl) (fun G h => ?_)
  have h : zRu lyC E G (zRm K) cX4_keep RX4 3 (some .int) 1 := h
  unfold f_X4_keep at hk
  refine zr_aload_n h dX4_keep_0 0 rfl rfl ?_
  refine zr_getI h zfo_X4_18 lC_17 rfl dX4_keep_1 ?_
  refine zr_iconst (v := (zI 4)) h dX4_keep_4 rfl ?_
  refine zr_icmp_lt (tgt := 10) h dX4_keep_5 (by decide) (fun c => ?_) (fun c => ?_)
  · have hk := zOk_t c hk
    refine zr_aload_n h dX4_keep_10 0 rfl rfl ?_
    refine zr_getR h zfo_X4_15 lC_17 rfl dX4_keep_11 ?_
    refine zr_aload_n h dX4_keep_14 0 rfl rfl ?_
    refine zr_getI h zfo_X4_18 lC_17 rfl dX4_keep_15 ?_
    refine zr_iload_n h dX4_keep_18 1 rfl rfl ?_
    have hb := zOk_chk hk
    have hk := hb.2
    refine zr_iast h lC_19 hb.1 dX4_keep_19 ?_
    refine zr_mem (fun M_19 eM => ?_)
    have hk := zOk_bnd eM hk
    refine zr_iconst (v := (zI 0)) h dX4_keep_20 rfl ?_
    refine zr_istore_n (L' := [(0, zrf E 17), (2, .int (zI 0))]) h [1, 0] dX4_keep_21 rfl (by decide) rfl ?_
    refine w_X4_keep_L22 h M_19 (zI 0) (zOk_mono (zOk_bind hk) (fun e22 hk => ?_))
    cases e22 with
    | inl e22a =>
      have hk := zOk_selL hk
      refine zr_aload_n h dX4_keep_54 0 rfl rfl ?_
      refine zr_dup h dX4_keep_55 rfl ?_
      refine zr_getI h zfo_X4_18 lC_17 rfl dX4_keep_56 ?_
      refine zr_iconst (v := (zI 1)) h dX4_keep_59 rfl ?_
      refine zr_iadd h dX4_keep_60 ?_
      refine zr_putI h zfp_X4_18 lC_17 rfl dX4_keep_61 ?_
      refine zr_mem (fun M_61 eM => ?_)
      have hk := zOk_bnd eM hk
      refine zr_aload_n h dX4_keep_64 0 rfl rfl ?_
      refine zr_getI h zfo_X4_18 lC_17 rfl dX4_keep_65 ?_
      refine zr_iconst (v := (zI 1)) h dX4_keep_68 rfl ?_
      refine zr_isub h dX4_keep_69 ?_
      have hk := zOk_some hk
      exact zr_iret h dX4_keep_70 ⟨_, rfl, hk⟩
    | inr e22b =>
      have hk := zOk_selR hk
      have hk := zOk_some hk
      exact hk
  · have hk := zOk_f c hk
    refine zr_iconst (v := (zI (-1))) h dX4_keep_8 rfl ?_
    have hk := zOk_some hk
    exact zr_iret h dX4_keep_9 ⟨_, rfl, hk⟩
theorem dX4_kindOf_0 : decode cX4_kindOf 0 = .ok (.iload_n 0, 1) := by decide +kernel
theorem dX4_kindOf_1 : decode cX4_kindOf 1 = .ok (.iconst (-1), 1) := by decide +kernel
theorem dX4_kindOf_2 : decode cX4_kindOf 2 = .ok (.if_icmp .ne 7, 3) := by decide +kernel
theorem dX4_kindOf_5 : decode cX4_kindOf 5 = .ok (.iconst (-1), 1) := by decide +kernel
theorem dX4_kindOf_6 : decode cX4_kindOf 6 = .ok (.goto 9, 3) := by decide +kernel
theorem dX4_kindOf_9 : decode cX4_kindOf 9 = .ok (.aload_n 1, 1) := by decide +kernel
theorem dX4_kindOf_10 : decode cX4_kindOf 10 = .ok (.iload_n 0, 1) := by decide +kernel
theorem dX4_kindOf_11 : decode cX4_kindOf 11 = .ok (.i2c, 1) := by decide +kernel
theorem dX4_kindOf_12 : decode cX4_kindOf 12 = .ok (.invokevirtual 43, 3) := by decide +kernel
theorem dX4_kindOf_15 : decode cX4_kindOf 15 = .ok (.ireturn, 1) := by decide +kernel
noncomputable def f_X4_kindOf (w : Nat) (M : ZMem) (x0 : Int32) : Option Int32 := if x0 = (zI (-1)) then some (zI (-1)) else zbind (f_J0_indexOf_0f7a4 w M (((x0 : Int32).toUInt32 % 65536).toInt32)) (fun r_12 => some r_12)
set_option maxRecDepth 100000 in
set_option maxHeartbeats 4000000 in
theorem c_X4_kindOf {ly : List ZEnt} (E : ZEv) (w : Nat) (hw : w < 2) (M : ZMem) (x0 : Int32) (K : Int32 → Prop) (hk : zOk (f_X4_kindOf w M x0) K) : zCon ly E yX4_kindOf cX4_kindOf 2 (some .int) 4 [.int x0, zrf E (1000 + w)] M (zRp M K) := by
  refine zcon_of (L0 := [(0, .int x0), (1, zrf E (1000 + w))]) (by decide) rfl (Nat.le_of_ble_eq_true rfl) (fun G h => ?_)
  have h : zRu ly E G (zRp M K) cX4_kindOf RX4 2 (some .int) 4 := h
  unfold f_X4_kindOf at hk
  refine zr_iload_n h dX4_kindOf_0 0 rfl rfl ?_
  refine zr_iconst (v := (zI (-1))) h dX4_kindOf_1 rfl ?_
  refine zr_icmp_ne (tgt := 9) h dX4_kindOf_2 (by decide) (fun c => ?_) (fun c => ?_)
  · have hk := zOk_t c hk
    refine zr_iconst (v := (zI (-1))) h dX4_kindOf_5 rfl ?_
    refine zr_goto (tgt := 15) h dX4_kindOf_6 (by decide) ?_
    have hk := zOk_some hk
    exact zr_iret h dX4_kindOf_15 ⟨rfl, _, rfl, hk⟩
  · have hk := zOk_f c hk
    refine zr_aload_n h dX4_kindOf_9 1 rfl rfl ?_
    refine zr_iload_n h dX4_kindOf_10 0 rfl rfl ?_
    refine zr_i2c h dX4_kindOf_11 ?_
    refine zr_callT (w := w) h hw (List.forall_mem_cons.mpr ⟨(zm_20 _ (List.mem_of_getElem? (i := 5) rfl)), (List.forall_mem_cons.mpr ⟨(zm_20 _ (List.mem_of_getElem? (i := 6) rfl)), (List.forall_mem_cons.mpr ⟨(zm_20 _ (List.mem_of_getElem? (i := 7) rfl)), (List.forall_mem_cons.mpr ⟨(zm_20 _ (List.mem_of_getElem? (i := 8) rfl)), (List.forall_mem_cons.mpr ⟨(zm_20 _ (List.mem_of_getElem? (i := 9) rfl)), (fun _ h => absurd h List.not_mem_nil)⟩)⟩)⟩)⟩)⟩) ⟨rfl, by decide, by decide, (by decide +kernel : (parseMethodDescriptor yJ0_indexOf_0f7a4.desc).map (fun d => d.parameters.length) = some 1)⟩ (by decide) (by decide) (c_J0_indexOf_0f7a4 E w hw M (((x0 : Int32).toUInt32 % 65536).toInt32) _ (zOk_bind hk)) rfl rfl (Nat.le_of_ble_eq_true rfl) dX4_kindOf_12 (fun r_12 hk => ?_)
    have hk := zOk_some hk
    exact zr_iret h dX4_kindOf_15 ⟨rfl, _, rfl, hk⟩
theorem dX4_takeFrom_0 : decode cX4_takeFrom 0 = .ok (.iconst 0, 1) := by decide +kernel
theorem dX4_takeFrom_1 : decode cX4_takeFrom 1 = .ok (.istore_n 2, 1) := by decide +kernel
theorem dX4_takeFrom_2 : decode cX4_takeFrom 2 = .ok (.iload_n 2, 1) := by decide +kernel
theorem dX4_takeFrom_3 : decode cX4_takeFrom 3 = .ok (.bipush 7, 2) := by decide +kernel
theorem dX4_takeFrom_5 : decode cX4_takeFrom 5 = .ok (.if_icmp .gt 126, 3) := by decide +kernel
theorem dX4_takeFrom_8 : decode cX4_takeFrom 8 = .ok (.aload_n 0, 1) := by decide +kernel
theorem dX4_takeFrom_9 : decode cX4_takeFrom 9 = .ok (.getfield 18, 3) := by decide +kernel
theorem dX4_takeFrom_12 : decode cX4_takeFrom 12 = .ok (.iconst 4, 1) := by decide +kernel
theorem dX4_takeFrom_13 : decode cX4_takeFrom 13 = .ok (.if_icmp .ge 118, 3) := by decide +kernel
theorem dX4_takeFrom_16 : decode cX4_takeFrom 16 = .ok (.iconst 2, 1) := by decide +kernel
theorem dX4_takeFrom_17 : decode cX4_takeFrom 17 = .ok (.iload_n 2, 1) := by decide +kernel
theorem dX4_takeFrom_18 : decode cX4_takeFrom 18 = .ok (.imul, 1) := by decide +kernel
theorem dX4_takeFrom_19 : decode cX4_takeFrom 19 = .ok (.istore_n 3, 1) := by decide +kernel
theorem dX4_takeFrom_20 : decode cX4_takeFrom 20 = .ok (.iload_n 2, 1) := by decide +kernel
theorem dX4_takeFrom_21 : decode cX4_takeFrom 21 = .ok (.iconst 2, 1) := by decide +kernel
theorem dX4_takeFrom_22 : decode cX4_takeFrom 22 = .ok (.if_icmp .lt 18, 3) := by decide +kernel
theorem dX4_takeFrom_25 : decode cX4_takeFrom 25 = .ok (.aload_n 1, 1) := by decide +kernel
theorem dX4_takeFrom_26 : decode cX4_takeFrom 26 = .ok (.iload_n 3, 1) := by decide +kernel
theorem dX4_takeFrom_27 : decode cX4_takeFrom 27 = .ok (.invokevirtual 22, 3) := by decide +kernel
theorem dX4_takeFrom_30 : decode cX4_takeFrom 30 = .ok (.iconst (-1), 1) := by decide +kernel
theorem dX4_takeFrom_31 : decode cX4_takeFrom 31 = .ok (.if_icmp .ne 9, 3) := by decide +kernel
theorem dX4_takeFrom_34 : decode cX4_takeFrom 34 = .ok (.aload_n 0, 1) := by decide +kernel
theorem dX4_takeFrom_35 : decode cX4_takeFrom 35 = .ok (.iload_n 2, 1) := by decide +kernel
theorem dX4_takeFrom_36 : decode cX4_takeFrom 36 = .ok (.invokevirtual 28, 3) := by decide +kernel
theorem dX4_takeFrom_39 : decode cX4_takeFrom 39 = .ok (.ireturn, 1) := by decide +kernel
theorem dX4_takeFrom_40 : decode cX4_takeFrom 40 = .ok (.aload_n 1, 1) := by decide +kernel
theorem dX4_takeFrom_41 : decode cX4_takeFrom 41 = .ok (.iload_n 3, 1) := by decide +kernel
theorem dX4_takeFrom_42 : decode cX4_takeFrom 42 = .ok (.invokevirtual 22, 3) := by decide +kernel
theorem dX4_takeFrom_45 : decode cX4_takeFrom 45 = .ok (.ldc 31, 2) := by decide +kernel
theorem dX4_takeFrom_47 : decode cX4_takeFrom 47 = .ok (.invokestatic 33, 3) := by decide +kernel
theorem dX4_takeFrom_50 : decode cX4_takeFrom 50 = .ok (.istore 4, 2) := by decide +kernel
theorem dX4_takeFrom_52 : decode cX4_takeFrom 52 = .ok (.iload 4, 2) := by decide +kernel
theorem dX4_takeFrom_54 : decode cX4_takeFrom 54 = .ok (.iconst (-1), 1) := by decide +kernel
theorem dX4_takeFrom_55 : decode cX4_takeFrom 55 = .ok (.if_icmp .ne 9, 3) := by decide +kernel
theorem dX4_takeFrom_58 : decode cX4_takeFrom 58 = .ok (.iload_n 3, 1) := by decide +kernel
theorem dX4_takeFrom_59 : decode cX4_takeFrom 59 = .ok (.iconst 1, 1) := by decide +kernel
theorem dX4_takeFrom_60 : decode cX4_takeFrom 60 = .ok (.invokestatic 37, 3) := by decide +kernel
theorem dX4_takeFrom_63 : decode cX4_takeFrom 63 = .ok (.ireturn, 1) := by decide +kernel
theorem dX4_takeFrom_64 : decode cX4_takeFrom 64 = .ok (.iload_n 2, 1) := by decide +kernel
theorem dX4_takeFrom_65 : decode cX4_takeFrom 65 = .ok (.bipush 7, 2) := by decide +kernel
theorem dX4_takeFrom_67 : decode cX4_takeFrom 67 = .ok (.if_icmp .ne 9, 3) := by decide +kernel
theorem dX4_takeFrom_70 : decode cX4_takeFrom 70 = .ok (.iload_n 3, 1) := by decide +kernel
theorem dX4_takeFrom_71 : decode cX4_takeFrom 71 = .ok (.iconst 2, 1) := by decide +kernel
theorem dX4_takeFrom_72 : decode cX4_takeFrom 72 = .ok (.invokestatic 37, 3) := by decide +kernel
theorem dX4_takeFrom_75 : decode cX4_takeFrom 75 = .ok (.ireturn, 1) := by decide +kernel
theorem dX4_takeFrom_76 : decode cX4_takeFrom 76 = .ok (.aload_n 1, 1) := by decide +kernel
theorem dX4_takeFrom_77 : decode cX4_takeFrom 77 = .ok (.iload_n 3, 1) := by decide +kernel
theorem dX4_takeFrom_78 : decode cX4_takeFrom 78 = .ok (.iconst 1, 1) := by decide +kernel
theorem dX4_takeFrom_79 : decode cX4_takeFrom 79 = .ok (.iadd, 1) := by decide +kernel
theorem dX4_takeFrom_80 : decode cX4_takeFrom 80 = .ok (.invokevirtual 22, 3) := by decide +kernel
theorem dX4_takeFrom_83 : decode cX4_takeFrom 83 = .ok (.ldc 41, 2) := by decide +kernel
theorem dX4_takeFrom_85 : decode cX4_takeFrom 85 = .ok (.invokestatic 33, 3) := by decide +kernel
theorem dX4_takeFrom_88 : decode cX4_takeFrom 88 = .ok (.istore 5, 2) := by decide +kernel
theorem dX4_takeFrom_90 : decode cX4_takeFrom 90 = .ok (.iload 5, 2) := by decide +kernel
theorem dX4_takeFrom_92 : decode cX4_takeFrom 92 = .ok (.iconst (-1), 1) := by decide +kernel
theorem dX4_takeFrom_93 : decode cX4_takeFrom 93 = .ok (.if_icmp .ne 11, 3) := by decide +kernel
theorem dX4_takeFrom_96 : decode cX4_takeFrom 96 = .ok (.iload_n 3, 1) := by decide +kernel
theorem dX4_takeFrom_97 : decode cX4_takeFrom 97 = .ok (.iconst 1, 1) := by decide +kernel
theorem dX4_takeFrom_98 : decode cX4_takeFrom 98 = .ok (.iadd, 1) := by decide +kernel
theorem dX4_takeFrom_99 : decode cX4_takeFrom 99 = .ok (.iconst 1, 1) := by decide +kernel
theorem dX4_takeFrom_100 : decode cX4_takeFrom 100 = .ok (.invokestatic 37, 3) := by decide +kernel
theorem dX4_takeFrom_103 : decode cX4_takeFrom 103 = .ok (.ireturn, 1) := by decide +kernel
theorem dX4_takeFrom_104 : decode cX4_takeFrom 104 = .ok (.aload_n 0, 1) := by decide +kernel
theorem dX4_takeFrom_105 : decode cX4_takeFrom 105 = .ok (.getfield 9, 3) := by decide +kernel
theorem dX4_takeFrom_108 : decode cX4_takeFrom 108 = .ok (.aload_n 0, 1) := by decide +kernel
theorem dX4_takeFrom_109 : decode cX4_takeFrom 109 = .ok (.getfield 18, 3) := by decide +kernel
theorem dX4_takeFrom_112 : decode cX4_takeFrom 112 = .ok (.bipush 7, 2) := by decide +kernel
theorem dX4_takeFrom_114 : decode cX4_takeFrom 114 = .ok (.imul, 1) := by decide +kernel
theorem dX4_takeFrom_115 : decode cX4_takeFrom 115 = .ok (.iload_n 2, 1) := by decide +kernel
theorem dX4_takeFrom_116 : decode cX4_takeFrom 116 = .ok (.iadd, 1) := by decide +kernel
theorem dX4_takeFrom_117 : decode cX4_takeFrom 117 = .ok (.iload 4, 2) := by decide +kernel
theorem dX4_takeFrom_119 : decode cX4_takeFrom 119 = .ok (.iconst 5, 1) := by decide +kernel
theorem dX4_takeFrom_120 : decode cX4_takeFrom 120 = .ok (.imul, 1) := by decide +kernel
theorem dX4_takeFrom_121 : decode cX4_takeFrom 121 = .ok (.iload 5, 2) := by decide +kernel
theorem dX4_takeFrom_123 : decode cX4_takeFrom 123 = .ok (.iadd, 1) := by decide +kernel
theorem dX4_takeFrom_124 : decode cX4_takeFrom 124 = .ok (.iastore, 1) := by decide +kernel
theorem dX4_takeFrom_125 : decode cX4_takeFrom 125 = .ok (.iinc 2 1, 3) := by decide +kernel
theorem dX4_takeFrom_128 : decode cX4_takeFrom 128 = .ok (.goto (-126), 3) := by decide +kernel
theorem dX4_takeFrom_131 : decode cX4_takeFrom 131 = .ok (.iconst (-1), 1) := by decide +kernel
theorem dX4_takeFrom_132 : decode cX4_takeFrom 132 = .ok (.ireturn, 1) := by decide +kernel
noncomputable def f_X4_takeFrom_40_L2 (M : ZMem) (x2 : Int32) (x3 : Int32) : Option ((ZMem × Int32) ⊕ ((ZMem) ⊕ (ZMem × Int32))) := zbind (f_X8_byteAt M x3) (fun r_42 => zbind (f_X4_kindOf 0 M r_42) (fun r_47 => if r_47 = (zI (-1)) then zbind (f_X11_faultAt M x3 (zI 1)) (fun r_60 => some (.inr (.inr (M, r_60)))) else if x2 = (zI 7) then zbind (f_X11_faultAt M x3 (zI 2)) (fun r_72 => some (.inr (.inr (M, r_72)))) else zbind (f_X8_byteAt M (x3 + (zI 1))) (fun r_80 => zbind (f_X4_kindOf 1 M r_80) (fun r_85 => if r_85 = (zI (-1)) then zbind (f_X11_faultAt M (x3 + (zI 1)) (zI 1)) (fun r_100 => some (.inr (.inr (M, r_100)))) else zchk (zin (((M.1 17 2) * (zI 7)) + x2) 28) (zbnd (zstI M 18 (zix (((M.1 17 2) * (zI 7)) + x2)) ((r_47 * (zI 5)) + r_85)) (fun M_124 => zbnd (x2 + (zI 1)) (fun x2_125 => some (.inl (M_124, x2_125)))))))))
set_option maxRecDepth 100000 in
set_option maxHeartbeats 4000000 in
theorem w_X4_takeFrom_40_L2 {E : ZEv} {G : ZG} {K : (ZMem × Int32) → Prop} (h : zRu lyC E G (zRm K) cX4_takeFrom RX4 6 (some .int) 5) (M : ZMem) (x2 : Int32) (x3 : Int32) (hk : zOk (f_X4_takeFrom_40_L2 M x2 x3) (zlp (fun s => G s.1 2 [(0, zrf E 17), (1, zrf E 1), (2, .int s.2)] []) (fun e => zsel e (fun e0 => G e0 131 [] []) (fun f0 => K f0)))) : G M 40 [(0, zrf E 17), (1, zrf E 1), (2, .int x2), (3, .int x3)] [] := by
  unfold f_X4_takeFrom_40_L2 at hk
  refine zr_aload_n h dX4_takeFrom_40 1 rfl rfl ?_
  refine zr_iload_n h dX4_takeFrom_41 3 rfl rfl ?_
  refine zr_callVp h lC_1 zcw_X4_22 (by decide) (c_X8_byteAt E M x3 _ (zOk_bind hk)) rfl rfl (Nat.le_of_ble_eq_true rfl) dX4_takeFrom_42 (fun r_42 hk => ?_)
  refine zr_ldcS_RX4_31 h dX4_takeFrom_45 ?_
  refine zr_callSp h zcw_X4_33 (by decide) (c_X4_kindOf E 0 (by decide) M r_42 _ (zOk_bind hk)) rfl rfl (Nat.le_of_ble_eq_true rfl) dX4_takeFrom_47 (fun r_47 hk => ?_)
  refine zr_istore (L' := [(0, zrf E 17), (1, zrf E 1), (2, .int x2), (3, .int x3), (4, .int r_47)]) h [1, 2, 3, 4, 0] dX4_takeFrom_50 (by decide) rfl ?_
  refine zr_iload h dX4_takeFrom_52 4 rfl ?_
  refine zr_iconst (v := (zI (-1))) h dX4_takeFrom_54 rfl ?_
  refine zr_icmp_ne (tgt := 64) h dX4_takeFrom_55 (by decide) (fun c => ?_) (fun c => ?_)
  · have hk := zOk_t c hk
    refine zr_iload_n h dX4_takeFrom_58 3 rfl rfl ?_
    refine zr_iconst (v := (zI 1)) h dX4_takeFrom_59 rfl ?_
    refine zr_callNp h zcw_X4_37 (by decide) (c_X11_faultAt E M x3 (zI 1) _ (zOk_bind hk)) rfl rfl (Nat.le_of_ble_eq_true rfl) dX4_takeFrom_60 (fun r_60 hk => ?_)
    have hk := zOk_some hk
    exact zr_iret h dX4_takeFrom_63 ⟨_, rfl, hk⟩
  · have hk := zOk_f c hk
    refine zr_iload_n h dX4_takeFrom_64 2 rfl rfl ?_
    refine zr_bipush (v := (zI 7)) h dX4_takeFrom_65 (by decide) ?_
    refine zr_icmp_ne (tgt := 76) h dX4_takeFrom_67 (by decide) (fun c => ?_) (fun c => ?_)
    · have hk := zOk_t c hk
      refine zr_iload_n h dX4_takeFrom_70 3 rfl rfl ?_
      refine zr_iconst (v := (zI 2)) h dX4_takeFrom_71 rfl ?_
      refine zr_callNp h zcw_X4_37 (by decide) (c_X11_faultAt E M x3 (zI 2) _ (zOk_bind hk)) rfl rfl (Nat.le_of_ble_eq_true rfl) dX4_takeFrom_72 (fun r_72 hk => ?_)
      have hk := zOk_some hk
      exact zr_iret h dX4_takeFrom_75 ⟨_, rfl, hk⟩
    · have hk := zOk_f c hk
      refine zr_aload_n h dX4_takeFrom_76 1 rfl rfl ?_
      refine zr_iload_n h dX4_takeFrom_77 3 rfl rfl ?_
      refine zr_iconst (v := (zI 1)) h dX4_takeFrom_78 rfl ?_
      refine zr_iadd h dX4_takeFrom_79 ?_
      refine zr_callVp h lC_1 zcw_X4_22 (by decide) (c_X8_byteAt E M (x3 + (zI 1)) _ (zOk_bind hk)) rfl rfl (Nat.le_of_ble_eq_true rfl) dX4_takeFrom_80 (fun r_80 hk => ?_)
      refine zr_ldcS_RX4_41 h dX4_takeFrom_83 ?_
      refine zr_callSp h zcw_X4_33 (by decide) (c_X4_kindOf E 1 (by decide) M r_80 _ (zOk_bind hk)) rfl rfl (Nat.le_of_ble_eq_true rfl) dX4_takeFrom_85 (fun r_85 hk => ?_)
      refine zr_istore (L' := [(0, zrf E 17), (1, zrf E 1), (2, .int x2), (3, .int x3), (4, .int r_47), (5, .int r_85)]) h [1, 2, 3, 4, 5, 0] dX4_takeFrom_88 (by decide) rfl ?_
      refine zr_iload h dX4_takeFrom_90 5 rfl ?_
      refine zr_iconst (v := (zI (-1))) h dX4_takeFrom_92 rfl ?_
      refine zr_icmp_ne (tgt := 104) h dX4_takeFrom_93 (by decide) (fun c => ?_) (fun c => ?_)
      · have hk := zOk_t c hk
        refine zr_iload_n h dX4_takeFrom_96 3 rfl rfl ?_
        refine zr_iconst (v := (zI 1)) h dX4_takeFrom_97 rfl ?_
        refine zr_iadd h dX4_takeFrom_98 ?_
        refine zr_iconst (v := (zI 1)) h dX4_takeFrom_99 rfl ?_
        refine zr_callNp h zcw_X4_37 (by decide) (c_X11_faultAt E M (x3 + (zI 1)) (zI 1) _ (zOk_bind hk)) rfl rfl (Nat.le_of_ble_eq_true rfl) dX4_takeFrom_100 (fun r_100 hk => ?_)
        have hk := zOk_some hk
        exact zr_iret h dX4_takeFrom_103 ⟨_, rfl, hk⟩
      · have hk := zOk_f c hk
        refine zr_aload_n h dX4_takeFrom_104 0 rfl rfl ?_
        refine zr_getR h zfo_X4_9 lC_17 rfl dX4_takeFrom_105 ?_
        refine zr_aload_n h dX4_takeFrom_108 0 rfl rfl ?_
        refine zr_getI h zfo_X4_18 lC_17 rfl dX4_takeFrom_109 ?_
        refine zr_bipush (v := (zI 7)) h dX4_takeFrom_112 (by decide) ?_
        refine zr_imul h dX4_takeFrom_114 ?_
        refine zr_iload_n h dX4_takeFrom_115 2 rfl rfl ?_
        refine zr_iadd h dX4_takeFrom_116 ?_
        refine zr_iload h dX4_takeFrom_117 4 rfl ?_
        refine zr_iconst (v := (zI 5)) h dX4_takeFrom_119 rfl ?_
        refine zr_imul h dX4_takeFrom_120 ?_
        refine zr_iload h dX4_takeFrom_121 5 rfl ?_
        refine zr_iadd h dX4_takeFrom_123 ?_
        have hb := zOk_chk hk
        have hk := hb.2
        refine zr_iast h lC_18 hb.1 dX4_takeFrom_124 ?_
        refine zr_mem (fun M_124 eM => ?_)
        have hk := zOk_bnd eM hk
        obtain ⟨x2_125, ex⟩ : ∃ y : Int32, y = x2 + (zI 1) := ⟨_, rfl⟩
        have hk := zOk_bnd ex hk
        refine zr_iinc (v := x2_125) (L' := [(0, zrf E 17), (1, zrf E 1), (2, .int x2_125)]) h 2 [1, 2, 0] dX4_takeFrom_125 rfl (by rw [ex]; rfl) (by decide) rfl ?_
        refine zr_goto (tgt := 2) h dX4_takeFrom_128 (by decide) ?_
        have hk := zOk_some hk
        exact zr_weak h [0, 1, 2] rfl hk
noncomputable def f_X4_takeFrom_L2 (s : (ZMem × Int32)) : Option ((ZMem × Int32) ⊕ ((ZMem) ⊕ (ZMem × Int32))) := if (zI 7) < s.2 then some (.inr (.inl s.1)) else if (zI 4) ≤ (s.1.1 17 2) then some (.inr (.inl s.1)) else zbnd ((zI 2) * s.2) (fun x3_19 => if s.2 < (zI 2) then f_X4_takeFrom_40_L2 s.1 s.2 x3_19 else zbind (f_X8_byteAt s.1 x3_19) (fun r_27 => if r_27 = (zI (-1)) then zbind (f_X4_keep s.1 s.2) (fun r_36 => some (.inr (.inr (r_36.1, r_36.2)))) else f_X4_takeFrom_40_L2 s.1 s.2 x3_19))
set_option maxRecDepth 100000 in
set_option maxHeartbeats 4000000 in
theorem w_X4_takeFrom_L2 {E : ZEv} {G : ZG} {K : (ZMem × Int32) → Prop} (h : zRu lyC E G (zRm K) cX4_takeFrom RX4 6 (some .int) 5) (s : (ZMem × Int32)) (hk : zOk (zloop (f_X4_takeFrom_L2) s) (fun e => zsel e (fun e0 => G e0 131 [] []) (fun f0 => K f0))) : G s.1 2 [(0, zrf E 17), (1, zrf E 1), (2, .int s.2)] [] := by
  refine zloop_walk (P := fun s => G s.1 2 [(0, zrf E 17), (1, zrf E 1), (2, .int s.2)] []) hk (fun s hk => ?_)
  unfold f_X4_takeFrom_L2 at hk
  refine zr_iload_n h dX4_takeFrom_2 2 rfl rfl ?_
  refine zr_bipush (v := (zI 7)) h dX4_takeFrom_3 (by decide) ?_
  refine zr_icmp_gt (tgt := 131) h dX4_takeFrom_5 (by decide) (fun c => ?_) (fun c => ?_)
  · have hk := zOk_t c hk
    have hk := zOk_some hk
    exact zr_weak h [] rfl hk
  · have hk := zOk_f c hk
    refine zr_aload_n h dX4_takeFrom_8 0 rfl rfl ?_
    refine zr_getI h zfo_X4_18 lC_17 rfl dX4_takeFrom_9 ?_
    refine zr_iconst (v := (zI 4)) h dX4_takeFrom_12 rfl ?_
    refine zr_icmp_ge (tgt := 131) h dX4_takeFrom_13 (by decide) (fun c => ?_) (fun c => ?_)
    · have hk := zOk_t c hk
      have hk := zOk_some hk
      exact zr_weak h [] rfl hk
    · have hk := zOk_f c hk
      refine zr_iconst (v := (zI 2)) h dX4_takeFrom_16 rfl ?_
      refine zr_iload_n h dX4_takeFrom_17 2 rfl rfl ?_
      refine zr_imul h dX4_takeFrom_18 ?_
      refine zr_topi (fun x3_19 ex => ?_)
      have hk := zOk_bnd ex hk
      refine zr_istore_n (L' := [(0, zrf E 17), (1, zrf E 1), (2, .int s.2), (3, .int x3_19)]) h [1, 2, 3, 0] dX4_takeFrom_19 rfl (by decide) rfl ?_
      refine zr_iload_n h dX4_takeFrom_20 2 rfl rfl ?_
      refine zr_iconst (v := (zI 2)) h dX4_takeFrom_21 rfl ?_
      refine zr_icmp_lt (tgt := 40) h dX4_takeFrom_22 (by decide) (fun c => ?_) (fun c => ?_)
      · have hk := zOk_t c hk
        exact w_X4_takeFrom_40_L2 h s.1 s.2 x3_19 hk
      · have hk := zOk_f c hk
        refine zr_aload_n h dX4_takeFrom_25 1 rfl rfl ?_
        refine zr_iload_n h dX4_takeFrom_26 3 rfl rfl ?_
        refine zr_callVp h lC_1 zcw_X4_22 (by decide) (c_X8_byteAt E s.1 x3_19 _ (zOk_bind hk)) rfl rfl (Nat.le_of_ble_eq_true rfl) dX4_takeFrom_27 (fun r_27 hk => ?_)
        refine zr_iconst (v := (zI (-1))) h dX4_takeFrom_30 rfl ?_
        refine zr_icmp_ne (tgt := 40) h dX4_takeFrom_31 (by decide) (fun c => ?_) (fun c => ?_)
        · have hk := zOk_t c hk
          refine zr_aload_n h dX4_takeFrom_34 0 rfl rfl ?_
          refine zr_iload_n h dX4_takeFrom_35 2 rfl rfl ?_
          refine zr_callVm h lC_17 zcw_X4_28 (by decide) (c_X4_keep E s.1 s.2 _ (zOk_bind hk)) rfl rfl (Nat.le_of_ble_eq_true rfl) dX4_takeFrom_36 (fun r_36 hk => ?_)
          have hk := zOk_some hk
          exact zr_iret h dX4_takeFrom_39 ⟨_, rfl, hk⟩
        · have hk := zOk_f c hk
          exact w_X4_takeFrom_40_L2 h s.1 s.2 x3_19 hk
noncomputable def f_X4_takeFrom (M : ZMem) : Option (ZMem × Int32) := zbind (zloop (f_X4_takeFrom_L2) (M, (zI 0))) (fun e2 => zsel e2 (fun e2a => some (e2a, (zI (-1)))) (fun e2b => some e2b))
set_option maxRecDepth 100000 in
set_option maxHeartbeats 4000000 in
theorem c_X4_takeFrom (E : ZEv) (M : ZMem) (K : ZMem × Int32 → Prop) (hk : zOk (f_X4_takeFrom M) K) : zCon lyC E yX4_takeFrom cX4_takeFrom 6 (some .int) 5 [zrf E 17, zrf E 1] M (zRm K) := by
  refine zcon_of (L0 := [(0, zrf E 17), (1, zrf E 1)]) (by decide) rfl (Nat.le_of_ble_eq_true rfl) (fun G h => ?_)
  have h : zRu lyC E G (zRm K) cX4_takeFrom RX4 6 (some .int) 5 := h
  unfold f_X4_takeFrom at hk
  refine zr_iconst (v := (zI 0)) h dX4_takeFrom_0 rfl ?_
  refine zr_istore_n (L' := [(0, zrf E 17), (1, zrf E 1), (2, .int (zI 0))]) h [1, 2, 0] dX4_takeFrom_1 rfl (by decide) rfl ?_
  refine w_X4_takeFrom_L2 h (M, (zI 0)) (zOk_mono (zOk_bind hk) (fun e2 hk => ?_))
  cases e2 with
  | inl e2a =>
    have hk := zOk_selL hk
    refine zr_iconst (v := (zI (-1))) h dX4_takeFrom_131 rfl ?_
    have hk := zOk_some hk
    exact zr_iret h dX4_takeFrom_132 ⟨_, rfl, hk⟩
  | inr e2b =>
    have hk := zOk_selR hk
    have hk := zOk_some hk
    exact hk
theorem dX7_told_0 : decode cX7_told 0 = .ok (.aload_n 0, 1) := by decide +kernel
theorem dX7_told_1 : decode cX7_told 1 = .ok (.getfield 27, 3) := by decide +kernel
theorem dX7_told_4 : decode cX7_told 4 = .ok (.ireturn, 1) := by decide +kernel
noncomputable def f_X7_told (M : ZMem) : Option Int32 := some (M.1 11 5)
set_option maxRecDepth 100000 in
set_option maxHeartbeats 4000000 in
theorem c_X7_told (E : ZEv) (M : ZMem) (K : Int32 → Prop) (hk : zOk (f_X7_told M) K) : zCon lyC E yX7_told cX7_told 1 (some .int) 0 [zrf E 11] M (zRp M K) := by
  refine zcon_of (L0 := [(0, zrf E 11)]) (by decide) rfl (Nat.le_of_ble_eq_true rfl) (fun G h => ?_)
  have h : zRu lyC E G (zRp M K) cX7_told RX7 1 (some .int) 0 := h
  unfold f_X7_told at hk
  refine zr_aload_n h dX7_told_0 0 rfl rfl ?_
  refine zr_getI h zfo_X7_27 lC_11 rfl dX7_told_1 ?_
  have hk := zOk_some hk
  exact zr_iret h dX7_told_4 ⟨rfl, _, rfl, hk⟩
theorem dX7_rowsOf_0 : decode cX7_rowsOf 0 = .ok (.iload_n 1, 1) := by decide +kernel
theorem dX7_rowsOf_1 : decode cX7_rowsOf 1 = .ok (.ifCond .lt 20, 3) := by decide +kernel
theorem dX7_rowsOf_4 : decode cX7_rowsOf 4 = .ok (.iload_n 1, 1) := by decide +kernel
theorem dX7_rowsOf_5 : decode cX7_rowsOf 5 = .ok (.aload_n 0, 1) := by decide +kernel
theorem dX7_rowsOf_6 : decode cX7_rowsOf 6 = .ok (.getfield 27, 3) := by decide +kernel
theorem dX7_rowsOf_9 : decode cX7_rowsOf 9 = .ok (.if_icmp .ge 12, 3) := by decide +kernel
theorem dX7_rowsOf_12 : decode cX7_rowsOf 12 = .ok (.aload_n 0, 1) := by decide +kernel
theorem dX7_rowsOf_13 : decode cX7_rowsOf 13 = .ok (.getfield 24, 3) := by decide +kernel
theorem dX7_rowsOf_16 : decode cX7_rowsOf 16 = .ok (.iload_n 1, 1) := by decide +kernel
theorem dX7_rowsOf_17 : decode cX7_rowsOf 17 = .ok (.iaload, 1) := by decide +kernel
theorem dX7_rowsOf_18 : decode cX7_rowsOf 18 = .ok (.goto 4, 3) := by decide +kernel
theorem dX7_rowsOf_21 : decode cX7_rowsOf 21 = .ok (.iconst 0, 1) := by decide +kernel
theorem dX7_rowsOf_22 : decode cX7_rowsOf 22 = .ok (.ireturn, 1) := by decide +kernel
noncomputable def f_X7_rowsOf (M : ZMem) (x1 : Int32) : Option Int32 := if x1 < (zI 0) then some (zI 0) else if (M.1 11 5) ≤ x1 then some (zI 0) else zchk (zin x1 6) (some (M.1 16 (zix x1)))
set_option maxRecDepth 100000 in
set_option maxHeartbeats 4000000 in
theorem c_X7_rowsOf (E : ZEv) (M : ZMem) (x1 : Int32) (K : Int32 → Prop) (hk : zOk (f_X7_rowsOf M x1) K) : zCon lyC E yX7_rowsOf cX7_rowsOf 2 (some .int) 0 [zrf E 11, .int x1] M (zRp M K) := by
  refine zcon_of (L0 := [(0, zrf E 11), (1, .int x1)]) (by decide) rfl (Nat.le_of_ble_eq_true rfl) (fun G h => ?_)
  have h : zRu lyC E G (zRp M K) cX7_rowsOf RX7 2 (some .int) 0 := h
  unfold f_X7_rowsOf at hk
  refine zr_iload_n h dX7_rowsOf_0 1 rfl rfl ?_
  refine zr_if_lt (tgt := 21) h dX7_rowsOf_1 (by decide) (fun c => ?_) (fun c => ?_)
  · have hk := zOk_t c hk
    refine zr_iconst (v := (zI 0)) h dX7_rowsOf_21 rfl ?_
    have hk := zOk_some hk
    exact zr_iret h dX7_rowsOf_22 ⟨rfl, _, rfl, hk⟩
  · have hk := zOk_f c hk
    refine zr_iload_n h dX7_rowsOf_4 1 rfl rfl ?_
    refine zr_aload_n h dX7_rowsOf_5 0 rfl rfl ?_
    refine zr_getI h zfo_X7_27 lC_11 rfl dX7_rowsOf_6 ?_
    refine zr_icmp_ge (tgt := 21) h dX7_rowsOf_9 (by decide) (fun c => ?_) (fun c => ?_)
    · have hk := zOk_t c hk
      refine zr_iconst (v := (zI 0)) h dX7_rowsOf_21 rfl ?_
      have hk := zOk_some hk
      exact zr_iret h dX7_rowsOf_22 ⟨rfl, _, rfl, hk⟩
    · have hk := zOk_f c hk
      refine zr_aload_n h dX7_rowsOf_12 0 rfl rfl ?_
      refine zr_getR h zfo_X7_24 lC_11 rfl dX7_rowsOf_13 ?_
      refine zr_iload_n h dX7_rowsOf_16 1 rfl rfl ?_
      have hb := zOk_chk hk
      have hk := hb.2
      refine zr_iald h lC_16 hb.1 dX7_rowsOf_17 ?_
      refine zr_goto (tgt := 22) h dX7_rowsOf_18 (by decide) ?_
      have hk := zOk_some hk
      exact zr_iret h dX7_rowsOf_22 ⟨rfl, _, rfl, hk⟩
theorem dX7_rowNumber_0 : decode cX7_rowNumber 0 = .ok (.iload_n 2, 1) := by decide +kernel
theorem dX7_rowNumber_1 : decode cX7_rowNumber 1 = .ok (.ifCond .lt 20, 3) := by decide +kernel
theorem dX7_rowNumber_4 : decode cX7_rowNumber 4 = .ok (.iload_n 2, 1) := by decide +kernel
theorem dX7_rowNumber_5 : decode cX7_rowNumber 5 = .ok (.aload_n 0, 1) := by decide +kernel
theorem dX7_rowNumber_6 : decode cX7_rowNumber 6 = .ok (.iload_n 1, 1) := by decide +kernel
theorem dX7_rowNumber_7 : decode cX7_rowNumber 7 = .ok (.invokevirtual 69, 3) := by decide +kernel
theorem dX7_rowNumber_10 : decode cX7_rowNumber 10 = .ok (.if_icmp .ge 11, 3) := by decide +kernel
theorem dX7_rowNumber_13 : decode cX7_rowNumber 13 = .ok (.iload_n 1, 1) := by decide +kernel
theorem dX7_rowNumber_14 : decode cX7_rowNumber 14 = .ok (.iconst 4, 1) := by decide +kernel
theorem dX7_rowNumber_15 : decode cX7_rowNumber 15 = .ok (.imul, 1) := by decide +kernel
theorem dX7_rowNumber_16 : decode cX7_rowNumber 16 = .ok (.iload_n 2, 1) := by decide +kernel
theorem dX7_rowNumber_17 : decode cX7_rowNumber 17 = .ok (.iadd, 1) := by decide +kernel
theorem dX7_rowNumber_18 : decode cX7_rowNumber 18 = .ok (.goto 4, 3) := by decide +kernel
theorem dX7_rowNumber_21 : decode cX7_rowNumber 21 = .ok (.iconst (-1), 1) := by decide +kernel
theorem dX7_rowNumber_22 : decode cX7_rowNumber 22 = .ok (.ireturn, 1) := by decide +kernel
noncomputable def f_X7_rowNumber (M : ZMem) (x1 : Int32) (x2 : Int32) : Option Int32 := if x2 < (zI 0) then some (zI (-1)) else zbind (f_X7_rowsOf M x1) (fun r_7 => if r_7 ≤ x2 then some (zI (-1)) else some ((x1 * (zI 4)) + x2))
set_option maxRecDepth 100000 in
set_option maxHeartbeats 4000000 in
theorem c_X7_rowNumber (E : ZEv) (M : ZMem) (x1 : Int32) (x2 : Int32) (K : Int32 → Prop) (hk : zOk (f_X7_rowNumber M x1 x2) K) : zCon lyC E yX7_rowNumber cX7_rowNumber 3 (some .int) 1 [zrf E 11, .int x1, .int x2] M (zRp M K) := by
  refine zcon_of (L0 := [(0, zrf E 11), (1, .int x1), (2, .int x2)]) (by decide) rfl (Nat.le_of_ble_eq_true rfl) (fun G h => ?_)
  have h : zRu lyC E G (zRp M K) cX7_rowNumber RX7 3 (some .int) 1 := h
  unfold f_X7_rowNumber at hk
  refine zr_iload_n h dX7_rowNumber_0 2 rfl rfl ?_
  refine zr_if_lt (tgt := 21) h dX7_rowNumber_1 (by decide) (fun c => ?_) (fun c => ?_)
  · have hk := zOk_t c hk
    refine zr_iconst (v := (zI (-1))) h dX7_rowNumber_21 rfl ?_
    have hk := zOk_some hk
    exact zr_iret h dX7_rowNumber_22 ⟨rfl, _, rfl, hk⟩
  · have hk := zOk_f c hk
    refine zr_iload_n h dX7_rowNumber_4 2 rfl rfl ?_
    refine zr_aload_n h dX7_rowNumber_5 0 rfl rfl ?_
    refine zr_iload_n h dX7_rowNumber_6 1 rfl rfl ?_
    refine zr_callVp h lC_11 zcw_X7_69 (by decide) (c_X7_rowsOf E M x1 _ (zOk_bind hk)) rfl rfl (Nat.le_of_ble_eq_true rfl) dX7_rowNumber_7 (fun r_7 hk => ?_)
    refine zr_icmp_ge (tgt := 21) h dX7_rowNumber_10 (by decide) (fun c => ?_) (fun c => ?_)
    · have hk := zOk_t c hk
      refine zr_iconst (v := (zI (-1))) h dX7_rowNumber_21 rfl ?_
      have hk := zOk_some hk
      exact zr_iret h dX7_rowNumber_22 ⟨rfl, _, rfl, hk⟩
    · have hk := zOk_f c hk
      refine zr_iload_n h dX7_rowNumber_13 1 rfl rfl ?_
      refine zr_iconst (v := (zI 4)) h dX7_rowNumber_14 rfl ?_
      refine zr_imul h dX7_rowNumber_15 ?_
      refine zr_iload_n h dX7_rowNumber_16 2 rfl rfl ?_
      refine zr_iadd h dX7_rowNumber_17 ?_
      refine zr_goto (tgt := 22) h dX7_rowNumber_18 (by decide) ?_
      have hk := zOk_some hk
      exact zr_iret h dX7_rowNumber_22 ⟨rfl, _, rfl, hk⟩
theorem dX7_isRow_0 : decode cX7_isRow 0 = .ok (.iload_n 0, 1) := by decide +kernel
theorem dX7_isRow_1 : decode cX7_isRow 1 = .ok (.ifCond .lt 13, 3) := by decide +kernel
theorem dX7_isRow_4 : decode cX7_isRow 4 = .ok (.iload_n 0, 1) := by decide +kernel
theorem dX7_isRow_5 : decode cX7_isRow 5 = .ok (.bipush 24, 2) := by decide +kernel
theorem dX7_isRow_7 : decode cX7_isRow 7 = .ok (.if_icmp .ge 7, 3) := by decide +kernel
theorem dX7_isRow_10 : decode cX7_isRow 10 = .ok (.iconst 1, 1) := by decide +kernel
theorem dX7_isRow_11 : decode cX7_isRow 11 = .ok (.goto 4, 3) := by decide +kernel
theorem dX7_isRow_14 : decode cX7_isRow 14 = .ok (.iconst 0, 1) := by decide +kernel
theorem dX7_isRow_15 : decode cX7_isRow 15 = .ok (.ireturn, 1) := by decide +kernel
noncomputable def f_X7_isRow (M : ZMem) (x0 : Int32) : Option Int32 := if x0 < (zI 0) then some (zI 0) else if (zI 24) ≤ x0 then some (zI 0) else some (zI 1)
set_option maxRecDepth 100000 in
set_option maxHeartbeats 4000000 in
theorem c_X7_isRow {ly : List ZEnt} (E : ZEv) (M : ZMem) (x0 : Int32) (K : Int32 → Prop) (hk : zOk (f_X7_isRow M x0) K) : zCon ly E yX7_isRow cX7_isRow 1 (some .boolean) 0 [.int x0] M (zRp M K) := by
  refine zcon_of (L0 := [(0, .int x0)]) (by decide) rfl (Nat.le_of_ble_eq_true rfl) (fun G h => ?_)
  have h : zRu ly E G (zRp M K) cX7_isRow RX7 1 (some .boolean) 0 := h
  unfold f_X7_isRow at hk
  refine zr_iload_n h dX7_isRow_0 0 rfl rfl ?_
  refine zr_if_lt (tgt := 14) h dX7_isRow_1 (by decide) (fun c => ?_) (fun c => ?_)
  · have hk := zOk_t c hk
    refine zr_iconst (v := (zI 0)) h dX7_isRow_14 rfl ?_
    have hk := zOk_some hk
    exact zr_zret h dX7_isRow_15 (by decide) ⟨rfl, _, rfl, hk⟩
  · have hk := zOk_f c hk
    refine zr_iload_n h dX7_isRow_4 0 rfl rfl ?_
    refine zr_bipush (v := (zI 24)) h dX7_isRow_5 (by decide) ?_
    refine zr_icmp_ge (tgt := 14) h dX7_isRow_7 (by decide) (fun c => ?_) (fun c => ?_)
    · have hk := zOk_t c hk
      refine zr_iconst (v := (zI 0)) h dX7_isRow_14 rfl ?_
      have hk := zOk_some hk
      exact zr_zret h dX7_isRow_15 (by decide) ⟨rfl, _, rfl, hk⟩
    · have hk := zOk_f c hk
      refine zr_iconst (v := (zI 1)) h dX7_isRow_10 rfl ?_
      refine zr_goto (tgt := 15) h dX7_isRow_11 (by decide) ?_
      have hk := zOk_some hk
      exact zr_zret h dX7_isRow_15 (by decide) ⟨rfl, _, rfl, hk⟩
theorem dX7_raggedness_0 : decode cX7_raggedness 0 = .ok (.iload_n 1, 1) := by decide +kernel
theorem dX7_raggedness_1 : decode cX7_raggedness 1 = .ok (.invokestatic 72, 3) := by decide +kernel
theorem dX7_raggedness_4 : decode cX7_raggedness 4 = .ok (.ifCond .eq 19, 3) := by decide +kernel
theorem dX7_raggedness_7 : decode cX7_raggedness 7 = .ok (.aload_n 0, 1) := by decide +kernel
theorem dX7_raggedness_8 : decode cX7_raggedness 8 = .ok (.getfield 21, 3) := by decide +kernel
theorem dX7_raggedness_11 : decode cX7_raggedness 11 = .ok (.iload_n 1, 1) := by decide +kernel
theorem dX7_raggedness_12 : decode cX7_raggedness 12 = .ok (.iaload, 1) := by decide +kernel
theorem dX7_raggedness_13 : decode cX7_raggedness 13 = .ok (.aload_n 0, 1) := by decide +kernel
theorem dX7_raggedness_14 : decode cX7_raggedness 14 = .ok (.getfield 18, 3) := by decide +kernel
theorem dX7_raggedness_17 : decode cX7_raggedness 17 = .ok (.iload_n 1, 1) := by decide +kernel
theorem dX7_raggedness_18 : decode cX7_raggedness 18 = .ok (.iaload, 1) := by decide +kernel
theorem dX7_raggedness_19 : decode cX7_raggedness 19 = .ok (.isub, 1) := by decide +kernel
theorem dX7_raggedness_20 : decode cX7_raggedness 20 = .ok (.goto 4, 3) := by decide +kernel
theorem dX7_raggedness_23 : decode cX7_raggedness 23 = .ok (.iconst 0, 1) := by decide +kernel
theorem dX7_raggedness_24 : decode cX7_raggedness 24 = .ok (.ireturn, 1) := by decide +kernel
noncomputable def f_X7_raggedness (M : ZMem) (x1 : Int32) : Option Int32 := zbind (f_X7_isRow M x1) (fun r_1 => if r_1 = (zI 0) then some (zI 0) else zchk (zin x1 24) (zchk (zin x1 24) (some ((M.1 15 (zix x1)) - (M.1 14 (zix x1))))))
set_option maxRecDepth 100000 in
set_option maxHeartbeats 4000000 in
theorem c_X7_raggedness (E : ZEv) (M : ZMem) (x1 : Int32) (K : Int32 → Prop) (hk : zOk (f_X7_raggedness M x1) K) : zCon lyC E yX7_raggedness cX7_raggedness 2 (some .int) 1 [zrf E 11, .int x1] M (zRp M K) := by
  refine zcon_of (L0 := [(0, zrf E 11), (1, .int x1)]) (by decide) rfl (Nat.le_of_ble_eq_true rfl) (fun G h => ?_)
  have h : zRu lyC E G (zRp M K) cX7_raggedness RX7 2 (some .int) 1 := h
  unfold f_X7_raggedness at hk
  refine zr_iload_n h dX7_raggedness_0 1 rfl rfl ?_
  refine zr_callSp h zcw_X7_72 (by decide) (c_X7_isRow E M x1 _ (zOk_bind hk)) rfl rfl (Nat.le_of_ble_eq_true rfl) dX7_raggedness_1 (fun r_1 hk => ?_)
  refine zr_if_eq (tgt := 23) h dX7_raggedness_4 (by decide) (fun c => ?_) (fun c => ?_)
  · have hk := zOk_t c hk
    refine zr_iconst (v := (zI 0)) h dX7_raggedness_23 rfl ?_
    have hk := zOk_some hk
    exact zr_iret h dX7_raggedness_24 ⟨rfl, _, rfl, hk⟩
  · have hk := zOk_f c hk
    refine zr_aload_n h dX7_raggedness_7 0 rfl rfl ?_
    refine zr_getR h zfo_X7_21 lC_11 rfl dX7_raggedness_8 ?_
    refine zr_iload_n h dX7_raggedness_11 1 rfl rfl ?_
    have hb := zOk_chk hk
    have hk := hb.2
    refine zr_iald h lC_15 hb.1 dX7_raggedness_12 ?_
    refine zr_aload_n h dX7_raggedness_13 0 rfl rfl ?_
    refine zr_getR h zfo_X7_18 lC_11 rfl dX7_raggedness_14 ?_
    refine zr_iload_n h dX7_raggedness_17 1 rfl rfl ?_
    have hb := zOk_chk hk
    have hk := hb.2
    refine zr_iald h lC_14 hb.1 dX7_raggedness_18 ?_
    refine zr_isub h dX7_raggedness_19 ?_
    refine zr_goto (tgt := 24) h dX7_raggedness_20 (by decide) ?_
    have hk := zOk_some hk
    exact zr_iret h dX7_raggedness_24 ⟨rfl, _, rfl, hk⟩
theorem dX7_lengthOf_0 : decode cX7_lengthOf 0 = .ok (.iload_n 1, 1) := by decide +kernel
theorem dX7_lengthOf_1 : decode cX7_lengthOf 1 = .ok (.invokestatic 72, 3) := by decide +kernel
theorem dX7_lengthOf_4 : decode cX7_lengthOf 4 = .ok (.ifCond .eq 12, 3) := by decide +kernel
theorem dX7_lengthOf_7 : decode cX7_lengthOf 7 = .ok (.aload_n 0, 1) := by decide +kernel
theorem dX7_lengthOf_8 : decode cX7_lengthOf 8 = .ok (.getfield 15, 3) := by decide +kernel
theorem dX7_lengthOf_11 : decode cX7_lengthOf 11 = .ok (.iload_n 1, 1) := by decide +kernel
theorem dX7_lengthOf_12 : decode cX7_lengthOf 12 = .ok (.iaload, 1) := by decide +kernel
theorem dX7_lengthOf_13 : decode cX7_lengthOf 13 = .ok (.goto 4, 3) := by decide +kernel
theorem dX7_lengthOf_16 : decode cX7_lengthOf 16 = .ok (.iconst 0, 1) := by decide +kernel
theorem dX7_lengthOf_17 : decode cX7_lengthOf 17 = .ok (.ireturn, 1) := by decide +kernel
noncomputable def f_X7_lengthOf (M : ZMem) (x1 : Int32) : Option Int32 := zbind (f_X7_isRow M x1) (fun r_1 => if r_1 = (zI 0) then some (zI 0) else zchk (zin x1 24) (some (M.1 13 (zix x1))))
set_option maxRecDepth 100000 in
set_option maxHeartbeats 4000000 in
theorem c_X7_lengthOf (E : ZEv) (M : ZMem) (x1 : Int32) (K : Int32 → Prop) (hk : zOk (f_X7_lengthOf M x1) K) : zCon lyC E yX7_lengthOf cX7_lengthOf 2 (some .int) 1 [zrf E 11, .int x1] M (zRp M K) := by
  refine zcon_of (L0 := [(0, zrf E 11), (1, .int x1)]) (by decide) rfl (Nat.le_of_ble_eq_true rfl) (fun G h => ?_)
  have h : zRu lyC E G (zRp M K) cX7_lengthOf RX7 2 (some .int) 1 := h
  unfold f_X7_lengthOf at hk
  refine zr_iload_n h dX7_lengthOf_0 1 rfl rfl ?_
  refine zr_callSp h zcw_X7_72 (by decide) (c_X7_isRow E M x1 _ (zOk_bind hk)) rfl rfl (Nat.le_of_ble_eq_true rfl) dX7_lengthOf_1 (fun r_1 hk => ?_)
  refine zr_if_eq (tgt := 16) h dX7_lengthOf_4 (by decide) (fun c => ?_) (fun c => ?_)
  · have hk := zOk_t c hk
    refine zr_iconst (v := (zI 0)) h dX7_lengthOf_16 rfl ?_
    have hk := zOk_some hk
    exact zr_iret h dX7_lengthOf_17 ⟨rfl, _, rfl, hk⟩
  · have hk := zOk_f c hk
    refine zr_aload_n h dX7_lengthOf_7 0 rfl rfl ?_
    refine zr_getR h zfo_X7_15 lC_11 rfl dX7_lengthOf_8 ?_
    refine zr_iload_n h dX7_lengthOf_11 1 rfl rfl ?_
    have hb := zOk_chk hk
    have hk := hb.2
    refine zr_iald h lC_13 hb.1 dX7_lengthOf_12 ?_
    refine zr_goto (tgt := 17) h dX7_lengthOf_13 (by decide) ?_
    have hk := zOk_some hk
    exact zr_iret h dX7_lengthOf_17 ⟨rfl, _, rfl, hk⟩
theorem dX7_letterAt_0 : decode cX7_letterAt 0 = .ok (.iload_n 1, 1) := by decide +kernel
theorem dX7_letterAt_1 : decode cX7_letterAt 1 = .ok (.invokestatic 72, 3) := by decide +kernel
theorem dX7_letterAt_4 : decode cX7_letterAt 4 = .ok (.ifCond .eq 31, 3) := by decide +kernel
theorem dX7_letterAt_7 : decode cX7_letterAt 7 = .ok (.iload_n 2, 1) := by decide +kernel
theorem dX7_letterAt_8 : decode cX7_letterAt 8 = .ok (.ifCond .lt 27, 3) := by decide +kernel
theorem dX7_letterAt_11 : decode cX7_letterAt 11 = .ok (.iload_n 2, 1) := by decide +kernel
theorem dX7_letterAt_12 : decode cX7_letterAt 12 = .ok (.aload_n 0, 1) := by decide +kernel
theorem dX7_letterAt_13 : decode cX7_letterAt 13 = .ok (.getfield 15, 3) := by decide +kernel
theorem dX7_letterAt_16 : decode cX7_letterAt 16 = .ok (.iload_n 1, 1) := by decide +kernel
theorem dX7_letterAt_17 : decode cX7_letterAt 17 = .ok (.iaload, 1) := by decide +kernel
theorem dX7_letterAt_18 : decode cX7_letterAt 18 = .ok (.if_icmp .ge 17, 3) := by decide +kernel
theorem dX7_letterAt_21 : decode cX7_letterAt 21 = .ok (.aload_n 0, 1) := by decide +kernel
theorem dX7_letterAt_22 : decode cX7_letterAt 22 = .ok (.getfield 9, 3) := by decide +kernel
theorem dX7_letterAt_25 : decode cX7_letterAt 25 = .ok (.iload_n 1, 1) := by decide +kernel
theorem dX7_letterAt_26 : decode cX7_letterAt 26 = .ok (.bipush 10, 2) := by decide +kernel
theorem dX7_letterAt_28 : decode cX7_letterAt 28 = .ok (.imul, 1) := by decide +kernel
theorem dX7_letterAt_29 : decode cX7_letterAt 29 = .ok (.iload_n 2, 1) := by decide +kernel
theorem dX7_letterAt_30 : decode cX7_letterAt 30 = .ok (.iadd, 1) := by decide +kernel
theorem dX7_letterAt_31 : decode cX7_letterAt 31 = .ok (.iaload, 1) := by decide +kernel
theorem dX7_letterAt_32 : decode cX7_letterAt 32 = .ok (.goto 4, 3) := by decide +kernel
theorem dX7_letterAt_35 : decode cX7_letterAt 35 = .ok (.iconst (-1), 1) := by decide +kernel
theorem dX7_letterAt_36 : decode cX7_letterAt 36 = .ok (.ireturn, 1) := by decide +kernel
noncomputable def f_X7_letterAt (M : ZMem) (x1 : Int32) (x2 : Int32) : Option Int32 := zbind (f_X7_isRow M x1) (fun r_1 => if r_1 = (zI 0) then some (zI (-1)) else if x2 < (zI 0) then some (zI (-1)) else zchk (zin x1 24) (if (M.1 13 (zix x1)) ≤ x2 then some (zI (-1)) else zchk (zin ((x1 * (zI 10)) + x2) 240) (some (M.1 12 (zix ((x1 * (zI 10)) + x2))))))
set_option maxRecDepth 100000 in
set_option maxHeartbeats 4000000 in
theorem c_X7_letterAt (E : ZEv) (M : ZMem) (x1 : Int32) (x2 : Int32) (K : Int32 → Prop) (hk : zOk (f_X7_letterAt M x1 x2) K) : zCon lyC E yX7_letterAt cX7_letterAt 3 (some .int) 1 [zrf E 11, .int x1, .int x2] M (zRp M K) := by
  refine zcon_of (L0 := [(0, zrf E 11), (1, .int x1), (2, .int x2)]) (by decide) rfl (Nat.le_of_ble_eq_true rfl) (fun G h => ?_)
  have h : zRu lyC E G (zRp M K) cX7_letterAt RX7 3 (some .int) 1 := h
  unfold f_X7_letterAt at hk
  refine zr_iload_n h dX7_letterAt_0 1 rfl rfl ?_
  refine zr_callSp h zcw_X7_72 (by decide) (c_X7_isRow E M x1 _ (zOk_bind hk)) rfl rfl (Nat.le_of_ble_eq_true rfl) dX7_letterAt_1 (fun r_1 hk => ?_)
  refine zr_if_eq (tgt := 35) h dX7_letterAt_4 (by decide) (fun c => ?_) (fun c => ?_)
  · have hk := zOk_t c hk
    refine zr_iconst (v := (zI (-1))) h dX7_letterAt_35 rfl ?_
    have hk := zOk_some hk
    exact zr_iret h dX7_letterAt_36 ⟨rfl, _, rfl, hk⟩
  · have hk := zOk_f c hk
    refine zr_iload_n h dX7_letterAt_7 2 rfl rfl ?_
    refine zr_if_lt (tgt := 35) h dX7_letterAt_8 (by decide) (fun c => ?_) (fun c => ?_)
    · have hk := zOk_t c hk
      refine zr_iconst (v := (zI (-1))) h dX7_letterAt_35 rfl ?_
      have hk := zOk_some hk
      exact zr_iret h dX7_letterAt_36 ⟨rfl, _, rfl, hk⟩
    · have hk := zOk_f c hk
      refine zr_iload_n h dX7_letterAt_11 2 rfl rfl ?_
      refine zr_aload_n h dX7_letterAt_12 0 rfl rfl ?_
      refine zr_getR h zfo_X7_15 lC_11 rfl dX7_letterAt_13 ?_
      refine zr_iload_n h dX7_letterAt_16 1 rfl rfl ?_
      have hb := zOk_chk hk
      have hk := hb.2
      refine zr_iald h lC_13 hb.1 dX7_letterAt_17 ?_
      refine zr_icmp_ge (tgt := 35) h dX7_letterAt_18 (by decide) (fun c => ?_) (fun c => ?_)
      · have hk := zOk_t c hk
        refine zr_iconst (v := (zI (-1))) h dX7_letterAt_35 rfl ?_
        have hk := zOk_some hk
        exact zr_iret h dX7_letterAt_36 ⟨rfl, _, rfl, hk⟩
      · have hk := zOk_f c hk
        refine zr_aload_n h dX7_letterAt_21 0 rfl rfl ?_
        refine zr_getR h zfo_X7_9 lC_11 rfl dX7_letterAt_22 ?_
        refine zr_iload_n h dX7_letterAt_25 1 rfl rfl ?_
        refine zr_bipush (v := (zI 10)) h dX7_letterAt_26 (by decide) ?_
        refine zr_imul h dX7_letterAt_28 ?_
        refine zr_iload_n h dX7_letterAt_29 2 rfl rfl ?_
        refine zr_iadd h dX7_letterAt_30 ?_
        have hb := zOk_chk hk
        have hk := hb.2
        refine zr_iald h lC_12 hb.1 dX7_letterAt_31 ?_
        refine zr_goto (tgt := 36) h dX7_letterAt_32 (by decide) ?_
        have hk := zOk_some hk
        exact zr_iret h dX7_letterAt_36 ⟨rfl, _, rfl, hk⟩
theorem dX7_isFull_0 : decode cX7_isFull 0 = .ok (.aload_n 0, 1) := by decide +kernel
theorem dX7_isFull_1 : decode cX7_isFull 1 = .ok (.getfield 27, 3) := by decide +kernel
theorem dX7_isFull_4 : decode cX7_isFull 4 = .ok (.bipush 6, 2) := by decide +kernel
theorem dX7_isFull_6 : decode cX7_isFull 6 = .ok (.if_icmp .lt 7, 3) := by decide +kernel
theorem dX7_isFull_9 : decode cX7_isFull 9 = .ok (.iconst 1, 1) := by decide +kernel
theorem dX7_isFull_10 : decode cX7_isFull 10 = .ok (.goto 4, 3) := by decide +kernel
theorem dX7_isFull_13 : decode cX7_isFull 13 = .ok (.iconst 0, 1) := by decide +kernel
theorem dX7_isFull_14 : decode cX7_isFull 14 = .ok (.ireturn, 1) := by decide +kernel
noncomputable def f_X7_isFull (M : ZMem) : Option Int32 := if (M.1 11 5) < (zI 6) then some (zI 0) else some (zI 1)
set_option maxRecDepth 100000 in
set_option maxHeartbeats 4000000 in
theorem c_X7_isFull (E : ZEv) (M : ZMem) (K : Int32 → Prop) (hk : zOk (f_X7_isFull M) K) : zCon lyC E yX7_isFull cX7_isFull 1 (some .boolean) 0 [zrf E 11] M (zRp M K) := by
  refine zcon_of (L0 := [(0, zrf E 11)]) (by decide) rfl (Nat.le_of_ble_eq_true rfl) (fun G h => ?_)
  have h : zRu lyC E G (zRp M K) cX7_isFull RX7 1 (some .boolean) 0 := h
  unfold f_X7_isFull at hk
  refine zr_aload_n h dX7_isFull_0 0 rfl rfl ?_
  refine zr_getI h zfo_X7_27 lC_11 rfl dX7_isFull_1 ?_
  refine zr_bipush (v := (zI 6)) h dX7_isFull_4 (by decide) ?_
  refine zr_icmp_lt (tgt := 13) h dX7_isFull_6 (by decide) (fun c => ?_) (fun c => ?_)
  · have hk := zOk_t c hk
    refine zr_iconst (v := (zI 0)) h dX7_isFull_13 rfl ?_
    have hk := zOk_some hk
    exact zr_zret h dX7_isFull_14 (by decide) ⟨rfl, _, rfl, hk⟩
  · have hk := zOk_f c hk
    refine zr_iconst (v := (zI 1)) h dX7_isFull_9 rfl ?_
    refine zr_goto (tgt := 14) h dX7_isFull_10 (by decide) ?_
    have hk := zOk_some hk
    exact zr_zret h dX7_isFull_14 (by decide) ⟨rfl, _, rfl, hk⟩
theorem dX7_startAnew_0 : decode cX7_startAnew 0 = .ok (.aload_n 0, 1) := by decide +kernel
theorem dX7_startAnew_1 : decode cX7_startAnew 1 = .ok (.iconst 0, 1) := by decide +kernel
theorem dX7_startAnew_2 : decode cX7_startAnew 2 = .ok (.putfield 27, 3) := by decide +kernel
theorem dX7_startAnew_5 : decode cX7_startAnew 5 = .ok (.return_, 1) := by decide +kernel
noncomputable def f_X7_startAnew (M : ZMem) : Option ZMem := zbnd (zstI M 11 5 (zI 0)) (fun M_2 => some M_2)
set_option maxRecDepth 100000 in
set_option maxHeartbeats 4000000 in
theorem c_X7_startAnew (E : ZEv) (M : ZMem) (K : ZMem → Prop) (hk : zOk (f_X7_startAnew M) K) : zCon lyC E yX7_startAnew cX7_startAnew 1 none 0 [zrf E 11] M (zRv K) := by
  refine zcon_of (L0 := [(0, zrf E 11)]) (by decide) rfl (Nat.le_of_ble_eq_true rfl) (fun G h => ?_)
  have h : zRu lyC E G (zRv K) cX7_startAnew RX7 1 none 0 := h
  unfold f_X7_startAnew at hk
  refine zr_aload_n h dX7_startAnew_0 0 rfl rfl ?_
  refine zr_iconst (v := (zI 0)) h dX7_startAnew_1 rfl ?_
  refine zr_putI h zfp_X7_27 lC_11 rfl dX7_startAnew_2 ?_
  refine zr_mem (fun M_2 eM => ?_)
  have hk := zOk_bnd eM hk
  have hk := zOk_some hk
  exact zr_vret h dX7_startAnew_5 ⟨rfl, hk⟩
theorem dX7_openRow_0 : decode cX7_openRow 0 = .ok (.aload_n 0, 1) := by decide +kernel
theorem dX7_openRow_1 : decode cX7_openRow 1 = .ok (.iconst 0, 1) := by decide +kernel
theorem dX7_openRow_2 : decode cX7_openRow 2 = .ok (.putfield 57, 3) := by decide +kernel
theorem dX7_openRow_5 : decode cX7_openRow 5 = .ok (.aload_n 0, 1) := by decide +kernel
theorem dX7_openRow_6 : decode cX7_openRow 6 = .ok (.iconst 0, 1) := by decide +kernel
theorem dX7_openRow_7 : decode cX7_openRow 7 = .ok (.putfield 60, 3) := by decide +kernel
theorem dX7_openRow_10 : decode cX7_openRow 10 = .ok (.aload_n 0, 1) := by decide +kernel
theorem dX7_openRow_11 : decode cX7_openRow 11 = .ok (.iconst 0, 1) := by decide +kernel
theorem dX7_openRow_12 : decode cX7_openRow 12 = .ok (.putfield 63, 3) := by decide +kernel
theorem dX7_openRow_15 : decode cX7_openRow 15 = .ok (.return_, 1) := by decide +kernel
noncomputable def f_X7_openRow (M : ZMem) : Option ZMem := zbnd (zstI M 11 7 (zI 0)) (fun M_2 => zbnd (zstI M_2 11 8 (zI 0)) (fun M_7 => zbnd (zstI M_7 11 9 (zI 0)) (fun M_12 => some M_12)))
set_option maxRecDepth 100000 in
set_option maxHeartbeats 4000000 in
theorem c_X7_openRow (E : ZEv) (M : ZMem) (K : ZMem → Prop) (hk : zOk (f_X7_openRow M) K) : zCon lyC E yX7_openRow cX7_openRow 1 none 0 [zrf E 11] M (zRv K) := by
  refine zcon_of (L0 := [(0, zrf E 11)]) (by decide) rfl (Nat.le_of_ble_eq_true rfl) (fun G h => ?_)
  have h : zRu lyC E G (zRv K) cX7_openRow RX7 1 none 0 := h
  unfold f_X7_openRow at hk
  refine zr_aload_n h dX7_openRow_0 0 rfl rfl ?_
  refine zr_iconst (v := (zI 0)) h dX7_openRow_1 rfl ?_
  refine zr_putI h zfp_X7_57 lC_11 rfl dX7_openRow_2 ?_
  refine zr_mem (fun M_2 eM => ?_)
  have hk := zOk_bnd eM hk
  refine zr_aload_n h dX7_openRow_5 0 rfl rfl ?_
  refine zr_iconst (v := (zI 0)) h dX7_openRow_6 rfl ?_
  refine zr_putI h zfp_X7_60 lC_11 rfl dX7_openRow_7 ?_
  refine zr_mem (fun M_7 eM => ?_)
  have hk := zOk_bnd eM hk
  refine zr_aload_n h dX7_openRow_10 0 rfl rfl ?_
  refine zr_iconst (v := (zI 0)) h dX7_openRow_11 rfl ?_
  refine zr_putI h zfp_X7_63 lC_11 rfl dX7_openRow_12 ?_
  refine zr_mem (fun M_12 eM => ?_)
  have hk := zOk_bnd eM hk
  have hk := zOk_some hk
  exact zr_vret h dX7_openRow_15 ⟨rfl, hk⟩
theorem dX7_faultOf_0 : decode cX7_faultOf 0 = .ok (.iload_n 1, 1) := by decide +kernel
theorem dX7_faultOf_1 : decode cX7_faultOf 1 = .ok (.iconst (-1), 1) := by decide +kernel
theorem dX7_faultOf_2 : decode cX7_faultOf 2 = .ok (.if_icmp .eq 9, 3) := by decide +kernel
theorem dX7_faultOf_5 : decode cX7_faultOf 5 = .ok (.iload_n 1, 1) := by decide +kernel
theorem dX7_faultOf_6 : decode cX7_faultOf 6 = .ok (.bipush 47, 2) := by decide +kernel
theorem dX7_faultOf_8 : decode cX7_faultOf 8 = .ok (.if_icmp .ne 16, 3) := by decide +kernel
theorem dX7_faultOf_11 : decode cX7_faultOf 11 = .ok (.aload_n 0, 1) := by decide +kernel
theorem dX7_faultOf_12 : decode cX7_faultOf 12 = .ok (.getfield 57, 3) := by decide +kernel
theorem dX7_faultOf_15 : decode cX7_faultOf 15 = .ok (.ifCond .ne 7, 3) := by decide +kernel
theorem dX7_faultOf_18 : decode cX7_faultOf 18 = .ok (.iconst 1, 1) := by decide +kernel
theorem dX7_faultOf_19 : decode cX7_faultOf 19 = .ok (.goto 4, 3) := by decide +kernel
theorem dX7_faultOf_22 : decode cX7_faultOf 22 = .ok (.iconst 0, 1) := by decide +kernel
theorem dX7_faultOf_23 : decode cX7_faultOf 23 = .ok (.ireturn, 1) := by decide +kernel
theorem dX7_faultOf_24 : decode cX7_faultOf 24 = .ok (.aload_n 0, 1) := by decide +kernel
theorem dX7_faultOf_25 : decode cX7_faultOf 25 = .ok (.getfield 31, 3) := by decide +kernel
theorem dX7_faultOf_28 : decode cX7_faultOf 28 = .ok (.iconst 4, 1) := by decide +kernel
theorem dX7_faultOf_29 : decode cX7_faultOf 29 = .ok (.if_icmp .ge 22, 3) := by decide +kernel
theorem dX7_faultOf_32 : decode cX7_faultOf 32 = .ok (.aload_n 0, 1) := by decide +kernel
theorem dX7_faultOf_33 : decode cX7_faultOf 33 = .ok (.getfield 60, 3) := by decide +kernel
theorem dX7_faultOf_36 : decode cX7_faultOf 36 = .ok (.aload_n 0, 1) := by decide +kernel
theorem dX7_faultOf_37 : decode cX7_faultOf 37 = .ok (.getfield 57, 3) := by decide +kernel
theorem dX7_faultOf_40 : decode cX7_faultOf 40 = .ok (.iadd, 1) := by decide +kernel
theorem dX7_faultOf_41 : decode cX7_faultOf 41 = .ok (.aload_n 0, 1) := by decide +kernel
theorem dX7_faultOf_42 : decode cX7_faultOf 42 = .ok (.getfield 63, 3) := by decide +kernel
theorem dX7_faultOf_45 : decode cX7_faultOf 45 = .ok (.iadd, 1) := by decide +kernel
theorem dX7_faultOf_46 : decode cX7_faultOf 46 = .ok (.bipush 10, 2) := by decide +kernel
theorem dX7_faultOf_48 : decode cX7_faultOf 48 = .ok (.if_icmp .lt 7, 3) := by decide +kernel
theorem dX7_faultOf_51 : decode cX7_faultOf 51 = .ok (.iconst 1, 1) := by decide +kernel
theorem dX7_faultOf_52 : decode cX7_faultOf 52 = .ok (.goto 4, 3) := by decide +kernel
theorem dX7_faultOf_55 : decode cX7_faultOf 55 = .ok (.iconst 0, 1) := by decide +kernel
theorem dX7_faultOf_56 : decode cX7_faultOf 56 = .ok (.istore_n 3, 1) := by decide +kernel
theorem dX7_faultOf_57 : decode cX7_faultOf 57 = .ok (.iload_n 1, 1) := by decide +kernel
theorem dX7_faultOf_58 : decode cX7_faultOf 58 = .ok (.bipush 46, 2) := by decide +kernel
theorem dX7_faultOf_60 : decode cX7_faultOf 60 = .ok (.if_icmp .ne 13, 3) := by decide +kernel
theorem dX7_faultOf_63 : decode cX7_faultOf 63 = .ok (.iload_n 3, 1) := by decide +kernel
theorem dX7_faultOf_64 : decode cX7_faultOf 64 = .ok (.ifCond .eq 7, 3) := by decide +kernel
theorem dX7_faultOf_67 : decode cX7_faultOf 67 = .ok (.iconst 3, 1) := by decide +kernel
theorem dX7_faultOf_68 : decode cX7_faultOf 68 = .ok (.goto 4, 3) := by decide +kernel
theorem dX7_faultOf_71 : decode cX7_faultOf 71 = .ok (.iconst 0, 1) := by decide +kernel
theorem dX7_faultOf_72 : decode cX7_faultOf 72 = .ok (.ireturn, 1) := by decide +kernel
theorem dX7_faultOf_73 : decode cX7_faultOf 73 = .ok (.iload_n 1, 1) := by decide +kernel
theorem dX7_faultOf_74 : decode cX7_faultOf 74 = .ok (.invokestatic 66, 3) := by decide +kernel
theorem dX7_faultOf_77 : decode cX7_faultOf 77 = .ok (.istore 4, 2) := by decide +kernel
theorem dX7_faultOf_79 : decode cX7_faultOf 79 = .ok (.iload 4, 2) := by decide +kernel
theorem dX7_faultOf_81 : decode cX7_faultOf 81 = .ok (.iconst (-1), 1) := by decide +kernel
theorem dX7_faultOf_82 : decode cX7_faultOf 82 = .ok (.if_icmp .eq 10, 3) := by decide +kernel
theorem dX7_faultOf_85 : decode cX7_faultOf 85 = .ok (.aload_n 0, 1) := by decide +kernel
theorem dX7_faultOf_86 : decode cX7_faultOf 86 = .ok (.getfield 63, 3) := by decide +kernel
theorem dX7_faultOf_89 : decode cX7_faultOf 89 = .ok (.ifCond .le 5, 3) := by decide +kernel
theorem dX7_faultOf_92 : decode cX7_faultOf 92 = .ok (.iconst 1, 1) := by decide +kernel
theorem dX7_faultOf_93 : decode cX7_faultOf 93 = .ok (.ireturn, 1) := by decide +kernel
theorem dX7_faultOf_94 : decode cX7_faultOf 94 = .ok (.iload 4, 2) := by decide +kernel
theorem dX7_faultOf_96 : decode cX7_faultOf 96 = .ok (.iload_n 2, 1) := by decide +kernel
theorem dX7_faultOf_97 : decode cX7_faultOf 97 = .ok (.if_icmp .lt 5, 3) := by decide +kernel
theorem dX7_faultOf_100 : decode cX7_faultOf 100 = .ok (.iconst 2, 1) := by decide +kernel
theorem dX7_faultOf_101 : decode cX7_faultOf 101 = .ok (.ireturn, 1) := by decide +kernel
theorem dX7_faultOf_102 : decode cX7_faultOf 102 = .ok (.iload_n 3, 1) := by decide +kernel
theorem dX7_faultOf_103 : decode cX7_faultOf 103 = .ok (.ifCond .eq 7, 3) := by decide +kernel
theorem dX7_faultOf_106 : decode cX7_faultOf 106 = .ok (.iconst 3, 1) := by decide +kernel
theorem dX7_faultOf_107 : decode cX7_faultOf 107 = .ok (.goto 4, 3) := by decide +kernel
theorem dX7_faultOf_110 : decode cX7_faultOf 110 = .ok (.iconst 0, 1) := by decide +kernel
theorem dX7_faultOf_111 : decode cX7_faultOf 111 = .ok (.ireturn, 1) := by decide +kernel
noncomputable def f_X7_faultOf_11 (M : ZMem) : Option Int32 := if (M.1 11 7) = (zI 0) then some (zI 1) else some (zI 0)
set_option maxRecDepth 100000 in
set_option maxHeartbeats 4000000 in
theorem w_X7_faultOf_11 {E : ZEv} {G : ZG} {K : Int32 → Prop} (M : ZMem) (h : zRu lyC E G (zRp M K) cX7_faultOf RX7 5 (some .int) 1) (hk : zOk (f_X7_faultOf_11 M) K) : G M 11 [(0, zrf E 11)] [] := by
  unfold f_X7_faultOf_11 at hk
  refine zr_aload_n h dX7_faultOf_11 0 rfl rfl ?_
  refine zr_getI h zfo_X7_57 lC_11 rfl dX7_faultOf_12 ?_
  refine zr_if_ne (tgt := 22) h dX7_faultOf_15 (by decide) (fun c => ?_) (fun c => ?_)
  · have hk := zOk_t c hk
    refine zr_iconst (v := (zI 1)) h dX7_faultOf_18 rfl ?_
    refine zr_goto (tgt := 23) h dX7_faultOf_19 (by decide) ?_
    have hk := zOk_some hk
    exact zr_iret h dX7_faultOf_23 ⟨rfl, _, rfl, hk⟩
  · have hk := zOk_f c hk
    refine zr_iconst (v := (zI 0)) h dX7_faultOf_22 rfl ?_
    have hk := zOk_some hk
    exact zr_iret h dX7_faultOf_23 ⟨rfl, _, rfl, hk⟩
noncomputable def f_X7_faultOf_56 (M : ZMem) (x1 : Int32) (x2 : Int32) (v0 : Int32) : Option Int32 := if x1 = (zI 46) then if v0 = (zI 0) then some (zI 0) else some (zI 3) else zbind (f_X11_letterOf M x1) (fun r_74 => if r_74 = (zI (-1)) then some (zI 1) else if (M.1 11 9) ≤ (zI 0) then if r_74 < x2 then if v0 = (zI 0) then some (zI 0) else some (zI 3) else some (zI 2) else some (zI 1))
set_option maxRecDepth 100000 in
set_option maxHeartbeats 4000000 in
theorem w_X7_faultOf_56 {E : ZEv} {G : ZG} {K : Int32 → Prop} (M : ZMem) (h : zRu lyC E G (zRp M K) cX7_faultOf RX7 5 (some .int) 1) (x1 : Int32) (x2 : Int32) (v0 : Int32) (hk : zOk (f_X7_faultOf_56 M x1 x2 v0) K) : G M 56 [(0, zrf E 11), (1, .int x1), (2, .int x2)] [.int v0] := by
  unfold f_X7_faultOf_56 at hk
  refine zr_istore_n (L' := [(0, zrf E 11), (1, .int x1), (2, .int x2), (3, .int v0)]) h [1, 2, 3, 0] dX7_faultOf_56 rfl (by decide) rfl ?_
  refine zr_iload_n h dX7_faultOf_57 1 rfl rfl ?_
  refine zr_bipush (v := (zI 46)) h dX7_faultOf_58 (by decide) ?_
  refine zr_icmp_ne (tgt := 73) h dX7_faultOf_60 (by decide) (fun c => ?_) (fun c => ?_)
  · have hk := zOk_t c hk
    refine zr_iload_n h dX7_faultOf_63 3 rfl rfl ?_
    refine zr_if_eq (tgt := 71) h dX7_faultOf_64 (by decide) (fun c => ?_) (fun c => ?_)
    · have hk := zOk_t c hk
      refine zr_iconst (v := (zI 0)) h dX7_faultOf_71 rfl ?_
      have hk := zOk_some hk
      exact zr_iret h dX7_faultOf_72 ⟨rfl, _, rfl, hk⟩
    · have hk := zOk_f c hk
      refine zr_iconst (v := (zI 3)) h dX7_faultOf_67 rfl ?_
      refine zr_goto (tgt := 72) h dX7_faultOf_68 (by decide) ?_
      have hk := zOk_some hk
      exact zr_iret h dX7_faultOf_72 ⟨rfl, _, rfl, hk⟩
  · have hk := zOk_f c hk
    refine zr_iload_n h dX7_faultOf_73 1 rfl rfl ?_
    refine zr_callNp h zcw_X7_66 (by decide) (c_X11_letterOf E M x1 _ (zOk_bind hk)) rfl rfl (Nat.le_of_ble_eq_true rfl) dX7_faultOf_74 (fun r_74 hk => ?_)
    refine zr_istore (L' := [(0, zrf E 11), (2, .int x2), (3, .int v0), (4, .int r_74)]) h [1, 3, 4, 0] dX7_faultOf_77 (by decide) rfl ?_
    refine zr_iload h dX7_faultOf_79 3 rfl ?_
    refine zr_iconst (v := (zI (-1))) h dX7_faultOf_81 rfl ?_
    refine zr_icmp_eq (tgt := 92) h dX7_faultOf_82 (by decide) (fun c => ?_) (fun c => ?_)
    · have hk := zOk_t c hk
      refine zr_iconst (v := (zI 1)) h dX7_faultOf_92 rfl ?_
      have hk := zOk_some hk
      exact zr_iret h dX7_faultOf_93 ⟨rfl, _, rfl, hk⟩
    · have hk := zOk_f c hk
      refine zr_aload_n h dX7_faultOf_85 0 rfl rfl ?_
      refine zr_getI h zfo_X7_63 lC_11 rfl dX7_faultOf_86 ?_
      refine zr_if_le (tgt := 94) h dX7_faultOf_89 (by decide) (fun c => ?_) (fun c => ?_)
      · have hk := zOk_t c hk
        refine zr_iload h dX7_faultOf_94 3 rfl ?_
        refine zr_iload_n h dX7_faultOf_96 1 rfl rfl ?_
        refine zr_icmp_lt (tgt := 102) h dX7_faultOf_97 (by decide) (fun c => ?_) (fun c => ?_)
        · have hk := zOk_t c hk
          refine zr_iload_n h dX7_faultOf_102 2 rfl rfl ?_
          refine zr_if_eq (tgt := 110) h dX7_faultOf_103 (by decide) (fun c => ?_) (fun c => ?_)
          · have hk := zOk_t c hk
            refine zr_iconst (v := (zI 0)) h dX7_faultOf_110 rfl ?_
            have hk := zOk_some hk
            exact zr_iret h dX7_faultOf_111 ⟨rfl, _, rfl, hk⟩
          · have hk := zOk_f c hk
            refine zr_iconst (v := (zI 3)) h dX7_faultOf_106 rfl ?_
            refine zr_goto (tgt := 111) h dX7_faultOf_107 (by decide) ?_
            have hk := zOk_some hk
            exact zr_iret h dX7_faultOf_111 ⟨rfl, _, rfl, hk⟩
        · have hk := zOk_f c hk
          refine zr_iconst (v := (zI 2)) h dX7_faultOf_100 rfl ?_
          have hk := zOk_some hk
          exact zr_iret h dX7_faultOf_101 ⟨rfl, _, rfl, hk⟩
      · have hk := zOk_f c hk
        refine zr_iconst (v := (zI 1)) h dX7_faultOf_92 rfl ?_
        have hk := zOk_some hk
        exact zr_iret h dX7_faultOf_93 ⟨rfl, _, rfl, hk⟩
noncomputable def f_X7_faultOf_51 (M : ZMem) (x1 : Int32) (x2 : Int32) : Option Int32 := f_X7_faultOf_56 M x1 x2 (zI 1)
set_option maxRecDepth 100000 in
set_option maxHeartbeats 4000000 in
theorem w_X7_faultOf_51 {E : ZEv} {G : ZG} {K : Int32 → Prop} (M : ZMem) (h : zRu lyC E G (zRp M K) cX7_faultOf RX7 5 (some .int) 1) (x1 : Int32) (x2 : Int32) (hk : zOk (f_X7_faultOf_51 M x1 x2) K) : G M 51 [(0, zrf E 11), (1, .int x1), (2, .int x2)] [] := by
  unfold f_X7_faultOf_51 at hk
  refine zr_iconst (v := (zI 1)) h dX7_faultOf_51 rfl ?_
  refine zr_goto (tgt := 56) h dX7_faultOf_52 (by decide) ?_
  exact w_X7_faultOf_56 M h x1 x2 (zI 1) hk
noncomputable def f_X7_faultOf (M : ZMem) (x1 : Int32) (x2 : Int32) : Option Int32 := if x1 = (zI (-1)) then f_X7_faultOf_11 M else if x1 = (zI 47) then f_X7_faultOf_11 M else if (zI 4) ≤ (M.1 11 6) then f_X7_faultOf_51 M x1 x2 else if (((M.1 11 8) + (M.1 11 7)) + (M.1 11 9)) < (zI 10) then f_X7_faultOf_56 M x1 x2 (zI 0) else f_X7_faultOf_51 M x1 x2
set_option maxRecDepth 100000 in
set_option maxHeartbeats 4000000 in
theorem c_X7_faultOf (E : ZEv) (M : ZMem) (x1 : Int32) (x2 : Int32) (K : Int32 → Prop) (hk : zOk (f_X7_faultOf M x1 x2) K) : zCon lyC E yX7_faultOf cX7_faultOf 5 (some .int) 1 [zrf E 11, .int x1, .int x2] M (zRp M K) := by
  refine zcon_of (L0 := [(0, zrf E 11), (1, .int x1), (2, .int x2)]) (by decide) rfl (Nat.le_of_ble_eq_true rfl) (fun G h => ?_)
  have h : zRu lyC E G (zRp M K) cX7_faultOf RX7 5 (some .int) 1 := h
  unfold f_X7_faultOf at hk
  refine zr_iload_n h dX7_faultOf_0 1 rfl rfl ?_
  refine zr_iconst (v := (zI (-1))) h dX7_faultOf_1 rfl ?_
  refine zr_icmp_eq (tgt := 11) h dX7_faultOf_2 (by decide) (fun c => ?_) (fun c => ?_)
  · have hk := zOk_t c hk
    exact zr_weak h [0] rfl (w_X7_faultOf_11 M h hk)
  · have hk := zOk_f c hk
    refine zr_iload_n h dX7_faultOf_5 1 rfl rfl ?_
    refine zr_bipush (v := (zI 47)) h dX7_faultOf_6 (by decide) ?_
    refine zr_icmp_ne (tgt := 24) h dX7_faultOf_8 (by decide) (fun c => ?_) (fun c => ?_)
    · have hk := zOk_t c hk
      exact zr_weak h [0] rfl (w_X7_faultOf_11 M h hk)
    · have hk := zOk_f c hk
      refine zr_aload_n h dX7_faultOf_24 0 rfl rfl ?_
      refine zr_getI h zfo_X7_31 lC_11 rfl dX7_faultOf_25 ?_
      refine zr_iconst (v := (zI 4)) h dX7_faultOf_28 rfl ?_
      refine zr_icmp_ge (tgt := 51) h dX7_faultOf_29 (by decide) (fun c => ?_) (fun c => ?_)
      · have hk := zOk_t c hk
        exact w_X7_faultOf_51 M h x1 x2 hk
      · have hk := zOk_f c hk
        refine zr_aload_n h dX7_faultOf_32 0 rfl rfl ?_
        refine zr_getI h zfo_X7_60 lC_11 rfl dX7_faultOf_33 ?_
        refine zr_aload_n h dX7_faultOf_36 0 rfl rfl ?_
        refine zr_getI h zfo_X7_57 lC_11 rfl dX7_faultOf_37 ?_
        refine zr_iadd h dX7_faultOf_40 ?_
        refine zr_aload_n h dX7_faultOf_41 0 rfl rfl ?_
        refine zr_getI h zfo_X7_63 lC_11 rfl dX7_faultOf_42 ?_
        refine zr_iadd h dX7_faultOf_45 ?_
        refine zr_bipush (v := (zI 10)) h dX7_faultOf_46 (by decide) ?_
        refine zr_icmp_lt (tgt := 55) h dX7_faultOf_48 (by decide) (fun c => ?_) (fun c => ?_)
        · have hk := zOk_t c hk
          refine zr_iconst (v := (zI 0)) h dX7_faultOf_55 rfl ?_
          exact w_X7_faultOf_56 M h x1 x2 (zI 0) hk
        · have hk := zOk_f c hk
          exact w_X7_faultOf_51 M h x1 x2 hk
theorem dX7_closeRow_0 : decode cX7_closeRow 0 = .ok (.aload_n 0, 1) := by decide +kernel
theorem dX7_closeRow_1 : decode cX7_closeRow 1 = .ok (.getfield 27, 3) := by decide +kernel
theorem dX7_closeRow_4 : decode cX7_closeRow 4 = .ok (.iconst 4, 1) := by decide +kernel
theorem dX7_closeRow_5 : decode cX7_closeRow 5 = .ok (.imul, 1) := by decide +kernel
theorem dX7_closeRow_6 : decode cX7_closeRow 6 = .ok (.aload_n 0, 1) := by decide +kernel
theorem dX7_closeRow_7 : decode cX7_closeRow 7 = .ok (.getfield 31, 3) := by decide +kernel
theorem dX7_closeRow_10 : decode cX7_closeRow 10 = .ok (.iadd, 1) := by decide +kernel
theorem dX7_closeRow_11 : decode cX7_closeRow 11 = .ok (.istore_n 1, 1) := by decide +kernel
theorem dX7_closeRow_12 : decode cX7_closeRow 12 = .ok (.iload_n 1, 1) := by decide +kernel
theorem dX7_closeRow_13 : decode cX7_closeRow 13 = .ok (.bipush 24, 2) := by decide +kernel
theorem dX7_closeRow_15 : decode cX7_closeRow 15 = .ok (.if_icmp .ge 33, 3) := by decide +kernel
theorem dX7_closeRow_18 : decode cX7_closeRow 18 = .ok (.aload_n 0, 1) := by decide +kernel
theorem dX7_closeRow_19 : decode cX7_closeRow 19 = .ok (.getfield 15, 3) := by decide +kernel
theorem dX7_closeRow_22 : decode cX7_closeRow 22 = .ok (.iload_n 1, 1) := by decide +kernel
theorem dX7_closeRow_23 : decode cX7_closeRow 23 = .ok (.aload_n 0, 1) := by decide +kernel
theorem dX7_closeRow_24 : decode cX7_closeRow 24 = .ok (.getfield 57, 3) := by decide +kernel
theorem dX7_closeRow_27 : decode cX7_closeRow 27 = .ok (.iastore, 1) := by decide +kernel
theorem dX7_closeRow_28 : decode cX7_closeRow 28 = .ok (.aload_n 0, 1) := by decide +kernel
theorem dX7_closeRow_29 : decode cX7_closeRow 29 = .ok (.getfield 18, 3) := by decide +kernel
theorem dX7_closeRow_32 : decode cX7_closeRow 32 = .ok (.iload_n 1, 1) := by decide +kernel
theorem dX7_closeRow_33 : decode cX7_closeRow 33 = .ok (.aload_n 0, 1) := by decide +kernel
theorem dX7_closeRow_34 : decode cX7_closeRow 34 = .ok (.getfield 60, 3) := by decide +kernel
theorem dX7_closeRow_37 : decode cX7_closeRow 37 = .ok (.iastore, 1) := by decide +kernel
theorem dX7_closeRow_38 : decode cX7_closeRow 38 = .ok (.aload_n 0, 1) := by decide +kernel
theorem dX7_closeRow_39 : decode cX7_closeRow 39 = .ok (.getfield 21, 3) := by decide +kernel
theorem dX7_closeRow_42 : decode cX7_closeRow 42 = .ok (.iload_n 1, 1) := by decide +kernel
theorem dX7_closeRow_43 : decode cX7_closeRow 43 = .ok (.aload_n 0, 1) := by decide +kernel
theorem dX7_closeRow_44 : decode cX7_closeRow 44 = .ok (.getfield 63, 3) := by decide +kernel
theorem dX7_closeRow_47 : decode cX7_closeRow 47 = .ok (.iastore, 1) := by decide +kernel
theorem dX7_closeRow_48 : decode cX7_closeRow 48 = .ok (.aload_n 0, 1) := by decide +kernel
theorem dX7_closeRow_49 : decode cX7_closeRow 49 = .ok (.dup, 1) := by decide +kernel
theorem dX7_closeRow_50 : decode cX7_closeRow 50 = .ok (.getfield 31, 3) := by decide +kernel
theorem dX7_closeRow_53 : decode cX7_closeRow 53 = .ok (.iconst 1, 1) := by decide +kernel
theorem dX7_closeRow_54 : decode cX7_closeRow 54 = .ok (.iadd, 1) := by decide +kernel
theorem dX7_closeRow_55 : decode cX7_closeRow 55 = .ok (.putfield 31, 3) := by decide +kernel
theorem dX7_closeRow_58 : decode cX7_closeRow 58 = .ok (.return_, 1) := by decide +kernel
noncomputable def f_X7_closeRow_48 (M : ZMem) : Option ZMem := zbnd (zstI M 11 6 ((M.1 11 6) + (zI 1))) (fun M_55 => some M_55)
set_option maxRecDepth 100000 in
set_option maxHeartbeats 4000000 in
theorem w_X7_closeRow_48 {E : ZEv} {G : ZG} {K : ZMem → Prop} (h : zRu lyC E G (zRv K) cX7_closeRow RX7 2 none 0) (M : ZMem) (hk : zOk (f_X7_closeRow_48 M) K) : G M 48 [(0, zrf E 11)] [] := by
  unfold f_X7_closeRow_48 at hk
  refine zr_aload_n h dX7_closeRow_48 0 rfl rfl ?_
  refine zr_dup h dX7_closeRow_49 rfl ?_
  refine zr_getI h zfo_X7_31 lC_11 rfl dX7_closeRow_50 ?_
  refine zr_iconst (v := (zI 1)) h dX7_closeRow_53 rfl ?_
  refine zr_iadd h dX7_closeRow_54 ?_
  refine zr_putI h zfp_X7_31 lC_11 rfl dX7_closeRow_55 ?_
  refine zr_mem (fun M_55 eM => ?_)
  have hk := zOk_bnd eM hk
  have hk := zOk_some hk
  exact zr_vret h dX7_closeRow_58 ⟨rfl, hk⟩
noncomputable def f_X7_closeRow (M : ZMem) : Option ZMem := zbnd (((M.1 11 5) * (zI 4)) + (M.1 11 6)) (fun x1_11 => if (zI 24) ≤ x1_11 then f_X7_closeRow_48 M else zchk (zin x1_11 24) (zbnd (zstI M 13 (zix x1_11) (M.1 11 7)) (fun M_27 => zchk (zin x1_11 24) (zbnd (zstI M_27 14 (zix x1_11) (M_27.1 11 8)) (fun M_37 => zchk (zin x1_11 24) (zbnd (zstI M_37 15 (zix x1_11) (M_37.1 11 9)) (fun M_47 => f_X7_closeRow_48 M_47)))))))
set_option maxRecDepth 100000 in
set_option maxHeartbeats 4000000 in
theorem c_X7_closeRow (E : ZEv) (M : ZMem) (K : ZMem → Prop) (hk : zOk (f_X7_closeRow M) K) : zCon lyC E yX7_closeRow cX7_closeRow 2 none 0 [zrf E 11] M (zRv K) := by
  refine zcon_of (L0 := [(0, zrf E 11)]) (by decide) rfl (Nat.le_of_ble_eq_true rfl) (fun G h => ?_)
  have h : zRu lyC E G (zRv K) cX7_closeRow RX7 2 none 0 := h
  unfold f_X7_closeRow at hk
  refine zr_aload_n h dX7_closeRow_0 0 rfl rfl ?_
  refine zr_getI h zfo_X7_27 lC_11 rfl dX7_closeRow_1 ?_
  refine zr_iconst (v := (zI 4)) h dX7_closeRow_4 rfl ?_
  refine zr_imul h dX7_closeRow_5 ?_
  refine zr_aload_n h dX7_closeRow_6 0 rfl rfl ?_
  refine zr_getI h zfo_X7_31 lC_11 rfl dX7_closeRow_7 ?_
  refine zr_iadd h dX7_closeRow_10 ?_
  refine zr_topi (fun x1_11 ex => ?_)
  have hk := zOk_bnd ex hk
  refine zr_istore_n (L' := [(0, zrf E 11), (1, .int x1_11)]) h [1, 0] dX7_closeRow_11 rfl (by decide) rfl ?_
  refine zr_iload_n h dX7_closeRow_12 1 rfl rfl ?_
  refine zr_bipush (v := (zI 24)) h dX7_closeRow_13 (by decide) ?_
  refine zr_icmp_ge (tgt := 48) h dX7_closeRow_15 (by decide) (fun c => ?_) (fun c => ?_)
  · have hk := zOk_t c hk
    exact zr_weak h [0] rfl (w_X7_closeRow_48 h M hk)
  · have hk := zOk_f c hk
    refine zr_aload_n h dX7_closeRow_18 0 rfl rfl ?_
    refine zr_getR h zfo_X7_15 lC_11 rfl dX7_closeRow_19 ?_
    refine zr_iload_n h dX7_closeRow_22 1 rfl rfl ?_
    refine zr_aload_n h dX7_closeRow_23 0 rfl rfl ?_
    refine zr_getI h zfo_X7_57 lC_11 rfl dX7_closeRow_24 ?_
    have hb := zOk_chk hk
    have hk := hb.2
    refine zr_iast h lC_13 hb.1 dX7_closeRow_27 ?_
    refine zr_mem (fun M_27 eM => ?_)
    have hk := zOk_bnd eM hk
    refine zr_aload_n h dX7_closeRow_28 0 rfl rfl ?_
    refine zr_getR h zfo_X7_18 lC_11 rfl dX7_closeRow_29 ?_
    refine zr_iload_n h dX7_closeRow_32 1 rfl rfl ?_
    refine zr_aload_n h dX7_closeRow_33 0 rfl rfl ?_
    refine zr_getI h zfo_X7_60 lC_11 rfl dX7_closeRow_34 ?_
    have hb := zOk_chk hk
    have hk := hb.2
    refine zr_iast h lC_14 hb.1 dX7_closeRow_37 ?_
    refine zr_mem (fun M_37 eM => ?_)
    have hk := zOk_bnd eM hk
    refine zr_aload_n h dX7_closeRow_38 0 rfl rfl ?_
    refine zr_getR h zfo_X7_21 lC_11 rfl dX7_closeRow_39 ?_
    refine zr_iload_n h dX7_closeRow_42 1 rfl rfl ?_
    refine zr_aload_n h dX7_closeRow_43 0 rfl rfl ?_
    refine zr_getI h zfo_X7_63 lC_11 rfl dX7_closeRow_44 ?_
    have hb := zOk_chk hk
    have hk := hb.2
    refine zr_iast h lC_15 hb.1 dX7_closeRow_47 ?_
    refine zr_mem (fun M_47 eM => ?_)
    have hk := zOk_bnd eM hk
    exact zr_weak h [0] rfl (w_X7_closeRow_48 h M_47 hk)
theorem dX7_take_0 : decode cX7_take 0 = .ok (.iload_n 1, 1) := by decide +kernel
theorem dX7_take_1 : decode cX7_take 1 = .ok (.bipush 47, 2) := by decide +kernel
theorem dX7_take_3 : decode cX7_take 3 = .ok (.if_icmp .ne 14, 3) := by decide +kernel
theorem dX7_take_6 : decode cX7_take 6 = .ok (.aload_n 0, 1) := by decide +kernel
theorem dX7_take_7 : decode cX7_take 7 = .ok (.invokevirtual 50, 3) := by decide +kernel
theorem dX7_take_10 : decode cX7_take 10 = .ok (.aload_n 0, 1) := by decide +kernel
theorem dX7_take_11 : decode cX7_take 11 = .ok (.invokevirtual 34, 3) := by decide +kernel
theorem dX7_take_14 : decode cX7_take 14 = .ok (.goto 91, 3) := by decide +kernel
theorem dX7_take_17 : decode cX7_take 17 = .ok (.iload_n 1, 1) := by decide +kernel
theorem dX7_take_18 : decode cX7_take 18 = .ok (.bipush 46, 2) := by decide +kernel
theorem dX7_take_20 : decode cX7_take 20 = .ok (.if_icmp .eq 55, 3) := by decide +kernel
theorem dX7_take_23 : decode cX7_take 23 = .ok (.aload_n 0, 1) := by decide +kernel
theorem dX7_take_24 : decode cX7_take 24 = .ok (.getfield 27, 3) := by decide +kernel
theorem dX7_take_27 : decode cX7_take 27 = .ok (.iconst 4, 1) := by decide +kernel
theorem dX7_take_28 : decode cX7_take 28 = .ok (.imul, 1) := by decide +kernel
theorem dX7_take_29 : decode cX7_take 29 = .ok (.aload_n 0, 1) := by decide +kernel
theorem dX7_take_30 : decode cX7_take 30 = .ok (.getfield 31, 3) := by decide +kernel
theorem dX7_take_33 : decode cX7_take 33 = .ok (.iadd, 1) := by decide +kernel
theorem dX7_take_34 : decode cX7_take 34 = .ok (.bipush 10, 2) := by decide +kernel
theorem dX7_take_36 : decode cX7_take 36 = .ok (.imul, 1) := by decide +kernel
theorem dX7_take_37 : decode cX7_take 37 = .ok (.aload_n 0, 1) := by decide +kernel
theorem dX7_take_38 : decode cX7_take 38 = .ok (.getfield 57, 3) := by decide +kernel
theorem dX7_take_41 : decode cX7_take 41 = .ok (.iadd, 1) := by decide +kernel
theorem dX7_take_42 : decode cX7_take 42 = .ok (.istore_n 2, 1) := by decide +kernel
theorem dX7_take_43 : decode cX7_take 43 = .ok (.iload_n 2, 1) := by decide +kernel
theorem dX7_take_44 : decode cX7_take 44 = .ok (.aload_n 0, 1) := by decide +kernel
theorem dX7_take_45 : decode cX7_take 45 = .ok (.getfield 9, 3) := by decide +kernel
theorem dX7_take_48 : decode cX7_take 48 = .ok (.arraylength, 1) := by decide +kernel
theorem dX7_take_49 : decode cX7_take 49 = .ok (.if_icmp .ge 13, 3) := by decide +kernel
theorem dX7_take_52 : decode cX7_take 52 = .ok (.aload_n 0, 1) := by decide +kernel
theorem dX7_take_53 : decode cX7_take 53 = .ok (.getfield 9, 3) := by decide +kernel
theorem dX7_take_56 : decode cX7_take 56 = .ok (.iload_n 2, 1) := by decide +kernel
theorem dX7_take_57 : decode cX7_take 57 = .ok (.iload_n 1, 1) := by decide +kernel
theorem dX7_take_58 : decode cX7_take 58 = .ok (.invokestatic 66, 3) := by decide +kernel
theorem dX7_take_61 : decode cX7_take 61 = .ok (.iastore, 1) := by decide +kernel
theorem dX7_take_62 : decode cX7_take 62 = .ok (.aload_n 0, 1) := by decide +kernel
theorem dX7_take_63 : decode cX7_take 63 = .ok (.dup, 1) := by decide +kernel
theorem dX7_take_64 : decode cX7_take 64 = .ok (.getfield 57, 3) := by decide +kernel
theorem dX7_take_67 : decode cX7_take 67 = .ok (.iconst 1, 1) := by decide +kernel
theorem dX7_take_68 : decode cX7_take 68 = .ok (.iadd, 1) := by decide +kernel
theorem dX7_take_69 : decode cX7_take 69 = .ok (.putfield 57, 3) := by decide +kernel
theorem dX7_take_72 : decode cX7_take 72 = .ok (.goto 33, 3) := by decide +kernel
theorem dX7_take_75 : decode cX7_take 75 = .ok (.aload_n 0, 1) := by decide +kernel
theorem dX7_take_76 : decode cX7_take 76 = .ok (.getfield 57, 3) := by decide +kernel
theorem dX7_take_79 : decode cX7_take 79 = .ok (.ifCond .ne 16, 3) := by decide +kernel
theorem dX7_take_82 : decode cX7_take 82 = .ok (.aload_n 0, 1) := by decide +kernel
theorem dX7_take_83 : decode cX7_take 83 = .ok (.dup, 1) := by decide +kernel
theorem dX7_take_84 : decode cX7_take 84 = .ok (.getfield 60, 3) := by decide +kernel
theorem dX7_take_87 : decode cX7_take 87 = .ok (.iconst 1, 1) := by decide +kernel
theorem dX7_take_88 : decode cX7_take 88 = .ok (.iadd, 1) := by decide +kernel
theorem dX7_take_89 : decode cX7_take 89 = .ok (.putfield 60, 3) := by decide +kernel
theorem dX7_take_92 : decode cX7_take 92 = .ok (.goto 13, 3) := by decide +kernel
theorem dX7_take_95 : decode cX7_take 95 = .ok (.aload_n 0, 1) := by decide +kernel
theorem dX7_take_96 : decode cX7_take 96 = .ok (.dup, 1) := by decide +kernel
theorem dX7_take_97 : decode cX7_take 97 = .ok (.getfield 63, 3) := by decide +kernel
theorem dX7_take_100 : decode cX7_take 100 = .ok (.iconst 1, 1) := by decide +kernel
theorem dX7_take_101 : decode cX7_take 101 = .ok (.iadd, 1) := by decide +kernel
theorem dX7_take_102 : decode cX7_take 102 = .ok (.putfield 63, 3) := by decide +kernel
theorem dX7_take_105 : decode cX7_take 105 = .ok (.return_, 1) := by decide +kernel
noncomputable def f_X7_take_62 (M : ZMem) : Option ZMem := zbnd (zstI M 11 7 ((M.1 11 7) + (zI 1))) (fun M_69 => some M_69)
set_option maxRecDepth 100000 in
set_option maxHeartbeats 4000000 in
theorem w_X7_take_62 {E : ZEv} {G : ZG} {K : ZMem → Prop} (h : zRu lyC E G (zRv K) cX7_take RX7 3 none 1) (M : ZMem) (hk : zOk (f_X7_take_62 M) K) : G M 62 [(0, zrf E 11)] [] := by
  unfold f_X7_take_62 at hk
  refine zr_aload_n h dX7_take_62 0 rfl rfl ?_
  refine zr_dup h dX7_take_63 rfl ?_
  refine zr_getI h zfo_X7_57 lC_11 rfl dX7_take_64 ?_
  refine zr_iconst (v := (zI 1)) h dX7_take_67 rfl ?_
  refine zr_iadd h dX7_take_68 ?_
  refine zr_putI h zfp_X7_57 lC_11 rfl dX7_take_69 ?_
  refine zr_mem (fun M_69 eM => ?_)
  have hk := zOk_bnd eM hk
  refine zr_goto (tgt := 105) h dX7_take_72 (by decide) ?_
  have hk := zOk_some hk
  exact zr_vret h dX7_take_105 ⟨rfl, hk⟩
noncomputable def f_X7_take (M : ZMem) (x1 : Int32) : Option ZMem := if x1 = (zI 47) then zbind (f_X7_closeRow M) (fun M_7 => zbind (f_X7_openRow M_7) (fun M_11 => some M_11)) else if x1 = (zI 46) then if (M.1 11 7) = (zI 0) then zbnd (zstI M 11 8 ((M.1 11 8) + (zI 1))) (fun M_89 => some M_89) else zbnd (zstI M 11 9 ((M.1 11 9) + (zI 1))) (fun M_102 => some M_102) else zbnd (((((M.1 11 5) * (zI 4)) + (M.1 11 6)) * (zI 10)) + (M.1 11 7)) (fun x2_42 => if (zI 240) ≤ x2_42 then f_X7_take_62 M else zbind (f_X11_letterOf M x1) (fun r_58 => zchk (zin x2_42 240) (zbnd (zstI M 12 (zix x2_42) r_58) (fun M_61 => f_X7_take_62 M_61))))
set_option maxRecDepth 100000 in
set_option maxHeartbeats 4000000 in
theorem c_X7_take (E : ZEv) (M : ZMem) (x1 : Int32) (K : ZMem → Prop) (hk : zOk (f_X7_take M x1) K) : zCon lyC E yX7_take cX7_take 3 none 1 [zrf E 11, .int x1] M (zRv K) := by
  refine zcon_of (L0 := [(0, zrf E 11), (1, .int x1)]) (by decide) rfl (Nat.le_of_ble_eq_true rfl) (fun G h => ?_)
  have h : zRu lyC E G (zRv K) cX7_take RX7 3 none 1 := h
  unfold f_X7_take at hk
  refine zr_iload_n h dX7_take_0 1 rfl rfl ?_
  refine zr_bipush (v := (zI 47)) h dX7_take_1 (by decide) ?_
  refine zr_icmp_ne (tgt := 17) h dX7_take_3 (by decide) (fun c => ?_) (fun c => ?_)
  · have hk := zOk_t c hk
    refine zr_aload_n h dX7_take_6 0 rfl rfl ?_
    refine zr_callVv h lC_11 zcw_X7_50 (by decide) (c_X7_closeRow E M _ (zOk_bind hk)) rfl rfl (Nat.le_of_ble_eq_true rfl) dX7_take_7 (fun M_7 hk => ?_)
    refine zr_aload_n h dX7_take_10 0 rfl rfl ?_
    refine zr_callVv h lC_11 zcw_X7_34 (by decide) (c_X7_openRow E M_7 _ (zOk_bind hk)) rfl rfl (Nat.le_of_ble_eq_true rfl) dX7_take_11 (fun M_11 hk => ?_)
    refine zr_goto (tgt := 105) h dX7_take_14 (by decide) ?_
    have hk := zOk_some hk
    exact zr_vret h dX7_take_105 ⟨rfl, hk⟩
  · have hk := zOk_f c hk
    refine zr_iload_n h dX7_take_17 1 rfl rfl ?_
    refine zr_bipush (v := (zI 46)) h dX7_take_18 (by decide) ?_
    refine zr_icmp_eq (tgt := 75) h dX7_take_20 (by decide) (fun c => ?_) (fun c => ?_)
    · have hk := zOk_t c hk
      refine zr_aload_n h dX7_take_75 0 rfl rfl ?_
      refine zr_getI h zfo_X7_57 lC_11 rfl dX7_take_76 ?_
      refine zr_if_ne (tgt := 95) h dX7_take_79 (by decide) (fun c => ?_) (fun c => ?_)
      · have hk := zOk_t c hk
        refine zr_aload_n h dX7_take_82 0 rfl rfl ?_
        refine zr_dup h dX7_take_83 rfl ?_
        refine zr_getI h zfo_X7_60 lC_11 rfl dX7_take_84 ?_
        refine zr_iconst (v := (zI 1)) h dX7_take_87 rfl ?_
        refine zr_iadd h dX7_take_88 ?_
        refine zr_putI h zfp_X7_60 lC_11 rfl dX7_take_89 ?_
        refine zr_mem (fun M_89 eM => ?_)
        have hk := zOk_bnd eM hk
        refine zr_goto (tgt := 105) h dX7_take_92 (by decide) ?_
        have hk := zOk_some hk
        exact zr_vret h dX7_take_105 ⟨rfl, hk⟩
      · have hk := zOk_f c hk
        refine zr_aload_n h dX7_take_95 0 rfl rfl ?_
        refine zr_dup h dX7_take_96 rfl ?_
        refine zr_getI h zfo_X7_63 lC_11 rfl dX7_take_97 ?_
        refine zr_iconst (v := (zI 1)) h dX7_take_100 rfl ?_
        refine zr_iadd h dX7_take_101 ?_
        refine zr_putI h zfp_X7_63 lC_11 rfl dX7_take_102 ?_
        refine zr_mem (fun M_102 eM => ?_)
        have hk := zOk_bnd eM hk
        have hk := zOk_some hk
        exact zr_vret h dX7_take_105 ⟨rfl, hk⟩
    · have hk := zOk_f c hk
      refine zr_aload_n h dX7_take_23 0 rfl rfl ?_
      refine zr_getI h zfo_X7_27 lC_11 rfl dX7_take_24 ?_
      refine zr_iconst (v := (zI 4)) h dX7_take_27 rfl ?_
      refine zr_imul h dX7_take_28 ?_
      refine zr_aload_n h dX7_take_29 0 rfl rfl ?_
      refine zr_getI h zfo_X7_31 lC_11 rfl dX7_take_30 ?_
      refine zr_iadd h dX7_take_33 ?_
      refine zr_bipush (v := (zI 10)) h dX7_take_34 (by decide) ?_
      refine zr_imul h dX7_take_36 ?_
      refine zr_aload_n h dX7_take_37 0 rfl rfl ?_
      refine zr_getI h zfo_X7_57 lC_11 rfl dX7_take_38 ?_
      refine zr_iadd h dX7_take_41 ?_
      refine zr_topi (fun x2_42 ex => ?_)
      have hk := zOk_bnd ex hk
      refine zr_istore_n (L' := [(0, zrf E 11), (1, .int x1), (2, .int x2_42)]) h [1, 2, 0] dX7_take_42 rfl (by decide) rfl ?_
      refine zr_iload_n h dX7_take_43 2 rfl rfl ?_
      refine zr_aload_n h dX7_take_44 0 rfl rfl ?_
      refine zr_getR h zfo_X7_9 lC_11 rfl dX7_take_45 ?_
      refine zr_alen h (by decide) lC_12 dX7_take_48 ?_
      refine zr_icmp_ge (tgt := 62) h dX7_take_49 (by decide) (fun c => ?_) (fun c => ?_)
      · have hk := zOk_t c hk
        exact zr_weak h [0] rfl (w_X7_take_62 h M hk)
      · have hk := zOk_f c hk
        refine zr_aload_n h dX7_take_52 0 rfl rfl ?_
        refine zr_getR h zfo_X7_9 lC_11 rfl dX7_take_53 ?_
        refine zr_iload_n h dX7_take_56 2 rfl rfl ?_
        refine zr_iload_n h dX7_take_57 1 rfl rfl ?_
        refine zr_callNp h zcw_X7_66 (by decide) (c_X11_letterOf E M x1 _ (zOk_bind hk)) rfl rfl (Nat.le_of_ble_eq_true rfl) dX7_take_58 (fun r_58 hk => ?_)
        have hb := zOk_chk hk
        have hk := hb.2
        refine zr_iast h lC_12 hb.1 dX7_take_61 ?_
        refine zr_mem (fun M_61 eM => ?_)
        have hk := zOk_bnd eM hk
        exact zr_weak h [0] rfl (w_X7_take_62 h M_61 hk)
theorem dX7_takeFrom_0 : decode cX7_takeFrom 0 = .ok (.aload_n 0, 1) := by decide +kernel
theorem dX7_takeFrom_1 : decode cX7_takeFrom 1 = .ok (.iconst 0, 1) := by decide +kernel
theorem dX7_takeFrom_2 : decode cX7_takeFrom 2 = .ok (.putfield 31, 3) := by decide +kernel
theorem dX7_takeFrom_5 : decode cX7_takeFrom 5 = .ok (.aload_n 0, 1) := by decide +kernel
theorem dX7_takeFrom_6 : decode cX7_takeFrom 6 = .ok (.invokevirtual 34, 3) := by decide +kernel
theorem dX7_takeFrom_9 : decode cX7_takeFrom 9 = .ok (.iconst 0, 1) := by decide +kernel
theorem dX7_takeFrom_10 : decode cX7_takeFrom 10 = .ok (.istore_n 3, 1) := by decide +kernel
theorem dX7_takeFrom_11 : decode cX7_takeFrom 11 = .ok (.iload_n 3, 1) := by decide +kernel
theorem dX7_takeFrom_12 : decode cX7_takeFrom 12 = .ok (.sipush 300, 3) := by decide +kernel
theorem dX7_takeFrom_15 : decode cX7_takeFrom 15 = .ok (.if_icmp .gt 92, 3) := by decide +kernel
theorem dX7_takeFrom_18 : decode cX7_takeFrom 18 = .ok (.aload_n 0, 1) := by decide +kernel
theorem dX7_takeFrom_19 : decode cX7_takeFrom 19 = .ok (.getfield 27, 3) := by decide +kernel
theorem dX7_takeFrom_22 : decode cX7_takeFrom 22 = .ok (.bipush 6, 2) := by decide +kernel
theorem dX7_takeFrom_24 : decode cX7_takeFrom 24 = .ok (.if_icmp .ge 83, 3) := by decide +kernel
theorem dX7_takeFrom_27 : decode cX7_takeFrom 27 = .ok (.aload_n 1, 1) := by decide +kernel
theorem dX7_takeFrom_28 : decode cX7_takeFrom 28 = .ok (.iload_n 3, 1) := by decide +kernel
theorem dX7_takeFrom_29 : decode cX7_takeFrom 29 = .ok (.invokevirtual 37, 3) := by decide +kernel
theorem dX7_takeFrom_32 : decode cX7_takeFrom 32 = .ok (.istore 4, 2) := by decide +kernel
theorem dX7_takeFrom_34 : decode cX7_takeFrom 34 = .ok (.aload_n 0, 1) := by decide +kernel
theorem dX7_takeFrom_35 : decode cX7_takeFrom 35 = .ok (.iload 4, 2) := by decide +kernel
theorem dX7_takeFrom_37 : decode cX7_takeFrom 37 = .ok (.iload_n 2, 1) := by decide +kernel
theorem dX7_takeFrom_38 : decode cX7_takeFrom 38 = .ok (.invokevirtual 43, 3) := by decide +kernel
theorem dX7_takeFrom_41 : decode cX7_takeFrom 41 = .ok (.istore 5, 2) := by decide +kernel
theorem dX7_takeFrom_43 : decode cX7_takeFrom 43 = .ok (.iload 5, 2) := by decide +kernel
theorem dX7_takeFrom_45 : decode cX7_takeFrom 45 = .ok (.ifCond .eq 10, 3) := by decide +kernel
theorem dX7_takeFrom_48 : decode cX7_takeFrom 48 = .ok (.iload_n 3, 1) := by decide +kernel
theorem dX7_takeFrom_49 : decode cX7_takeFrom 49 = .ok (.iload 5, 2) := by decide +kernel
theorem dX7_takeFrom_51 : decode cX7_takeFrom 51 = .ok (.invokestatic 47, 3) := by decide +kernel
theorem dX7_takeFrom_54 : decode cX7_takeFrom 54 = .ok (.ireturn, 1) := by decide +kernel
theorem dX7_takeFrom_55 : decode cX7_takeFrom 55 = .ok (.iload 4, 2) := by decide +kernel
theorem dX7_takeFrom_57 : decode cX7_takeFrom 57 = .ok (.iconst (-1), 1) := by decide +kernel
theorem dX7_takeFrom_58 : decode cX7_takeFrom 58 = .ok (.if_icmp .ne 37, 3) := by decide +kernel
theorem dX7_takeFrom_61 : decode cX7_takeFrom 61 = .ok (.aload_n 0, 1) := by decide +kernel
theorem dX7_takeFrom_62 : decode cX7_takeFrom 62 = .ok (.invokevirtual 50, 3) := by decide +kernel
theorem dX7_takeFrom_65 : decode cX7_takeFrom 65 = .ok (.aload_n 0, 1) := by decide +kernel
theorem dX7_takeFrom_66 : decode cX7_takeFrom 66 = .ok (.getfield 24, 3) := by decide +kernel
theorem dX7_takeFrom_69 : decode cX7_takeFrom 69 = .ok (.aload_n 0, 1) := by decide +kernel
theorem dX7_takeFrom_70 : decode cX7_takeFrom 70 = .ok (.getfield 27, 3) := by decide +kernel
theorem dX7_takeFrom_73 : decode cX7_takeFrom 73 = .ok (.aload_n 0, 1) := by decide +kernel
theorem dX7_takeFrom_74 : decode cX7_takeFrom 74 = .ok (.getfield 31, 3) := by decide +kernel
theorem dX7_takeFrom_77 : decode cX7_takeFrom 77 = .ok (.iastore, 1) := by decide +kernel
theorem dX7_takeFrom_78 : decode cX7_takeFrom 78 = .ok (.aload_n 0, 1) := by decide +kernel
theorem dX7_takeFrom_79 : decode cX7_takeFrom 79 = .ok (.dup, 1) := by decide +kernel
theorem dX7_takeFrom_80 : decode cX7_takeFrom 80 = .ok (.getfield 27, 3) := by decide +kernel
theorem dX7_takeFrom_83 : decode cX7_takeFrom 83 = .ok (.iconst 1, 1) := by decide +kernel
theorem dX7_takeFrom_84 : decode cX7_takeFrom 84 = .ok (.iadd, 1) := by decide +kernel
theorem dX7_takeFrom_85 : decode cX7_takeFrom 85 = .ok (.putfield 27, 3) := by decide +kernel
theorem dX7_takeFrom_88 : decode cX7_takeFrom 88 = .ok (.aload_n 0, 1) := by decide +kernel
theorem dX7_takeFrom_89 : decode cX7_takeFrom 89 = .ok (.getfield 27, 3) := by decide +kernel
theorem dX7_takeFrom_92 : decode cX7_takeFrom 92 = .ok (.iconst 1, 1) := by decide +kernel
theorem dX7_takeFrom_93 : decode cX7_takeFrom 93 = .ok (.isub, 1) := by decide +kernel
theorem dX7_takeFrom_94 : decode cX7_takeFrom 94 = .ok (.ireturn, 1) := by decide +kernel
theorem dX7_takeFrom_95 : decode cX7_takeFrom 95 = .ok (.aload_n 0, 1) := by decide +kernel
theorem dX7_takeFrom_96 : decode cX7_takeFrom 96 = .ok (.iload 4, 2) := by decide +kernel
theorem dX7_takeFrom_98 : decode cX7_takeFrom 98 = .ok (.invokevirtual 53, 3) := by decide +kernel
theorem dX7_takeFrom_101 : decode cX7_takeFrom 101 = .ok (.iinc 3 1, 3) := by decide +kernel
theorem dX7_takeFrom_104 : decode cX7_takeFrom 104 = .ok (.goto (-93), 3) := by decide +kernel
theorem dX7_takeFrom_107 : decode cX7_takeFrom 107 = .ok (.iconst (-1), 1) := by decide +kernel
theorem dX7_takeFrom_108 : decode cX7_takeFrom 108 = .ok (.ireturn, 1) := by decide +kernel
noncomputable def f_X7_takeFrom_L11 (x2 : Int32) (s : (ZMem × Int32)) : Option ((ZMem × Int32) ⊕ ((ZMem) ⊕ (ZMem × Int32))) := if (zI 300) < s.2 then some (.inr (.inl s.1)) else if (zI 6) ≤ (s.1.1 11 5) then some (.inr (.inl s.1)) else zbind (f_X8_byteAt s.1 s.2) (fun r_29 => zbind (f_X7_faultOf s.1 r_29 x2) (fun r_38 => if r_38 = (zI 0) then if r_29 = (zI (-1)) then zbind (f_X7_closeRow s.1) (fun M_62 => zchk (zin (M_62.1 11 5) 6) (zbnd (zstI M_62 16 (zix (M_62.1 11 5)) (M_62.1 11 6)) (fun M_77 => zbnd (zstI M_77 11 5 ((M_77.1 11 5) + (zI 1))) (fun M_85 => some (.inr (.inr (M_85, ((M_85.1 11 5) - (zI 1))))))))) else zbind (f_X7_take s.1 r_29) (fun M_98 => zbnd (s.2 + (zI 1)) (fun x3_101 => some (.inl (M_98, x3_101)))) else zbind (f_X11_faultAt s.1 s.2 r_38) (fun r_51 => some (.inr (.inr (s.1, r_51))))))
set_option maxRecDepth 100000 in
set_option maxHeartbeats 4000000 in
theorem w_X7_takeFrom_L11 {E : ZEv} {G : ZG} {K : (ZMem × Int32) → Prop} (h : zRu lyC E G (zRm K) cX7_takeFrom RX7 6 (some .int) 2) (x2 : Int32) (s : (ZMem × Int32)) (hk : zOk (zloop (f_X7_takeFrom_L11 x2) s) (fun e => zsel e (fun e0 => G e0 107 [] []) (fun f0 => K f0))) : G s.1 11 [(0, zrf E 11), (1, zrf E 1), (2, .int x2), (3, .int s.2)] [] := by
  refine zloop_walk (P := fun s => G s.1 11 [(0, zrf E 11), (1, zrf E 1), (2, .int x2), (3, .int s.2)] []) hk (fun s hk => ?_)
  unfold f_X7_takeFrom_L11 at hk
  refine zr_iload_n h dX7_takeFrom_11 3 rfl rfl ?_
  refine zr_sipush (v := (zI 300)) h dX7_takeFrom_12 (by decide) ?_
  refine zr_icmp_gt (tgt := 107) h dX7_takeFrom_15 (by decide) (fun c => ?_) (fun c => ?_)
  · have hk := zOk_t c hk
    have hk := zOk_some hk
    exact zr_weak h [] rfl hk
  · have hk := zOk_f c hk
    refine zr_aload_n h dX7_takeFrom_18 0 rfl rfl ?_
    refine zr_getI h zfo_X7_27 lC_11 rfl dX7_takeFrom_19 ?_
    refine zr_bipush (v := (zI 6)) h dX7_takeFrom_22 (by decide) ?_
    refine zr_icmp_ge (tgt := 107) h dX7_takeFrom_24 (by decide) (fun c => ?_) (fun c => ?_)
    · have hk := zOk_t c hk
      have hk := zOk_some hk
      exact zr_weak h [] rfl hk
    · have hk := zOk_f c hk
      refine zr_aload_n h dX7_takeFrom_27 1 rfl rfl ?_
      refine zr_iload_n h dX7_takeFrom_28 3 rfl rfl ?_
      refine zr_callVp h lC_1 zcw_X7_37 (by decide) (c_X8_byteAt E s.1 s.2 _ (zOk_bind hk)) rfl rfl (Nat.le_of_ble_eq_true rfl) dX7_takeFrom_29 (fun r_29 hk => ?_)
      refine zr_istore (L' := [(0, zrf E 11), (1, zrf E 1), (2, .int x2), (3, .int s.2), (4, .int r_29)]) h [1, 2, 3, 4, 0] dX7_takeFrom_32 (by decide) rfl ?_
      refine zr_aload_n h dX7_takeFrom_34 0 rfl rfl ?_
      refine zr_iload h dX7_takeFrom_35 4 rfl ?_
      refine zr_iload_n h dX7_takeFrom_37 2 rfl rfl ?_
      refine zr_callVp h lC_11 zcw_X7_43 (by decide) (c_X7_faultOf E s.1 r_29 x2 _ (zOk_bind hk)) rfl rfl (Nat.le_of_ble_eq_true rfl) dX7_takeFrom_38 (fun r_38 hk => ?_)
      refine zr_istore (L' := [(0, zrf E 11), (1, zrf E 1), (2, .int x2), (3, .int s.2), (4, .int r_29), (5, .int r_38)]) h [1, 2, 3, 4, 5, 0] dX7_takeFrom_41 (by decide) rfl ?_
      refine zr_iload h dX7_takeFrom_43 5 rfl ?_
      refine zr_if_eq (tgt := 55) h dX7_takeFrom_45 (by decide) (fun c => ?_) (fun c => ?_)
      · have hk := zOk_t c hk
        refine zr_iload h dX7_takeFrom_55 4 rfl ?_
        refine zr_iconst (v := (zI (-1))) h dX7_takeFrom_57 rfl ?_
        refine zr_icmp_ne (tgt := 95) h dX7_takeFrom_58 (by decide) (fun c => ?_) (fun c => ?_)
        · have hk := zOk_t c hk
          refine zr_aload_n h dX7_takeFrom_61 0 rfl rfl ?_
          refine zr_callVv h lC_11 zcw_X7_50 (by decide) (c_X7_closeRow E s.1 _ (zOk_bind hk)) rfl rfl (Nat.le_of_ble_eq_true rfl) dX7_takeFrom_62 (fun M_62 hk => ?_)
          refine zr_aload_n h dX7_takeFrom_65 0 rfl rfl ?_
          refine zr_getR h zfo_X7_24 lC_11 rfl dX7_takeFrom_66 ?_
          refine zr_aload_n h dX7_takeFrom_69 0 rfl rfl ?_
          refine zr_getI h zfo_X7_27 lC_11 rfl dX7_takeFrom_70 ?_
          refine zr_aload_n h dX7_takeFrom_73 0 rfl rfl ?_
          refine zr_getI h zfo_X7_31 lC_11 rfl dX7_takeFrom_74 ?_
          have hb := zOk_chk hk
          have hk := hb.2
          refine zr_iast h lC_16 hb.1 dX7_takeFrom_77 ?_
          refine zr_mem (fun M_77 eM => ?_)
          have hk := zOk_bnd eM hk
          refine zr_aload_n h dX7_takeFrom_78 0 rfl rfl ?_
          refine zr_dup h dX7_takeFrom_79 rfl ?_
          refine zr_getI h zfo_X7_27 lC_11 rfl dX7_takeFrom_80 ?_
          refine zr_iconst (v := (zI 1)) h dX7_takeFrom_83 rfl ?_
          refine zr_iadd h dX7_takeFrom_84 ?_
          refine zr_putI h zfp_X7_27 lC_11 rfl dX7_takeFrom_85 ?_
          refine zr_mem (fun M_85 eM => ?_)
          have hk := zOk_bnd eM hk
          refine zr_aload_n h dX7_takeFrom_88 0 rfl rfl ?_
          refine zr_getI h zfo_X7_27 lC_11 rfl dX7_takeFrom_89 ?_
          refine zr_iconst (v := (zI 1)) h dX7_takeFrom_92 rfl ?_
          refine zr_isub h dX7_takeFrom_93 ?_
          have hk := zOk_some hk
          exact zr_iret h dX7_takeFrom_94 ⟨_, rfl, hk⟩
        · have hk := zOk_f c hk
          refine zr_aload_n h dX7_takeFrom_95 0 rfl rfl ?_
          refine zr_iload h dX7_takeFrom_96 4 rfl ?_
          refine zr_callVv h lC_11 zcw_X7_53 (by decide) (c_X7_take E s.1 r_29 _ (zOk_bind hk)) rfl rfl (Nat.le_of_ble_eq_true rfl) dX7_takeFrom_98 (fun M_98 hk => ?_)
          obtain ⟨x3_101, ex⟩ : ∃ y : Int32, y = s.2 + (zI 1) := ⟨_, rfl⟩
          have hk := zOk_bnd ex hk
          refine zr_iinc (v := x3_101) (L' := [(0, zrf E 11), (1, zrf E 1), (2, .int x2), (3, .int x3_101)]) h 3 [1, 2, 3, 0] dX7_takeFrom_101 rfl (by rw [ex]; rfl) (by decide) rfl ?_
          refine zr_goto (tgt := 11) h dX7_takeFrom_104 (by decide) ?_
          have hk := zOk_some hk
          exact zr_weak h [0, 1, 2, 3] rfl hk
      · have hk := zOk_f c hk
        refine zr_iload_n h dX7_takeFrom_48 3 rfl rfl ?_
        refine zr_iload h dX7_takeFrom_49 5 rfl ?_
        refine zr_callNp h zcw_X7_47 (by decide) (c_X11_faultAt E s.1 s.2 r_38 _ (zOk_bind hk)) rfl rfl (Nat.le_of_ble_eq_true rfl) dX7_takeFrom_51 (fun r_51 hk => ?_)
        have hk := zOk_some hk
        exact zr_iret h dX7_takeFrom_54 ⟨_, rfl, hk⟩
noncomputable def f_X7_takeFrom (M : ZMem) (x2 : Int32) : Option (ZMem × Int32) := zbnd (zstI M 11 6 (zI 0)) (fun M_2 => zbind (f_X7_openRow M_2) (fun M_6 => zbind (zloop (f_X7_takeFrom_L11 x2) (M_6, (zI 0))) (fun e11 => zsel e11 (fun e11a => some (e11a, (zI (-1)))) (fun e11b => some e11b))))
set_option maxRecDepth 100000 in
set_option maxHeartbeats 4000000 in
theorem c_X7_takeFrom (E : ZEv) (M : ZMem) (x2 : Int32) (K : ZMem × Int32 → Prop) (hk : zOk (f_X7_takeFrom M x2) K) : zCon lyC E yX7_takeFrom cX7_takeFrom 6 (some .int) 2 [zrf E 11, zrf E 1, .int x2] M (zRm K) := by
  refine zcon_of (L0 := [(0, zrf E 11), (1, zrf E 1), (2, .int x2)]) (by decide) rfl (Nat.le_of_ble_eq_true rfl) (fun G h => ?_)
  have h : zRu lyC E G (zRm K) cX7_takeFrom RX7 6 (some .int) 2 := h
  unfold f_X7_takeFrom at hk
  refine zr_aload_n h dX7_takeFrom_0 0 rfl rfl ?_
  refine zr_iconst (v := (zI 0)) h dX7_takeFrom_1 rfl ?_
  refine zr_putI h zfp_X7_31 lC_11 rfl dX7_takeFrom_2 ?_
  refine zr_mem (fun M_2 eM => ?_)
  have hk := zOk_bnd eM hk
  refine zr_aload_n h dX7_takeFrom_5 0 rfl rfl ?_
  refine zr_callVv h lC_11 zcw_X7_34 (by decide) (c_X7_openRow E M_2 _ (zOk_bind hk)) rfl rfl (Nat.le_of_ble_eq_true rfl) dX7_takeFrom_6 (fun M_6 hk => ?_)
  refine zr_iconst (v := (zI 0)) h dX7_takeFrom_9 rfl ?_
  refine zr_istore_n (L' := [(0, zrf E 11), (1, zrf E 1), (2, .int x2), (3, .int (zI 0))]) h [1, 2, 3, 0] dX7_takeFrom_10 rfl (by decide) rfl ?_
  refine w_X7_takeFrom_L11 h x2 (M_6, (zI 0)) (zOk_mono (zOk_bind hk) (fun e11 hk => ?_))
  cases e11 with
  | inl e11a =>
    have hk := zOk_selL hk
    refine zr_iconst (v := (zI (-1))) h dX7_takeFrom_107 rfl ?_
    have hk := zOk_some hk
    exact zr_iret h dX7_takeFrom_108 ⟨_, rfl, hk⟩
  | inr e11b =>
    have hk := zOk_selR hk
    have hk := zOk_some hk
    exact hk
theorem dX7_allRows_0 : decode cX7_allRows 0 = .ok (.iconst 0, 1) := by decide +kernel
theorem dX7_allRows_1 : decode cX7_allRows 1 = .ok (.istore_n 1, 1) := by decide +kernel
theorem dX7_allRows_2 : decode cX7_allRows 2 = .ok (.iconst 0, 1) := by decide +kernel
theorem dX7_allRows_3 : decode cX7_allRows 3 = .ok (.istore_n 2, 1) := by decide +kernel
theorem dX7_allRows_4 : decode cX7_allRows 4 = .ok (.iload_n 2, 1) := by decide +kernel
theorem dX7_allRows_5 : decode cX7_allRows 5 = .ok (.aload_n 0, 1) := by decide +kernel
theorem dX7_allRows_6 : decode cX7_allRows 6 = .ok (.getfield 27, 3) := by decide +kernel
theorem dX7_allRows_9 : decode cX7_allRows 9 = .ok (.if_icmp .ge 17, 3) := by decide +kernel
theorem dX7_allRows_12 : decode cX7_allRows 12 = .ok (.iload_n 1, 1) := by decide +kernel
theorem dX7_allRows_13 : decode cX7_allRows 13 = .ok (.aload_n 0, 1) := by decide +kernel
theorem dX7_allRows_14 : decode cX7_allRows 14 = .ok (.iload_n 2, 1) := by decide +kernel
theorem dX7_allRows_15 : decode cX7_allRows 15 = .ok (.invokevirtual 69, 3) := by decide +kernel
theorem dX7_allRows_18 : decode cX7_allRows 18 = .ok (.iadd, 1) := by decide +kernel
theorem dX7_allRows_19 : decode cX7_allRows 19 = .ok (.istore_n 1, 1) := by decide +kernel
theorem dX7_allRows_20 : decode cX7_allRows 20 = .ok (.iinc 2 1, 3) := by decide +kernel
theorem dX7_allRows_23 : decode cX7_allRows 23 = .ok (.goto (-19), 3) := by decide +kernel
theorem dX7_allRows_26 : decode cX7_allRows 26 = .ok (.iload_n 1, 1) := by decide +kernel
theorem dX7_allRows_27 : decode cX7_allRows 27 = .ok (.ireturn, 1) := by decide +kernel
noncomputable def f_X7_allRows_L4 (M : ZMem) (s : (Int32 × Int32)) : Option ((Int32 × Int32) ⊕ (Int32)) := if (M.1 11 5) ≤ s.2 then some (.inr s.1) else zbind (f_X7_rowsOf M s.2) (fun r_15 => zbnd (s.1 + r_15) (fun x1_19 => zbnd (s.2 + (zI 1)) (fun x2_20 => some (.inl (x1_19, x2_20)))))
set_option maxRecDepth 100000 in
set_option maxHeartbeats 4000000 in
theorem w_X7_allRows_L4 {E : ZEv} {G : ZG} {K : Int32 → Prop} (M : ZMem) (h : zRu lyC E G (zRp M K) cX7_allRows RX7 3 (some .int) 1) (s : (Int32 × Int32)) (hk : zOk (zloop (f_X7_allRows_L4 M) s) (fun e => G M 26 [(1, .int e)] [])) : G M 4 [(0, zrf E 11), (1, .int s.1), (2, .int s.2)] [] := by
  refine zloop_walk (P := fun s => G M 4 [(0, zrf E 11), (1, .int s.1), (2, .int s.2)] []) hk (fun s hk => ?_)
  unfold f_X7_allRows_L4 at hk
  refine zr_iload_n h dX7_allRows_4 2 rfl rfl ?_
  refine zr_aload_n h dX7_allRows_5 0 rfl rfl ?_
  refine zr_getI h zfo_X7_27 lC_11 rfl dX7_allRows_6 ?_
  refine zr_icmp_ge (tgt := 26) h dX7_allRows_9 (by decide) (fun c => ?_) (fun c => ?_)
  · have hk := zOk_t c hk
    have hk := zOk_some hk
    exact zr_weak h [1] rfl hk
  · have hk := zOk_f c hk
    refine zr_iload_n h dX7_allRows_12 1 rfl rfl ?_
    refine zr_aload_n h dX7_allRows_13 0 rfl rfl ?_
    refine zr_iload_n h dX7_allRows_14 2 rfl rfl ?_
    refine zr_callVp h lC_11 zcw_X7_69 (by decide) (c_X7_rowsOf E M s.2 _ (zOk_bind hk)) rfl rfl (Nat.le_of_ble_eq_true rfl) dX7_allRows_15 (fun r_15 hk => ?_)
    refine zr_iadd h dX7_allRows_18 ?_
    refine zr_topi (fun x1_19 ex => ?_)
    have hk := zOk_bnd ex hk
    refine zr_istore_n (L' := [(0, zrf E 11), (1, .int x1_19), (2, .int s.2)]) h [1, 0, 2] dX7_allRows_19 rfl (by decide) rfl ?_
    obtain ⟨x2_20, ex⟩ : ∃ y : Int32, y = s.2 + (zI 1) := ⟨_, rfl⟩
    have hk := zOk_bnd ex hk
    refine zr_iinc (v := x2_20) (L' := [(0, zrf E 11), (1, .int x1_19), (2, .int x2_20)]) h 2 [1, 2, 0] dX7_allRows_20 rfl (by rw [ex]; rfl) (by decide) rfl ?_
    refine zr_goto (tgt := 4) h dX7_allRows_23 (by decide) ?_
    have hk := zOk_some hk
    exact zr_weak h [0, 1, 2] rfl hk
noncomputable def f_X7_allRows (M : ZMem) : Option Int32 := zbind (zloop (f_X7_allRows_L4 M) ((zI 0), (zI 0))) (fun e4 => some e4)
set_option maxRecDepth 100000 in
set_option maxHeartbeats 4000000 in
theorem c_X7_allRows (E : ZEv) (M : ZMem) (K : Int32 → Prop) (hk : zOk (f_X7_allRows M) K) : zCon lyC E yX7_allRows cX7_allRows 3 (some .int) 1 [zrf E 11] M (zRp M K) := by
  refine zcon_of (L0 := [(0, zrf E 11)]) (by decide) rfl (Nat.le_of_ble_eq_true rfl) (fun G h => ?_)
  have h : zRu lyC E G (zRp M K) cX7_allRows RX7 3 (some .int) 1 := h
  unfold f_X7_allRows at hk
  refine zr_iconst (v := (zI 0)) h dX7_allRows_0 rfl ?_
  refine zr_istore_n (L' := [(0, zrf E 11), (1, .int (zI 0))]) h [1, 0] dX7_allRows_1 rfl (by decide) rfl ?_
  refine zr_iconst (v := (zI 0)) h dX7_allRows_2 rfl ?_
  refine zr_istore_n (L' := [(0, zrf E 11), (1, .int (zI 0)), (2, .int (zI 0))]) h [1, 2, 0] dX7_allRows_3 rfl (by decide) rfl ?_
  refine w_X7_allRows_L4 M h ((zI 0), (zI 0)) (zOk_mono (zOk_bind hk) (fun e4 hk => ?_))
  refine zr_iload_n h dX7_allRows_26 0 rfl rfl ?_
  have hk := zOk_some hk
  exact zr_iret h dX7_allRows_27 ⟨rfl, _, rfl, hk⟩
theorem dX8_used_0 : decode cX8_used 0 = .ok (.aload_n 0, 1) := by decide +kernel
theorem dX8_used_1 : decode cX8_used 1 = .ok (.getfield 15, 3) := by decide +kernel
theorem dX8_used_4 : decode cX8_used 4 = .ok (.ireturn, 1) := by decide +kernel
noncomputable def f_X8_used (M : ZMem) : Option Int32 := some (M.1 1 1)
set_option maxRecDepth 100000 in
set_option maxHeartbeats 4000000 in
theorem c_X8_used (E : ZEv) (M : ZMem) (K : Int32 → Prop) (hk : zOk (f_X8_used M) K) : zCon lyC E yX8_used cX8_used 1 (some .int) 0 [zrf E 1] M (zRp M K) := by
  refine zcon_of (L0 := [(0, zrf E 1)]) (by decide) rfl (Nat.le_of_ble_eq_true rfl) (fun G h => ?_)
  have h : zRu lyC E G (zRp M K) cX8_used RX8 1 (some .int) 0 := h
  unfold f_X8_used at hk
  refine zr_aload_n h dX8_used_0 0 rfl rfl ?_
  refine zr_getI h zfo_X8_15 lC_1 rfl dX8_used_1 ?_
  have hk := zOk_some hk
  exact zr_iret h dX8_used_4 ⟨rfl, _, rfl, hk⟩
theorem dX8_put_0 : decode cX8_put 0 = .ok (.bipush 24, 2) := by decide +kernel
theorem dX8_put_2 : decode cX8_put 2 = .ok (.istore_n 2, 1) := by decide +kernel
theorem dX8_put_3 : decode cX8_put 3 = .ok (.iload_n 2, 1) := by decide +kernel
theorem dX8_put_4 : decode cX8_put 4 = .ok (.ifCond .lt 45, 3) := by decide +kernel
theorem dX8_put_7 : decode cX8_put 7 = .ok (.aload_n 0, 1) := by decide +kernel
theorem dX8_put_8 : decode cX8_put 8 = .ok (.getfield 15, 3) := by decide +kernel
theorem dX8_put_11 : decode cX8_put 11 = .ok (.sipush 300, 3) := by decide +kernel
theorem dX8_put_14 : decode cX8_put 14 = .ok (.if_icmp .ge 35, 3) := by decide +kernel
theorem dX8_put_17 : decode cX8_put 17 = .ok (.aload_n 0, 1) := by decide +kernel
theorem dX8_put_18 : decode cX8_put 18 = .ok (.getfield 9, 3) := by decide +kernel
theorem dX8_put_21 : decode cX8_put 21 = .ok (.aload_n 0, 1) := by decide +kernel
theorem dX8_put_22 : decode cX8_put 22 = .ok (.getfield 15, 3) := by decide +kernel
theorem dX8_put_25 : decode cX8_put 25 = .ok (.iload_n 1, 1) := by decide +kernel
theorem dX8_put_26 : decode cX8_put 26 = .ok (.iload_n 2, 1) := by decide +kernel
theorem dX8_put_27 : decode cX8_put 27 = .ok (.iushr, 1) := by decide +kernel
theorem dX8_put_28 : decode cX8_put 28 = .ok (.sipush 255, 3) := by decide +kernel
theorem dX8_put_31 : decode cX8_put 31 = .ok (.iand, 1) := by decide +kernel
theorem dX8_put_32 : decode cX8_put 32 = .ok (.iastore, 1) := by decide +kernel
theorem dX8_put_33 : decode cX8_put 33 = .ok (.aload_n 0, 1) := by decide +kernel
theorem dX8_put_34 : decode cX8_put 34 = .ok (.dup, 1) := by decide +kernel
theorem dX8_put_35 : decode cX8_put 35 = .ok (.getfield 15, 3) := by decide +kernel
theorem dX8_put_38 : decode cX8_put 38 = .ok (.iconst 1, 1) := by decide +kernel
theorem dX8_put_39 : decode cX8_put 39 = .ok (.iadd, 1) := by decide +kernel
theorem dX8_put_40 : decode cX8_put 40 = .ok (.putfield 15, 3) := by decide +kernel
theorem dX8_put_43 : decode cX8_put 43 = .ok (.iinc 2 (-8), 3) := by decide +kernel
theorem dX8_put_46 : decode cX8_put 46 = .ok (.goto (-43), 3) := by decide +kernel
theorem dX8_put_49 : decode cX8_put 49 = .ok (.return_, 1) := by decide +kernel
noncomputable def f_X8_put_L3 (x1 : Int32) (s : (ZMem × Int32)) : Option ((ZMem × Int32) ⊕ (ZMem)) := if s.2 < (zI 0) then some (.inr s.1) else if (zI 300) ≤ (s.1.1 1 1) then some (.inr s.1) else zchk (zin (s.1.1 1 1) 300) (zbnd (zstI s.1 2 (zix (s.1.1 1 1)) ((zushr x1 s.2) &&& (zI 255))) (fun M_32 => zbnd (zstI M_32 1 1 ((M_32.1 1 1) + (zI 1))) (fun M_40 => zbnd (s.2 + (zI (-8))) (fun x2_43 => some (.inl (M_40, x2_43))))))
set_option maxRecDepth 100000 in
set_option maxHeartbeats 4000000 in
theorem w_X8_put_L3 {E : ZEv} {G : ZG} {K : ZMem → Prop} (h : zRu lyC E G (zRv K) cX8_put RX8 3 none 0) (x1 : Int32) (s : (ZMem × Int32)) (hk : zOk (zloop (f_X8_put_L3 x1) s) (fun e => G e 49 [] [])) : G s.1 3 [(0, zrf E 1), (1, .int x1), (2, .int s.2)] [] := by
  refine zloop_walk (P := fun s => G s.1 3 [(0, zrf E 1), (1, .int x1), (2, .int s.2)] []) hk (fun s hk => ?_)
  unfold f_X8_put_L3 at hk
  refine zr_iload_n h dX8_put_3 2 rfl rfl ?_
  refine zr_if_lt (tgt := 49) h dX8_put_4 (by decide) (fun c => ?_) (fun c => ?_)
  · have hk := zOk_t c hk
    have hk := zOk_some hk
    exact zr_weak h [] rfl hk
  · have hk := zOk_f c hk
    refine zr_aload_n h dX8_put_7 0 rfl rfl ?_
    refine zr_getI h zfo_X8_15 lC_1 rfl dX8_put_8 ?_
    refine zr_sipush (v := (zI 300)) h dX8_put_11 (by decide) ?_
    refine zr_icmp_ge (tgt := 49) h dX8_put_14 (by decide) (fun c => ?_) (fun c => ?_)
    · have hk := zOk_t c hk
      have hk := zOk_some hk
      exact zr_weak h [] rfl hk
    · have hk := zOk_f c hk
      refine zr_aload_n h dX8_put_17 0 rfl rfl ?_
      refine zr_getR h zfo_X8_9 lC_1 rfl dX8_put_18 ?_
      refine zr_aload_n h dX8_put_21 0 rfl rfl ?_
      refine zr_getI h zfo_X8_15 lC_1 rfl dX8_put_22 ?_
      refine zr_iload_n h dX8_put_25 1 rfl rfl ?_
      refine zr_iload_n h dX8_put_26 2 rfl rfl ?_
      refine zr_iushr h dX8_put_27 ?_
      refine zr_sipush (v := (zI 255)) h dX8_put_28 (by decide) ?_
      refine zr_iand h dX8_put_31 ?_
      have hb := zOk_chk hk
      have hk := hb.2
      refine zr_iast h lC_2 hb.1 dX8_put_32 ?_
      refine zr_mem (fun M_32 eM => ?_)
      have hk := zOk_bnd eM hk
      refine zr_aload_n h dX8_put_33 0 rfl rfl ?_
      refine zr_dup h dX8_put_34 rfl ?_
      refine zr_getI h zfo_X8_15 lC_1 rfl dX8_put_35 ?_
      refine zr_iconst (v := (zI 1)) h dX8_put_38 rfl ?_
      refine zr_iadd h dX8_put_39 ?_
      refine zr_putI h zfp_X8_15 lC_1 rfl dX8_put_40 ?_
      refine zr_mem (fun M_40 eM => ?_)
      have hk := zOk_bnd eM hk
      obtain ⟨x2_43, ex⟩ : ∃ y : Int32, y = s.2 + (zI (-8)) := ⟨_, rfl⟩
      have hk := zOk_bnd ex hk
      refine zr_iinc (v := x2_43) (L' := [(0, zrf E 1), (1, .int x1), (2, .int x2_43)]) h 2 [1, 2, 0] dX8_put_43 rfl (by rw [ex]; rfl) (by decide) rfl ?_
      refine zr_goto (tgt := 3) h dX8_put_46 (by decide) ?_
      have hk := zOk_some hk
      exact zr_weak h [0, 1, 2] rfl hk
noncomputable def f_X8_put (M : ZMem) (x1 : Int32) : Option ZMem := zbind (zloop (f_X8_put_L3 x1) (M, (zI 24))) (fun e3 => some e3)
set_option maxRecDepth 100000 in
set_option maxHeartbeats 4000000 in
theorem c_X8_put (E : ZEv) (M : ZMem) (x1 : Int32) (K : ZMem → Prop) (hk : zOk (f_X8_put M x1) K) : zCon lyC E yX8_put cX8_put 3 none 0 [zrf E 1, .int x1] M (zRv K) := by
  refine zcon_of (L0 := [(0, zrf E 1), (1, .int x1)]) (by decide) rfl (Nat.le_of_ble_eq_true rfl) (fun G h => ?_)
  have h : zRu lyC E G (zRv K) cX8_put RX8 3 none 0 := h
  unfold f_X8_put at hk
  refine zr_bipush (v := (zI 24)) h dX8_put_0 (by decide) ?_
  refine zr_istore_n (L' := [(0, zrf E 1), (1, .int x1), (2, .int (zI 24))]) h [1, 2, 0] dX8_put_2 rfl (by decide) rfl ?_
  refine w_X8_put_L3 h x1 (M, (zI 24)) (zOk_mono (zOk_bind hk) (fun e3 hk => ?_))
  have hk := zOk_some hk
  exact zr_vret h dX8_put_49 ⟨rfl, hk⟩
theorem dX8_cutTo_0 : decode cX8_cutTo 0 = .ok (.iload_n 1, 1) := by decide +kernel
theorem dX8_cutTo_1 : decode cX8_cutTo 1 = .ok (.ifCond .lt 11, 3) := by decide +kernel
theorem dX8_cutTo_4 : decode cX8_cutTo 4 = .ok (.iload_n 1, 1) := by decide +kernel
theorem dX8_cutTo_5 : decode cX8_cutTo 5 = .ok (.aload_n 0, 1) := by decide +kernel
theorem dX8_cutTo_6 : decode cX8_cutTo 6 = .ok (.getfield 15, 3) := by decide +kernel
theorem dX8_cutTo_9 : decode cX8_cutTo 9 = .ok (.if_icmp .le 5, 3) := by decide +kernel
theorem dX8_cutTo_12 : decode cX8_cutTo 12 = .ok (.iconst 0, 1) := by decide +kernel
theorem dX8_cutTo_13 : decode cX8_cutTo 13 = .ok (.ireturn, 1) := by decide +kernel
theorem dX8_cutTo_14 : decode cX8_cutTo 14 = .ok (.aload_n 0, 1) := by decide +kernel
theorem dX8_cutTo_15 : decode cX8_cutTo 15 = .ok (.iload_n 1, 1) := by decide +kernel
theorem dX8_cutTo_16 : decode cX8_cutTo 16 = .ok (.putfield 15, 3) := by decide +kernel
theorem dX8_cutTo_19 : decode cX8_cutTo 19 = .ok (.iconst 1, 1) := by decide +kernel
theorem dX8_cutTo_20 : decode cX8_cutTo 20 = .ok (.ireturn, 1) := by decide +kernel
noncomputable def f_X8_cutTo (M : ZMem) (x1 : Int32) : Option (ZMem × Int32) := if x1 < (zI 0) then some (M, (zI 0)) else if x1 ≤ (M.1 1 1) then zbnd (zstI M 1 1 x1) (fun M_16 => some (M_16, (zI 1))) else some (M, (zI 0))
set_option maxRecDepth 100000 in
set_option maxHeartbeats 4000000 in
theorem c_X8_cutTo (E : ZEv) (M : ZMem) (x1 : Int32) (K : ZMem × Int32 → Prop) (hk : zOk (f_X8_cutTo M x1) K) : zCon lyC E yX8_cutTo cX8_cutTo 2 (some .boolean) 0 [zrf E 1, .int x1] M (zRm K) := by
  refine zcon_of (L0 := [(0, zrf E 1), (1, .int x1)]) (by decide) rfl (Nat.le_of_ble_eq_true rfl) (fun G h => ?_)
  have h : zRu lyC E G (zRm K) cX8_cutTo RX8 2 (some .boolean) 0 := h
  unfold f_X8_cutTo at hk
  refine zr_iload_n h dX8_cutTo_0 1 rfl rfl ?_
  refine zr_if_lt (tgt := 12) h dX8_cutTo_1 (by decide) (fun c => ?_) (fun c => ?_)
  · have hk := zOk_t c hk
    refine zr_iconst (v := (zI 0)) h dX8_cutTo_12 rfl ?_
    have hk := zOk_some hk
    exact zr_zret h dX8_cutTo_13 (by decide) ⟨_, rfl, hk⟩
  · have hk := zOk_f c hk
    refine zr_iload_n h dX8_cutTo_4 1 rfl rfl ?_
    refine zr_aload_n h dX8_cutTo_5 0 rfl rfl ?_
    refine zr_getI h zfo_X8_15 lC_1 rfl dX8_cutTo_6 ?_
    refine zr_icmp_le (tgt := 14) h dX8_cutTo_9 (by decide) (fun c => ?_) (fun c => ?_)
    · have hk := zOk_t c hk
      refine zr_aload_n h dX8_cutTo_14 0 rfl rfl ?_
      refine zr_iload_n h dX8_cutTo_15 1 rfl rfl ?_
      refine zr_putI h zfp_X8_15 lC_1 rfl dX8_cutTo_16 ?_
      refine zr_mem (fun M_16 eM => ?_)
      have hk := zOk_bnd eM hk
      refine zr_iconst (v := (zI 1)) h dX8_cutTo_19 rfl ?_
      have hk := zOk_some hk
      exact zr_zret h dX8_cutTo_20 (by decide) ⟨_, rfl, hk⟩
    · have hk := zOk_f c hk
      refine zr_iconst (v := (zI 0)) h dX8_cutTo_12 rfl ?_
      have hk := zOk_some hk
      exact zr_zret h dX8_cutTo_13 (by decide) ⟨_, rfl, hk⟩
