/-! ===== calls that ask of pieces: stands, ahead ===== deps: 97.zo.ask 97.zm.guess -/
theorem zsum_blk (n : Nat) (f : Nat → Nat) : ∀ m, zsum (n * m) f = zsum m (fun q => zsum n (fun k => f (n * q + k)))
  | 0 => by rw [Nat.mul_zero]; rfl
  | m + 1 => by
    rw [Nat.mul_succ, zsum_app, zsum_blk n f m, zsum_s]
theorem zsum_bg (s : ZS) (g : Nat → Nat) : ∀ Q, zsum (zbg s Q) g = zsum Q (fun q => zsum (zRL s q) (fun k => g (zbg s q + k)))
  | 0 => rfl
  | Q + 1 => by
    rw [zbg_s, zsum_app, zsum_bg s g Q, zsum_s]
theorem zcom1 {rl : Nat → Nat} {rs : Nat → Nat → Nat} (hk : okRw rl rs) (pc : Nat → Nat) : zcom rl rs pc 1 = zsum 24 (fun q => zsum (rl q) (fun k => zb (rs q k = pc 0))) := by
  unfold zcom
  rw [show 240 = 10 * 24 from rfl, zsum_blk]
  refine zsum_cg (fun q hq => ?_)
  have h10 := hk.1 q
  rw [zsum_ext (m := rl q) h10 (fun k h1 h2 => zb_f (fun hh => ?_))]
  · refine zsum_cg (fun k hkk => zb_iff ?_)
    rw [zoc_1, show (10 * q + k) % 10 = k by omega, show (10 * q + k) / 10 = q by omega]
    exact ⟨fun hh => hh.2, fun hh => ⟨hkk, hh⟩⟩
  · rw [zoc_1, show (10 * q + k) % 10 = k by omega, show (10 * q + k) / 10 = q by omega] at hh
    omega
theorem r_standsAll {M : ZMem} {F : Nat} {s : ZS} {rs : Nat → Nat → Nat} (hs : okS F s) (hk : okRw (zRL s) rs) (h : rowsH s rs M) {v : Nat} (hv : v < 20) : zOk (zloop (f_X12_stands__L62 M (zI v)) (zI 0, zI 0)) (fun e => e = zI (zcom (zRL s) rs (fun _ => v) 1)) := by
  have b24 := zrx_le s 24
  have hb : zbg s 24 ≤ 240 := zbg_le hs 24
  have hbg : M.1 13 (zrx s 24) = zI (zbg s 24) := h.2.1 24 (Nat.le_refl _)
  refine zOk_forQ (fun i x => x.1 = zI (zsum i (fun k => zb (M.1 14 k = zI v)) : Int) ∧ x.2 = zI i) (zbg s 24) ?_ ?_ ⟨rfl, rfl⟩
  · rintro i ⟨x1, x2⟩ hi ⟨e1, e2⟩ Q hQ _
    dsimp only at e1 e2
    unfold f_X12_stands__L62
    dsimp only
    rw [h.1, zI_inI (by omega) (by omega) (by omega), zb_chk, zI_ix (by omega) (by omega), Int.toNat_natCast, hbg, e1, e2, if_neg (by simp (disch := omega) only [zk_bind, zk_chk, zk_bnd, zk_some, zlp_l, zlp_r, zb_some, zb_bnd, zI_add, zI_sub, zI_mul, zI_neg, zI_le, zI_lt, zI_eq, zI_ix, zI_inI, Int.toNat_natCast, Int.toNat_add, Int.toNat_mul, true_and, and_true]; omega), zI_inI (by omega) (by omega) (by omega), zb_chk, zI_ix (by omega) (by omega), Int.toNat_natCast, zb_sel (fun w => f_X12_stands__94_L62 M (zI v) (zI i) (zI (zsum i (fun k => zb (M.1 14 k = zI v)) : Int)) w)]
    unfold f_X12_stands__94_L62
    rw [r_truth, zb_some, zk_bnd, zk_bnd, zk_some, zI_add]
    refine hQ _ ⟨?_, zI_inj (by omega)⟩
    dsimp only
    rw [zsum_s]
    by_cases hz : M.1 14 i = zI v
    · rw [zb_t hz, if_neg (by decide), zI_add]
      rfl
    · rw [zb_f hz, if_pos (by decide), zI_add]
      rfl
  · rintro ⟨x1, x2⟩ ⟨e1, e2⟩
    dsimp only at e1 e2
    refine ⟨x1, ?_, ?_⟩
    · unfold f_X12_stands__L62
      dsimp only
      rw [h.1, zI_inI (by omega) (by omega) (by omega), zb_chk, zI_ix (by omega) (by omega), Int.toNat_natCast, hbg, e2, if_pos (by simp (disch := omega) only [zk_bind, zk_chk, zk_bnd, zk_some, zlp_l, zlp_r, zb_some, zb_bnd, zI_add, zI_sub, zI_mul, zI_neg, zI_le, zI_lt, zI_eq, zI_ix, zI_inI, Int.toNat_natCast, Int.toNat_add, Int.toNat_mul, true_and, and_true]; omega)]
    · rw [e1, zcom1 hk, zsum_bg]
      refine zI_inj ?_
      rw [zsum_cg (fun q hq => zsum_cg (fun k hkk => zb_iff (?_ : _ ↔ rs q k = v)))]
      rw [h.2.2 q k hq hkk]
      have := hk.2 q k hkk
      simp (disch := omega) only [zk_bind, zk_chk, zk_bnd, zk_some, zlp_l, zlp_r, zb_some, zb_bnd, zI_add, zI_sub, zI_mul, zI_neg, zI_le, zI_lt, zI_eq, zI_ix, zI_inI, Int.toNat_natCast, Int.toNat_add, Int.toNat_mul, true_and, and_true]
      omega
theorem c_holds {M : ZMem} {l : List (Nat × Nat)} (ho : okL l) (hl : lexW l M) {w v : Nat} (hw : w < l.length) (hv : v < 20) : f_X2_holds M (zI w) (zI v) = some (zI (zb (∃ i, i < zN l w ∧ zSg l w i = v))) := by
  have hn := (okL_W ho hw).2.2.1
  unfold f_X2_holds
  refine zOk_is ?_
  rw [zk_bind]
  refine zOk_forQ (fun i s => s = zI i ∧ ∀ t, t < i → ¬ zSg l w t = v) (zN l w) ?_ ?_ ⟨rfl, fun t ht => absurd ht (Nat.not_lt_zero t)⟩
  · rintro i s hi ⟨rfl, e2⟩ Q hQ hE
    have hsg := (zSg_rng ho hw hi).1
    unfold f_X2_holds_L2
    rw [c_lengthOf2 ho hl hw, zb_some, if_neg (by simp (disch := omega) only [zk_bind, zk_chk, zk_bnd, zk_some, zlp_l, zlp_r, zb_some, zb_bnd, zI_add, zI_sub, zI_mul, zI_neg, zI_le, zI_lt, zI_eq, zI_ix, zI_inI, Int.toNat_natCast, Int.toNat_add, Int.toNat_mul, true_and, and_true]; omega), c_sign2 ho hl hw hi, zb_some]
    by_cases hz : zSg l w i = v
    · rw [if_pos (by rw [hz]), zk_some]
      refine hE _ ?_
      show zOk (some (zI 1)) _
      rw [zk_some, zb_t ⟨i, hi, hz⟩]
      rfl
    · rw [if_neg (by simp (disch := omega) only [zk_bind, zk_chk, zk_bnd, zk_some, zlp_l, zlp_r, zb_some, zb_bnd, zI_add, zI_sub, zI_mul, zI_neg, zI_le, zI_lt, zI_eq, zI_ix, zI_inI, Int.toNat_natCast, Int.toNat_add, Int.toNat_mul, true_and, and_true]; omega), zk_bnd, zk_some, zI_add]
      refine hQ _ ⟨zI_inj (by omega), fun t ht => ?_⟩
      by_cases hti : t = i
      · rw [hti]; exact hz
      · exact e2 t (by omega)
  · rintro s ⟨rfl, e2⟩
    refine ⟨.inl (), ?_, ?_⟩
    · unfold f_X2_holds_L2
      rw [c_lengthOf2 ho hl hw, zb_some, if_pos (by simp (disch := omega) only [zk_bind, zk_chk, zk_bnd, zk_some, zlp_l, zlp_r, zb_some, zb_bnd, zI_add, zI_sub, zI_mul, zI_neg, zI_le, zI_lt, zI_eq, zI_ix, zI_inI, Int.toNat_natCast, Int.toNat_add, Int.toNat_mul, true_and, and_true]; omega)]
    · show zOk (some (zI 0)) _
      rw [zk_some, zb_f (fun ⟨t, h1, h2⟩ => e2 t h1 h2)]
      rfl
noncomputable def zstn (l : List (Nat × Nat)) (v b : Nat) : Nat := zsum l.length (fun w => if b = 3 then zb (∃ i, i < zN l w ∧ zSg l w i = v) else zb ((if b = 1 then zfrk (zK l w) else zlrk (zK l w)) = v) * (zE l w).2)
theorem c_timesOf {M : ZMem} {l : List (Nat × Nat)} (ho : okL l) (hl : lexW l M) {v b : Nat} (hv : v < 20) (hb : 1 ≤ b ∧ b ≤ 3) : f_X2_timesOf M (zI v) (zI b) = some (zI (zstn l v b)) := by
  have hW := ho.1
  unfold f_X2_timesOf
  refine zOk_is ?_
  rw [if_neg (by simp (disch := omega) only [zk_bind, zk_chk, zk_bnd, zk_some, zlp_l, zlp_r, zb_some, zb_bnd, zI_add, zI_sub, zI_mul, zI_neg, zI_le, zI_lt, zI_eq, zI_ix, zI_inI, Int.toNat_natCast, Int.toNat_add, Int.toNat_mul, true_and, and_true]; omega), if_pos (by simp (disch := omega) only [zk_bind, zk_chk, zk_bnd, zk_some, zlp_l, zlp_r, zb_some, zb_bnd, zI_add, zI_sub, zI_mul, zI_neg, zI_le, zI_lt, zI_eq, zI_ix, zI_inI, Int.toNat_natCast, Int.toNat_add, Int.toNat_mul, true_and, and_true]; omega), zk_bind]
  refine zOk_forQ (fun i s => s.1 = zI (zsum i (fun w => if b = 3 then zb (∃ i, i < zN l w ∧ zSg l w i = v) else zb ((if b = 1 then zfrk (zK l w) else zlrk (zK l w)) = v) * (zE l w).2) : Int) ∧ s.2 = zI i) l.length ?_ ?_ ⟨rfl, rfl⟩
  · rintro i ⟨x1, x2⟩ hi ⟨e1, e2⟩ Q hQ _
    dsimp only at e1 e2
    have hn := okL_W ho hi
    have hn7 := hn.2.2.1
    unfold f_X2_timesOf_L17
    dsimp only
    rw [hl.1.1, e1, e2, if_neg (by simp (disch := omega) only [zk_bind, zk_chk, zk_bnd, zk_some, zlp_l, zlp_r, zb_some, zb_bnd, zI_add, zI_sub, zI_mul, zI_neg, zI_le, zI_lt, zI_eq, zI_ix, zI_inI, Int.toNat_natCast, Int.toNat_add, Int.toNat_mul, true_and, and_true]; omega)]
    by_cases b3 : b = 3
    · rw [if_pos (by rw [b3]; rfl), c_holds ho hl hi hv, zb_some]
      by_cases hz : ∃ t, t < zN l i ∧ zSg l i t = v
      · rw [if_neg (fun hh => zb_0.mp hh hz), zk_bnd, zk_bnd, zk_some, zI_add, zI_add]
        refine hQ _ ⟨?_, zI_inj (by omega)⟩
        dsimp only
        rw [zsum_s, if_pos b3, zb_t hz]
        rfl
      · rw [if_pos (zb_0.mpr hz), zk_bnd, zk_bnd, zk_some, zI_add, zI_add]
        refine hQ _ ⟨?_, zI_inj (by omega)⟩
        dsimp only
        rw [zsum_s, if_pos b3, zb_f hz]
        rfl
    · have key : ∀ t, t < zN l i → zSg l i t = (if b = 1 then zfrk (zK l i) else zlrk (zK l i)) → zOk (f_X2_timesOf_73_L17 M (zI v) (zI b) (zI (zsum i (fun w => if b = 3 then zb (∃ i, i < zN l w ∧ zSg l w i = v) else zb ((if b = 1 then zfrk (zK l w) else zlrk (zK l w)) = v) * (zE l w).2) : Int)) (zI i) (zI i) (zI t)) Q := by
        intro t ht hts
        have hsg := (zSg_rng ho hi ht).1
        unfold f_X2_timesOf_73_L17
        rw [c_sign2 ho hl hi ht, zb_some]
        by_cases hz : zSg l i t = v
        · rw [if_pos (by rw [hz]), zI_inI (by omega) (by omega) (by omega), zb_chk, zk_bnd, zk_bnd, zk_some, zI_ix (by omega) (by omega), Int.toNat_natCast, (hl.1.2 i hi).2, zI_add, zI_add]
          refine hQ _ ⟨?_, zI_inj (by omega)⟩
          dsimp only
          rw [zsum_s, if_neg b3, ← hts, zb_t hz, Nat.one_mul]
          rfl
        · rw [if_neg (by simp (disch := omega) only [zk_bind, zk_chk, zk_bnd, zk_some, zlp_l, zlp_r, zb_some, zb_bnd, zI_add, zI_sub, zI_mul, zI_neg, zI_le, zI_lt, zI_eq, zI_ix, zI_inI, Int.toNat_natCast, Int.toNat_add, Int.toNat_mul, true_and, and_true]; omega), zk_bnd, zk_some, zI_add]
          refine hQ _ ⟨?_, zI_inj (by omega)⟩
          dsimp only
          rw [zsum_s, if_neg b3, ← hts, zb_f hz, Nat.zero_mul]
          rfl
      rw [if_neg (by simp (disch := omega) only [zk_bind, zk_chk, zk_bnd, zk_some, zlp_l, zlp_r, zb_some, zb_bnd, zI_add, zI_sub, zI_mul, zI_neg, zI_le, zI_lt, zI_eq, zI_ix, zI_inI, Int.toNat_natCast, Int.toNat_add, Int.toNat_mul, true_and, and_true]; omega)]
      by_cases b1 : b = 1
      · rw [if_pos (by rw [b1]; rfl)]
        exact key 0 (by omega) (by rw [if_pos b1]; rfl)
      · rw [if_neg (by simp (disch := omega) only [zk_bind, zk_chk, zk_bnd, zk_some, zlp_l, zlp_r, zb_some, zb_bnd, zI_add, zI_sub, zI_mul, zI_neg, zI_le, zI_lt, zI_eq, zI_ix, zI_inI, Int.toNat_natCast, Int.toNat_add, Int.toNat_mul, true_and, and_true]; omega), zI_inI (by omega) (by omega) (by omega), zb_chk, zI_ix (by omega) (by omega), Int.toNat_natCast, hl.2 i hi, zI_sub, show ((zN l i : Nat) : Int) - 1 = ((zN l i - 1 : Nat) : Int) by omega]
        exact key (zN l i - 1) (by omega) (by rw [if_neg b1]; rfl)
  · rintro ⟨x1, x2⟩ ⟨e1, e2⟩
    dsimp only at e1 e2
    refine ⟨x1, ?_, ?_⟩
    · unfold f_X2_timesOf_L17
      dsimp only
      rw [hl.1.1, e2, if_pos (by simp (disch := omega) only [zk_bind, zk_chk, zk_bnd, zk_some, zlp_l, zlp_r, zb_some, zb_bnd, zI_add, zI_sub, zI_mul, zI_neg, zI_le, zI_lt, zI_eq, zI_ix, zI_inI, Int.toNat_natCast, Int.toNat_add, Int.toNat_mul, true_and, and_true]; omega)]
    · rw [zk_some, e1]
      rfl
theorem r_standsIn {M : ZMem} {l : List (Nat × Nat)} (ho : okL l) (hl : lexR l M) {v : Nat} (hv : v < 20) : f_X12_standsIn M (zI v) = some (zI (zstn l v 3)) := by
  have hW := ho.1
  unfold f_X12_standsIn
  refine zOk_is ?_
  rw [zk_bind]
  refine zOk_forQ (fun i s => s.1 = zI (zsum i (fun w => zb (∃ i, i < zN l w ∧ zSg l w i = v)) : Int) ∧ s.2 = zI i) l.length ?_ ?_ ⟨rfl, rfl⟩
  · rintro i ⟨x1, x2⟩ hi ⟨e1, e2⟩ Q hQ _
    dsimp only at e1 e2
    have hn := okL_W ho hi
    have hn7 := hn.2.2.1
    have hw := lexR_w hl hi
    unfold f_X12_standsIn_L4
    dsimp only
    rw [hl.1, e1, e2, if_neg (by simp (disch := omega) only [zk_bind, zk_chk, zk_bnd, zk_some, zlp_l, zlp_r, zb_some, zb_bnd, zI_add, zI_sub, zI_mul, zI_neg, zI_le, zI_lt, zI_eq, zI_ix, zI_inI, Int.toNat_natCast, Int.toNat_add, Int.toNat_mul, true_and, and_true]; omega), zk_bind]
    refine zOk_forQ (fun t s => s.1 = zI (zb (∃ j, j < t ∧ zSg l i j = v) : Int) ∧ s.2 = zI t) (zN l i) ?_ ?_ ⟨by rw [zb_f (fun ⟨j, hj, _⟩ => absurd hj (Nat.not_lt_zero j))]; rfl, rfl⟩
    · rintro t ⟨y1, y2⟩ ht ⟨d1, d2⟩ Q' hQ' _
      dsimp only at d1 d2
      have hsg := zSg_rng ho hi ht
      have hks := zks_lt (key := zK l i) (show t < 7 by omega)
      unfold f_X12_standsIn_L18
      dsimp only
      rw [d1, d2, zI_inI (n := 241) (by omega) (by omega) (by omega), zb_chk, zI_ix (by omega) (by omega), Int.toNat_natCast, hw.1, if_neg (by simp (disch := omega) only [zk_bind, zk_chk, zk_bnd, zk_some, zlp_l, zlp_r, zb_some, zb_bnd, zI_add, zI_sub, zI_mul, zI_neg, zI_le, zI_lt, zI_eq, zI_ix, zI_inI, Int.toNat_natCast, Int.toNat_add, Int.toNat_mul, true_and, and_true]; omega)]
      by_cases hz : ∃ j, j < t ∧ zSg l i j = v
      · rw [if_neg (fun hh => zb_0.mp hh hz), zk_bnd, zk_some, zI_add]
        refine hQ' _ ⟨?_, zI_inj (by omega)⟩
        dsimp only
        obtain ⟨j, j1, j2⟩ := hz
        rw [zb_t ⟨j, by omega, j2⟩]
        rfl
      · rw [if_pos (zb_0.mpr hz), zI_mul, zI_add, zI_inI (by omega) (by omega) (by omega), zb_chk, zI_ix (by omega) (by omega), show (7 * (i : Int) + (t : Int)).toNat = 7 * i + t by omega, hw.2 t (by omega), ← hks, hsg.2]
        by_cases hz2 : zSg l i t = v
        · rw [if_pos (by rw [hz2]), zk_bnd, zk_some, zI_add]
          refine hQ' _ ⟨?_, zI_inj (by omega)⟩
          dsimp only
          rw [zb_t ⟨t, by omega, hz2⟩]
          rfl
        · have := hsg.1
          rw [if_neg (by simp (disch := omega) only [zk_bind, zk_chk, zk_bnd, zk_some, zlp_l, zlp_r, zb_some, zb_bnd, zI_add, zI_sub, zI_mul, zI_neg, zI_le, zI_lt, zI_eq, zI_ix, zI_inI, Int.toNat_natCast, Int.toNat_add, Int.toNat_mul, true_and, and_true]; omega), zk_bnd, zk_some, zI_add]
          refine hQ' _ ⟨?_, zI_inj (by omega)⟩
          dsimp only
          rw [zb_f (fun ⟨j, j1, j2⟩ => by
            by_cases hjt : j = t
            · rw [hjt] at j2; exact hz2 j2
            · exact hz ⟨j, by omega, j2⟩)]
          rfl
    · rintro ⟨y1, y2⟩ ⟨d1, d2⟩
      dsimp only at d1 d2
      refine ⟨y1, ?_, ?_⟩
      · unfold f_X12_standsIn_L18
        dsimp only
        rw [d2, zI_inI (n := 241) (by omega) (by omega) (by omega), zb_chk, zI_ix (by omega) (by omega), Int.toNat_natCast, hw.1, if_pos (by simp (disch := omega) only [zk_bind, zk_chk, zk_bnd, zk_some, zlp_l, zlp_r, zb_some, zb_bnd, zI_add, zI_sub, zI_mul, zI_neg, zI_le, zI_lt, zI_eq, zI_ix, zI_inI, Int.toNat_natCast, Int.toNat_add, Int.toNat_mul, true_and, and_true]; omega)]
      · rw [d1, r_truth, zb_some, zk_bnd, zk_bnd, zk_some, zI_add]
        refine hQ _ ⟨?_, zI_inj (by omega)⟩
        dsimp only
        rw [zsum_s]
        by_cases hz : ∃ j, j < zN l i ∧ zSg l i j = v
        · rw [if_neg (fun hh => zb_0.mp hh hz), zb_t hz, zI_add]
          rfl
        · rw [if_pos (zb_0.mpr hz), zb_f hz, zI_add]
          rfl
  · rintro ⟨x1, x2⟩ ⟨e1, e2⟩
    dsimp only at e1 e2
    refine ⟨x1, ?_, ?_⟩
    · unfold f_X12_standsIn_L4
      dsimp only
      rw [hl.1, e2, if_pos (by simp (disch := omega) only [zk_bind, zk_chk, zk_bnd, zk_some, zlp_l, zlp_r, zb_some, zb_bnd, zI_add, zI_sub, zI_mul, zI_neg, zI_le, zI_lt, zI_eq, zI_ix, zI_inI, Int.toNat_natCast, Int.toNat_add, Int.toNat_mul, true_and, and_true]; omega)]
    · rw [zk_some, e1]
      rfl
theorem zstn_F {σ : ZT} (v : Nat) : zstn (dL σ) v 1 = zcF (zrest (zRL (gs σ)) (dR σ) (gh σ 2).toNat 24) v := by
  have := zfold_sum (fun k => zb (zfrk k = v)) (zrest (zRL (gs σ)) (dR σ) (gh σ 2).toNat 24) [] zsrt_nil
  unfold zcF
  rw [show zsum ([] : List (Nat × Nat)).length (fun i => zb (zfrk (zE [] i).1 = v) * (zE [] i).2) = 0 from rfl, Nat.zero_add] at this
  rw [← this]
  rfl
theorem zstn_L {σ : ZT} (v : Nat) : zstn (dL σ) v 2 = zcL (zrest (zRL (gs σ)) (dR σ) (gh σ 2).toNat 24) v := by
  have := zfold_sum (fun k => zb (zlrk k = v)) (zrest (zRL (gs σ)) (dR σ) (gh σ 2).toNat 24) [] zsrt_nil
  unfold zcL
  rw [show zsum ([] : List (Nat × Nat)).length (fun i => zb (zlrk (zE [] i).1 = v) * (zE [] i).2) = 0 from rfl, Nat.zero_add] at this
  rw [← this]
  rfl
theorem zScC_f {M0 M : ZMem} (h : zP zWfnd M0 M) : zP zScC M0 M := zP_mono h (fun a k ha => by
  unfold zScC at ha
  rw [Bool.or_eq_false_iff, Bool.or_eq_false_iff, Bool.or_eq_false_iff, Bool.or_eq_false_iff] at ha
  exact ha.1.1.1.1)
theorem zp_stands : zPr_stands zRel := by
  rintro M1 M2 a1 a2 ⟨σ, ho, hc, hr⟩
  obtain ⟨a, rfl, l1, u1⟩ := zI_of a1
  obtain ⟨b, rfl, l2, u2⟩ := zI_of a2
  have hF := ho.2.1
  have okl := dL_ok ho
  have okr := dR_ok ho
  unfold f_X11_stands f_X12_stands_
  rw [zk_bind]
  refine zOk_mono (k_fs ho hc) (fun C h => ?_)
  have hs := h.1.2.2.2.2.2.2.1 h.2
  have hlW : lexW (dL σ) C := ⟨hs.2.2.2.1.1, hs.2.2.2.1.2.1⟩
  have hRel : zRel C M2 := ⟨σ, ho, h.1, hr⟩
  rw [c_signOf h.1.2.1.1.2.1 hF hs.1.1 l1 u1, zb_some, r_isForm hr.2.1.2.1 hF _ l1 u1, zb_some, r_in l2 u2 (by omega) (by omega) (by omega) (by omega), zb_some]
  by_cases h1 : 0 ≤ a ∧ a < gF σ
  · obtain ⟨f, rfl⟩ := Int.eq_ofNat_of_zero_le h1.1
    have sf := zsgl ho (show f < gF σ by omega)
    rw [if_pos h1, Int.toNat_natCast, if_neg (by simp (disch := omega) only [zk_bind, zk_chk, zk_bnd, zk_some, zlp_l, zlp_r, zb_some, zb_bnd, zI_add, zI_sub, zI_mul, zI_neg, zI_le, zI_lt, zI_eq, zI_ix, zI_inI, Int.toNat_natCast, Int.toNat_add, Int.toNat_mul, true_and, and_true]; omega), if_neg (fun hh => zb_0.mp hh h1)]
    have ref : ∀ (C' : ZMem) (v : Int32) (K : ZMem → Option (ZMem × Int32)), relC σ C' → (∀ R', relR σ R' → laidR (gF σ) (gf σ) (gs σ) (gh σ) R' → zOk (K R') (fun r => r.1 = R' ∧ r.2 = v)) → zOk (zbind (f_X12_lays M2) K) (fun r2 => v = r2.2 ∧ zRel C' r2.1) := by
      intro C' v K hC' hK
      rw [zk_bind]
      refine zOk_mono (k_ls ho hr) (fun R' h' => ?_)
      refine zOk_mono (hK R' h'.1 h'.2.2) (fun r hr' => ?_)
      rw [hr'.1, hr'.2]
      exact ⟨rfl, σ, ho, hC', h'.1⟩
    by_cases h2 : 0 ≤ b ∧ b ≤ 3
    · rw [if_neg (c := zI (zb (0 ≤ b ∧ b ≤ 3) : Int) = zI 0) (fun hh => zb_0.mp hh h2), zI_inI (n := 20) (by omega) (by omega) (by omega), zI_ix (by omega) (by omega), Int.toNat_natCast]
      obtain ⟨b, rfl⟩ := Int.eq_ofNat_of_zero_le h2.1
      by_cases b0 : b = 0
      · rw [if_pos (by rw [b0]; rfl)]
        unfold f_X6_timesOf
        rw [zk_bind, zk_bind]
        refine zOk_mono (c_startPiece okr hs.2.2.1 (pc := fun _ => dS σ f) sf) (fun C' k => ?_)
        rw [zk_some, zk_some]
        dsimp only
        rw [k.1.1]
        refine ref C' _ _ (relC_x (zScC_f k.2) h.1) (fun R' g1 g2 => ?_)
        rw [zb_chk, zk_bnd, g2.1.1 f (by omega), if_pos (by rw [b0]; rfl), zk_bind]
        refine zOk_mono (r_standsAll ho.2.2.1 okr g2.2.1 sf) (fun e he => ?_)
        rw [zk_some, he, zfil_len]
        exact ⟨rfl, rfl⟩
      · rw [if_neg (by simp (disch := omega) only [zk_bind, zk_chk, zk_bnd, zk_some, zlp_l, zlp_r, zb_some, zb_bnd, zI_add, zI_sub, zI_mul, zI_neg, zI_le, zI_lt, zI_eq, zI_ix, zI_inI, Int.toNat_natCast, Int.toNat_add, Int.toNat_mul, true_and, and_true]; omega), c_timesOf okl hlW sf (show 1 ≤ b ∧ b ≤ 3 by omega), zb_some, zk_some]
        refine ref C _ _ h.1 (fun R' g1 g2 => ?_)
        rw [zb_chk, zk_bnd, g2.1.1 f (by omega), if_neg (by simp (disch := omega) only [zk_bind, zk_chk, zk_bnd, zk_some, zlp_l, zlp_r, zb_some, zb_bnd, zI_add, zI_sub, zI_mul, zI_neg, zI_le, zI_lt, zI_eq, zI_ix, zI_inI, Int.toNat_natCast, Int.toNat_add, Int.toNat_mul, true_and, and_true]; omega)]
        by_cases b1 : b = 1
        · rw [if_pos (by rw [b1]; rfl), zI_inI (by omega) (by omega) (by omega), zb_chk, zk_some, zI_ix (by omega) (by omega), Int.toNat_natCast, g2.2.2.1.2.2.1 _ sf, b1]
          exact ⟨rfl, by rw [zstn_F]⟩
        · rw [if_neg (by simp (disch := omega) only [zk_bind, zk_chk, zk_bnd, zk_some, zlp_l, zlp_r, zb_some, zb_bnd, zI_add, zI_sub, zI_mul, zI_neg, zI_le, zI_lt, zI_eq, zI_ix, zI_inI, Int.toNat_natCast, Int.toNat_add, Int.toNat_mul, true_and, and_true]; omega)]
          by_cases b2 : b = 2
          · rw [if_pos (by rw [b2]; rfl), zI_inI (by omega) (by omega) (by omega), zb_chk, zk_some, zI_ix (by omega) (by omega), Int.toNat_natCast, g2.2.2.1.2.2.2 _ sf, b2]
            exact ⟨rfl, by rw [zstn_L]⟩
          · rw [if_neg (by simp (disch := omega) only [zk_bind, zk_chk, zk_bnd, zk_some, zlp_l, zlp_r, zb_some, zb_bnd, zI_add, zI_sub, zI_mul, zI_neg, zI_le, zI_lt, zI_eq, zI_ix, zI_inI, Int.toNat_natCast, Int.toNat_add, Int.toNat_mul, true_and, and_true]; omega), r_standsIn okl g2.2.2.1.1 sf, zb_some, zk_some, show b = 3 by omega]
            exact ⟨rfl, rfl⟩
    · rw [if_pos (c := zI (zb (0 ≤ b ∧ b ≤ 3) : Int) = zI 0) (zb_0.mpr h2), if_neg (by simp (disch := omega) only [zk_bind, zk_chk, zk_bnd, zk_some, zlp_l, zlp_r, zb_some, zb_bnd, zI_add, zI_sub, zI_mul, zI_neg, zI_le, zI_lt, zI_eq, zI_ix, zI_inI, Int.toNat_natCast, Int.toNat_add, Int.toNat_mul, true_and, and_true]; omega)]
      have et : f_X2_timesOf C (zI ((dS σ f : Nat) : Int)) (zI b) = some (zI (-1)) := by
        unfold f_X2_timesOf
        by_cases hb0 : b < 1
        · rw [if_pos (by simp (disch := omega) only [zk_bind, zk_chk, zk_bnd, zk_some, zlp_l, zlp_r, zb_some, zb_bnd, zI_add, zI_sub, zI_mul, zI_neg, zI_le, zI_lt, zI_eq, zI_ix, zI_inI, Int.toNat_natCast, Int.toNat_add, Int.toNat_mul, true_and, and_true]; omega)]
        · rw [if_neg (by simp (disch := omega) only [zk_bind, zk_chk, zk_bnd, zk_some, zlp_l, zlp_r, zb_some, zb_bnd, zI_add, zI_sub, zI_mul, zI_neg, zI_le, zI_lt, zI_eq, zI_ix, zI_inI, Int.toNat_natCast, Int.toNat_add, Int.toNat_mul, true_and, and_true]; omega), if_neg (by simp (disch := omega) only [zk_bind, zk_chk, zk_bnd, zk_some, zlp_l, zlp_r, zb_some, zb_bnd, zI_add, zI_sub, zI_mul, zI_neg, zI_le, zI_lt, zI_eq, zI_ix, zI_inI, Int.toNat_natCast, Int.toNat_add, Int.toNat_mul, true_and, and_true]; omega)]
      rw [et, zb_some, zk_some, zk_some]
      exact ⟨rfl, hRel⟩
  · rw [if_neg h1, if_pos rfl, if_pos (zb_0.mpr h1), zk_some, zk_some]
    exact ⟨rfl, hRel⟩
-- ahead
theorem r_ahead {M : ZMem} {F : Nat} {s : ZS} {rs : Nat → Nat → Nat} {pc : Nat → Nat} (hs : okS F s) (hk : okRw (zRL s) rs) (h : rowsH s rs M) {f g : Nat} (hf : f < 20) (hg : g < 20) (h0 : M.1 11 f = zI (pc 0)) (h1 : M.1 11 g = zI (pc 1)) (hp0 : pc 0 < 20) (hp1 : pc 1 < 20) : zOk (zloop (f_X12_ahead_L27 M (zI f) (zI g)) (zI 0, zI 0)) (fun e => e = zI (zcom (zRL s) rs pc 2)) := by
  have b24 := zrx_le s 24
  have oc : ∀ q k, q < 24 → k < 10 → (zoc (zRL s) rs pc 2 (10 * q + k) ↔ k + 2 ≤ zRL s q ∧ rs q k = pc 0 ∧ rs q (k + 1) = pc 1) := by
    intro q k hq hk1
    unfold zoc
    rw [show (10 * q + k) % 10 = k by omega, show (10 * q + k) / 10 = q by omega]
    refine ⟨fun ⟨g1, g2⟩ => ⟨g1, g2 0 (by omega), g2 1 (by omega)⟩, fun ⟨g1, g2, g3⟩ => ⟨g1, fun i hi => ?_⟩⟩
    rcases (show i = 0 ∨ i = 1 by omega) with rfl | rfl
    · exact g2
    · exact g3
  have hend : ∀ q, q < 24 → zsum (10 * (q + 1)) (fun x => zb (zoc (zRL s) rs pc 2 x)) = zsum (10 * q + (zRL s q - 1)) (fun x => zb (zoc (zRL s) rs pc 2 x)) := by
    intro q hq
    have := hk.1 q
    refine zsum_ext (by omega) (fun x h1 h2 => zb_f (fun hh => ?_))
    have := (oc q (x - 10 * q) hq (by omega)).mp (by rw [show 10 * q + (x - 10 * q) = x by omega]; exact hh)
    omega
  refine zOk_rows s (fun q x => x.2 = zI (zrx s q) ∧ x.1 = zI (zsum (10 * q) (fun x => zb (zoc (zRL s) rs pc 2 x)))) ?_ ?_ ?_ ⟨rfl, rfl⟩
  · rintro q x hq hne ⟨e1, e2⟩
    refine ⟨by rw [zrx_n hne]; exact e1, ?_⟩
    rw [e2, hend q hq, zRL_n hne]
    rfl
  · rintro q ⟨x1, x2⟩ hq hex ⟨e1, e2⟩ Q hQ _
    dsimp only at e1 e2
    obtain ⟨i1, i2⟩ := zrx_in hq hex
    have hb := zbg240 hs hq
    have hr := hk.1 q
    have hl1 : 1 ≤ zRL s q := by rw [zRL_e hex]; exact (hs.2.2 q hex).1
    have hb1 : M.1 13 (zrx s q) = zI (zbg s q) := h.2.1 q (by omega)
    have hb2 : M.1 13 (zrx s q + 1) = zI ((zbg s q + zRL s q : Nat) : Int) := by rw [← i2, h.2.1 (q + 1) (by omega)]; rfl
    unfold f_X12_ahead_L27
    dsimp only
    rw [h.1, e1, if_neg (by simp (disch := omega) only [zk_bind, zk_chk, zk_bnd, zk_some, zlp_l, zlp_r, zb_some, zb_bnd, zI_add, zI_sub, zI_mul, zI_neg, zI_le, zI_lt, zI_eq, zI_ix, zI_inI, Int.toNat_natCast, Int.toNat_add, Int.toNat_mul, true_and, and_true]; omega), zI_inI (by omega) (by omega) (by omega), zb_chk, zI_ix (by omega) (by omega), Int.toNat_natCast, hb1, zk_bnd, zk_bind]
    refine zOk_for0 (fun k x => x.2 = zI ((zbg s q + k : Nat) : Int) ∧ x.1 = zI (zsum (10 * q + k) (fun x => zb (zoc (zRL s) rs pc 2 x)))) (zRL s q - 1) ?_ ?_ ⟨rfl, e2⟩
    · rintro k ⟨y1, y2⟩ hkk ⟨d1, d2⟩
      dsimp only at d1 d2
      have r1 := hk.2 q k (by omega)
      have r2 := hk.2 q (k + 1) (by omega)
      unfold f_X12_ahead_L45
      dsimp only
      rw [zI_add, zI_inI (by omega) (by omega) (by omega), zb_chk, zI_ix (by omega) (by omega), show ((zrx s q : Int) + 1).toNat = zrx s q + 1 by omega, hb2, d1, zI_add, if_neg (by simp (disch := omega) only [zk_bind, zk_chk, zk_bnd, zk_some, zlp_l, zlp_r, zb_some, zb_bnd, zI_add, zI_sub, zI_mul, zI_neg, zI_le, zI_lt, zI_eq, zI_ix, zI_inI, Int.toNat_natCast, Int.toNat_add, Int.toNat_mul, true_and, and_true]; omega), zI_inI (by omega) (by omega) (by omega), zb_chk, zI_inI (by omega) (by omega) (by omega), zb_chk, zI_inI (by omega) (by omega) (by omega), zb_chk, zI_inI (by omega) (by omega) (by omega), zb_chk, zI_ix (by omega) (by omega), zI_ix (by omega) (by omega), zI_ix (by omega) (by omega), zI_ix (by omega) (by omega), Int.toNat_natCast, Int.toNat_natCast, Int.toNat_natCast, show (((zbg s q + k : Nat) : Int) + 1).toNat = zbg s q + (k + 1) by omega, h.2.2 q k hq (by omega), h.2.2 q (k + 1) hq (by omega), h0, h1, d2]
      show zOk (if zI ((rs q k : Nat) : Int) = zI ((pc 0 : Nat) : Int) then if zI ((rs q (k + 1) : Nat) : Int) = zI ((pc 1 : Nat) : Int) then f_X12_ahead_101_L45 M (zI f) (zI g) (zI ((zrx s q : Nat) : Int)) (zI ((zbg s q + k : Nat) : Int)) (zI ((zsum (10 * q + k) (fun x => zb (zoc (zRL s) rs pc 2 x)) : Nat) : Int)) (zI 1) else f_X12_ahead_101_L45 M (zI f) (zI g) (zI ((zrx s q : Nat) : Int)) (zI ((zbg s q + k : Nat) : Int)) (zI ((zsum (10 * q + k) (fun x => zb (zoc (zRL s) rs pc 2 x)) : Nat) : Int)) (zI 0) else f_X12_ahead_101_L45 M (zI f) (zI g) (zI ((zrx s q : Nat) : Int)) (zI ((zbg s q + k : Nat) : Int)) (zI ((zsum (10 * q + k) (fun x => zb (zoc (zRL s) rs pc 2 x)) : Nat) : Int)) (zI 0)) _
      rw [zb_sel2 (fun w => f_X12_ahead_101_L45 M (zI f) (zI g) (zI ((zrx s q : Nat) : Int)) (zI ((zbg s q + k : Nat) : Int)) (zI ((zsum (10 * q + k) (fun x => zb (zoc (zRL s) rs pc 2 x)) : Nat) : Int)) w)]
      unfold f_X12_ahead_101_L45
      have ez : zb (zI ((rs q k : Nat) : Int) = zI ((pc 0 : Nat) : Int) ∧ zI ((rs q (k + 1) : Nat) : Int) = zI ((pc 1 : Nat) : Int)) = zb (zoc (zRL s) rs pc 2 (10 * q + k)) := zb_iff (by
        rw [oc q k hq (by omega), zI_eq (by omega) (by omega) (by omega) (by omega), zI_eq (by omega) (by omega) (by omega) (by omega)]
        omega)
      rw [ez, r_truth, zb_some, zk_bnd, zk_bnd, zk_some, zlp_l]
      refine ⟨by rw [zI_add]; exact zI_inj (by omega), ?_⟩
      rw [← Nat.add_assoc, zsum_s]
      dsimp only
      by_cases hz : zoc (zRL s) rs pc 2 (10 * q + k)
      · rw [zb_t hz, if_neg (by decide), zI_add]; exact zI_inj (by omega)
      · rw [zb_f hz, if_pos (by decide), zI_add]; exact zI_inj (by omega)
    · rintro ⟨y1, y2⟩ ⟨d1, d2⟩
      dsimp only at d1 d2
      unfold f_X12_ahead_L45
      dsimp only
      rw [zI_add, zI_inI (by omega) (by omega) (by omega), zb_chk, zI_ix (by omega) (by omega), show ((zrx s q : Int) + 1).toNat = zrx s q + 1 by omega, hb2, d1, zI_add, if_pos (by simp (disch := omega) only [zk_bind, zk_chk, zk_bnd, zk_some, zlp_l, zlp_r, zb_some, zb_bnd, zI_add, zI_sub, zI_mul, zI_neg, zI_le, zI_lt, zI_eq, zI_ix, zI_inI, Int.toNat_natCast, Int.toNat_add, Int.toNat_mul, true_and, and_true]; omega), zk_some, zlp_r, zk_bnd, zk_some]
      exact hQ _ ⟨by rw [i2]; exact zI_inj (by omega), by rw [hend q hq]; exact d2⟩
  · rintro ⟨x1, x2⟩ ⟨e1, e2⟩
    dsimp only at e1 e2
    refine ⟨x1, ?_, ?_⟩
    · unfold f_X12_ahead_L27
      dsimp only
      rw [h.1, e1, if_pos (by simp (disch := omega) only [zk_bind, zk_chk, zk_bnd, zk_some, zlp_l, zlp_r, zb_some, zb_bnd, zI_add, zI_sub, zI_mul, zI_neg, zI_le, zI_lt, zI_eq, zI_ix, zI_inI, Int.toNat_natCast, Int.toNat_add, Int.toNat_mul, true_and, and_true]; omega)]
    · rw [e2]
      rfl
theorem zp_ahead : zPr_ahead zRel := by
  rintro M1 M2 a1 a2 ⟨σ, ho, hc, hr⟩
  obtain ⟨a, rfl, l1, u1⟩ := zI_of a1
  obtain ⟨b, rfl, l2, u2⟩ := zI_of a2
  have hF := ho.2.1
  have okr := dR_ok ho
  unfold f_X11_ahead f_X12_ahead
  rw [zk_bind]
  refine zOk_mono (k_fs ho hc) (fun C h => ?_)
  have hs := h.1.2.2.2.2.2.2.1 h.2
  have hRel : zRel C M2 := ⟨σ, ho, h.1, hr⟩
  rw [c_signOf h.1.2.1.1.2.1 hF hs.1.1 l1 u1, c_signOf h.1.2.1.1.2.1 hF hs.1.1 l2 u2, zb_some, zb_some, r_isForm hr.2.1.2.1 hF _ l1 u1, r_isForm hr.2.1.2.1 hF _ l2 u2, zb_some, zb_some]
  by_cases h1 : 0 ≤ a ∧ a < gF σ
  · by_cases h2 : 0 ≤ b ∧ b < gF σ
    · obtain ⟨f, rfl⟩ := Int.eq_ofNat_of_zero_le h1.1
      obtain ⟨g, rfl⟩ := Int.eq_ofNat_of_zero_le h2.1
      have sf := zsgl ho (show f < gF σ by omega)
      have sg := zsgl ho (show g < gF σ by omega)
      rw [if_pos h1, if_pos h2, Int.toNat_natCast, Int.toNat_natCast, if_neg (c := zI ((zsg (gF σ) (gf σ) (gh σ) f : Nat) : Int) = zI (-1)) (by simp (disch := omega) only [zk_bind, zk_chk, zk_bnd, zk_some, zlp_l, zlp_r, zb_some, zb_bnd, zI_add, zI_sub, zI_mul, zI_neg, zI_le, zI_lt, zI_eq, zI_ix, zI_inI, Int.toNat_natCast, Int.toNat_add, Int.toNat_mul, true_and, and_true]; omega), if_neg (c := zI ((zsg (gF σ) (gf σ) (gh σ) g : Nat) : Int) = zI (-1)) (by simp (disch := omega) only [zk_bind, zk_chk, zk_bnd, zk_some, zlp_l, zlp_r, zb_some, zb_bnd, zI_add, zI_sub, zI_mul, zI_neg, zI_le, zI_lt, zI_eq, zI_ix, zI_inI, Int.toNat_natCast, Int.toNat_add, Int.toNat_mul, true_and, and_true]; omega), if_neg (c := zI (zb (0 ≤ (f : Int) ∧ (f : Int) < (gF σ : Int)) : Int) = zI 0) (fun hh => zb_0.mp hh h1), if_neg (c := zI (zb (0 ≤ (g : Int) ∧ (g : Int) < (gF σ : Int)) : Int) = zI 0) (fun hh => zb_0.mp hh h2)]
      unfold f_X6_timesAhead
      rw [zk_bind, zk_bind]
      refine zOk_mono (c_startPiece okr hs.2.2.1 (pc := fun i => if i = 0 then dS σ f else dS σ g) sf) (fun C1 k1 => ?_)
      rw [zk_bind]
      have rg1 : rowsG (zRL (gs σ)) (dR σ) C1 := rowsG_x (fun k => k1.2.1 31 k rfl) (fun k => k1.2.1 32 k rfl) hs.2.2.1
      refine zOk_mono (c_growPiece (pc := fun i => if i = 0 then dS σ f else dS σ g) (n := 1) okr rg1 (by omega) k1.1 sg) (fun C2 k2 => ?_)
      rw [zk_some, zk_some]
      dsimp only
      rw [k2.1.1, zk_bind]
      refine zOk_mono (k_ls ho hr) (fun R' h' => ?_)
      have g2 := h'.2.2
      rw [zk_bind]
      refine zOk_mono (r_ahead (pc := fun i => if i = 0 then dS σ f else dS σ g) ho.2.2.1 okr g2.2.1 (f := f) (g := g) (by omega) (by omega) (g2.1.1 f (by omega)) (g2.1.1 g (by omega)) sf sg) (fun e he => ?_)
      rw [zk_some, he, zfil_len]
      exact ⟨rfl, σ, ho, relC_x (zScC_f (zP_tr k1.2 k2.2)) h.1, h'.1⟩
    · rw [if_neg h2, if_pos (c := zI (-1) = zI (-1)) rfl, if_neg (c := zI (zb (0 ≤ a ∧ a < (gF σ : Int)) : Int) = zI 0) (fun hh => zb_0.mp hh h1), if_pos (c := zI (zb (0 ≤ b ∧ b < (gF σ : Int)) : Int) = zI 0) (zb_0.mpr h2), ite_self, zk_some, zk_some]
      exact ⟨rfl, hRel⟩
  · rw [if_neg h1, if_pos (c := zI (-1) = zI (-1)) rfl, if_pos (c := zI (zb (0 ≤ a ∧ a < (gF σ : Int)) : Int) = zI 0) (zb_0.mpr h1), zk_some, zk_some]
    exact ⟨rfl, hRel⟩
