/-! ===== the reference reads the rows ===== deps: 94.readc -/
theorem r_place {M : ZMem} {F : Nat} {s : ZS} (hF : F ≤ 20) (hs : okS F s) (h : stonesR s M) {q k : Nat} (hq : zex s q) (hk : k < sl s q + sn s q + sr s q) : M.1 6 (10 * q + k) = zI (if sl s q ≤ k ∧ k < sl s q + sn s q then (sx s (10 * q + (k - sl s q)) : Int) else -1) := by
  obtain ⟨h1, h2, h3, h4⟩ := h.2.2 q hq
  by_cases c1 : k < sl s q
  · rw [h2 k c1, if_neg (by omega)]
  · by_cases c2 : k < sl s q + sn s q
    · have := h3 (k - sl s q) (by omega)
      rw [show sl s q + (k - sl s q) = k by omega] at this
      rw [this, if_pos (by omega)]
    · have := h4 (k - (sl s q + sn s q)) (by omega)
      rw [show sl s q + sn s q + (k - (sl s q + sn s q)) = k by omega] at this
      rw [this, if_neg (by omega)]
theorem r_none {M : ZMem} {F : Nat} {s : ZS} (hF : F ≤ 20) (hs : okS F s) (h : stonesR s M) {q k : Nat} (hq : zex s q) (hk : k < sl s q + sn s q + sr s q) (hn : ¬ (sl s q ≤ k ∧ k < sl s q + sn s q)) : M.1 6 (10 * q + k) = zI (-1) := by rw [r_place hF hs h hq hk, if_neg hn]
theorem r_ragged {M : ZMem} {F : Nat} {s : ZS} (hF : F ≤ 20) (hs : okS F s) (h : stonesR s M) {side : Nat} (hsd : side ≤ 1) : f_X12_ragged M (zI side) = some (zI (zrag s side)) := by
  have hS := hs.1
  apply zOk_is
  unfold f_X12_ragged
  rw [zk_bind]
  refine zOk_forQ (fun t x => x = (zI (zsum t (zrag1 s side)), zI t)) (sS s) ?_ ?_ rfl
  · rintro t x ht rfl Q hQ _
    have hm := hs.2.1 t ht
    have hq : zex s (4 * t + (sm s t - 1)) := zex_of ht (by omega) (by omega)
    have hn := hs.2.2 _ hq
    unfold f_X12_ragged_L4
    dsimp only
    rw [h.1, if_neg (by simp (disch := omega) only [zk_bind, zk_chk, zk_bnd, zk_some, zlp_l, zlp_r, zb_some, zb_bnd, zI_add, zI_sub, zI_mul, zI_neg, zI_le, zI_lt, zI_eq, zI_ix, zI_inI, Int.toNat_natCast, Int.toNat_add, Int.toNat_mul, true_and, and_true]; omega), zI_inI (by omega) (by omega) (by omega), zb_chk, zI_ix (by omega) (by omega), Int.toNat_natCast, h.2.1 t ht, zk_bnd, zI_mul, zI_add, zI_sub, show (4 * (t : Int) + sm s t - 1) = ((4 * t + (sm s t - 1) : Nat) : Int) by omega, zk_bind]
    have hx : ∀ k, k < sl s (4 * t + (sm s t - 1)) + sn s (4 * t + (sm s t - 1)) + sr s (4 * t + (sm s t - 1)) → ∃ v : Int, -1 ≤ v ∧ v ≤ 20 ∧ M.1 6 (10 * (4 * t + (sm s t - 1)) + k) = zI v ∧ (v = -1 ↔ ¬ (sl s (4 * t + (sm s t - 1)) ≤ k ∧ k < sl s (4 * t + (sm s t - 1)) + sn s (4 * t + (sm s t - 1)))) := by
      intro k hk
      refine ⟨_, ?_, ?_, r_place hF hs h hq hk, ?_⟩
      · split <;> omega
      · split
        · have := hn.2.2 (k - sl s (4 * t + (sm s t - 1))) (by omega)
          omega
        · omega
      · split
        · next e => omega
        · next e => omega
    generalize hqq : 4 * t + (sm s t - 1) = q at hq hn hx
    have hq24 := zex_lt hs hq
    refine zOk_for0 (fun i x => x = zI i) (sl s q) ?_ ?_ rfl
    · rintro i x hi rfl
      obtain ⟨v, v1, v2, v3, v4⟩ := hx i (by omega)
      unfold f_X12_ragged_L29
      rw [zI_mul, zI_add, zI_inI (by omega) (by omega) (by omega), zb_chk, zI_ix (by omega) (by omega), show (10 * (q : Int) + i).toNat = 10 * q + i by omega, v3, if_pos (by simp (disch := omega) only [zk_bind, zk_chk, zk_bnd, zk_some, zlp_l, zlp_r, zb_some, zb_bnd, zI_add, zI_sub, zI_mul, zI_neg, zI_le, zI_lt, zI_eq, zI_ix, zI_inI, Int.toNat_natCast, Int.toNat_add, Int.toNat_mul, true_and, and_true]; omega)]
      simp (disch := omega) only [zk_bind, zk_chk, zk_bnd, zk_some, zlp_l, zlp_r, zb_some, zb_bnd, zI_add, zI_sub, zI_mul, zI_neg, zI_le, zI_lt, zI_eq, zI_ix, zI_inI, Int.toNat_natCast, Int.toNat_add, Int.toNat_mul, true_and, and_true]
      exact (by first | omega | exact zI_inj (by omega))
    rintro x rfl
    obtain ⟨v, v1, v2, v3, v4⟩ := hx (sl s q) (by omega)
    unfold f_X12_ragged_L29
    rw [zI_mul, zI_add, zI_inI (by omega) (by omega) (by omega), zb_chk, zI_ix (by omega) (by omega), show (10 * (q : Int) + sl s q).toNat = 10 * q + sl s q by omega, v3, if_neg (by simp (disch := omega) only [zk_bind, zk_chk, zk_bnd, zk_some, zlp_l, zlp_r, zb_some, zb_bnd, zI_add, zI_sub, zI_mul, zI_neg, zI_le, zI_lt, zI_eq, zI_ix, zI_inI, Int.toNat_natCast, Int.toNat_add, Int.toNat_mul, true_and, and_true]; omega), zk_some, zlp_r, zk_bind]
    refine zOk_for0 (fun i x => x = zI i) (sr s q) ?_ ?_ rfl
    · rintro i x hi rfl
      obtain ⟨v, v1, v2, v3, v4⟩ := hx (sl s q + sn s q + sr s q - 1 - i) (by omega)
      unfold f_X12_ragged_L55
      rw [zI_inI (by omega) (by omega) (by omega), zb_chk, zI_ix (a := (q : Int)) (by omega) (by omega), Int.toNat_natCast, (h.2.2 q hq).1, zI_mul, zI_add, zI_sub, zI_sub, zI_inI (by omega) (by omega) (by omega), zb_chk, zI_ix (by omega) (by omega), show (10 * (q : Int) + ((sl s q + sn s q + sr s q : Nat) : Int) - 1 - i).toNat = 10 * q + (sl s q + sn s q + sr s q - 1 - i) by omega, v3, if_pos (by simp (disch := omega) only [zk_bind, zk_chk, zk_bnd, zk_some, zlp_l, zlp_r, zb_some, zb_bnd, zI_add, zI_sub, zI_mul, zI_neg, zI_le, zI_lt, zI_eq, zI_ix, zI_inI, Int.toNat_natCast, Int.toNat_add, Int.toNat_mul, true_and, and_true]; omega)]
      simp (disch := omega) only [zk_bind, zk_chk, zk_bnd, zk_some, zlp_l, zlp_r, zb_some, zb_bnd, zI_add, zI_sub, zI_mul, zI_neg, zI_le, zI_lt, zI_eq, zI_ix, zI_inI, Int.toNat_natCast, Int.toNat_add, Int.toNat_mul, true_and, and_true]
      exact (by first | omega | exact zI_inj (by omega))
    rintro x rfl
    obtain ⟨v, v1, v2, v3, v4⟩ := hx (sl s q + sn s q + sr s q - 1 - sr s q) (by omega)
    unfold f_X12_ragged_L55
    rw [zI_inI (by omega) (by omega) (by omega), zb_chk, zI_ix (a := (q : Int)) (by omega) (by omega), Int.toNat_natCast, (h.2.2 q hq).1, zI_mul, zI_add, zI_sub, zI_sub, zI_inI (by omega) (by omega) (by omega), zb_chk, zI_ix (by omega) (by omega), show (10 * (q : Int) + ((sl s q + sn s q + sr s q : Nat) : Int) - 1 - sr s q).toNat = 10 * q + (sl s q + sn s q + sr s q - 1 - sr s q) by omega, v3, if_neg (by simp (disch := omega) only [zk_bind, zk_chk, zk_bnd, zk_some, zlp_l, zlp_r, zb_some, zb_bnd, zI_add, zI_sub, zI_mul, zI_neg, zI_le, zI_lt, zI_eq, zI_ix, zI_inI, Int.toNat_natCast, Int.toNat_add, Int.toNat_mul, true_and, and_true]; omega), zk_some, zlp_r, zb_chk]
    have key : ∀ v : Nat, v ≤ 1 → v = zrag1 s side t → zOk (f_X12_ragged_125_L4 M (zI side) (zI t) (zI (zsum t (zrag1 s side))) (zI v)) Q := by
      intro v hv1 hv
      unfold f_X12_ragged_125_L4
      rw [r_truth, zb_some, zk_bnd, zk_bnd, zk_some, zI_add]
      refine hQ _ (Prod.ext ?_ (zI_inj (by omega)))
      dsimp only
      rw [zsum_s, ← hv]
      by_cases h0 : v = 0
      · rw [if_pos (by rw [h0]; rfl), zI_add]; exact zI_inj (by omega)
      · rw [if_neg (by simp (disch := omega) only [zk_bind, zk_chk, zk_bnd, zk_some, zlp_l, zlp_r, zb_some, zb_bnd, zI_add, zI_sub, zI_mul, zI_neg, zI_le, zI_lt, zI_eq, zI_ix, zI_inI, Int.toNat_natCast, Int.toNat_add, Int.toNat_mul, true_and, and_true]; omega), zI_add]; exact zI_inj (by omega)
    unfold f_X12_ragged_124_L4 f_X12_ragged_120_L4
    by_cases c1 : sm s t ≤ 1
    · rw [if_pos (by simp (disch := omega) only [zk_bind, zk_chk, zk_bnd, zk_some, zlp_l, zlp_r, zb_some, zb_bnd, zI_add, zI_sub, zI_mul, zI_neg, zI_le, zI_lt, zI_eq, zI_ix, zI_inI, Int.toNat_natCast, Int.toNat_add, Int.toNat_mul, true_and, and_true]; omega)]
      exact key 0 (by omega) (zb_f (by omega)).symm
    · rw [if_neg (by simp (disch := omega) only [zk_bind, zk_chk, zk_bnd, zk_some, zlp_l, zlp_r, zb_some, zb_bnd, zI_add, zI_sub, zI_mul, zI_neg, zI_le, zI_lt, zI_eq, zI_ix, zI_inI, Int.toNat_natCast, Int.toNat_add, Int.toNat_mul, true_and, and_true]; omega)]
      by_cases c2 : side = 0
      · subst c2
        rw [if_pos (by decide)]
        by_cases c3 : sr s q ≤ sl s q
        · rw [if_pos (by simp (disch := omega) only [zk_bind, zk_chk, zk_bnd, zk_some, zlp_l, zlp_r, zb_some, zb_bnd, zI_add, zI_sub, zI_mul, zI_neg, zI_le, zI_lt, zI_eq, zI_ix, zI_inI, Int.toNat_natCast, Int.toNat_add, Int.toNat_mul, true_and, and_true]; omega)]
          exact key 0 (by omega) (zb_f (by rw [if_pos rfl, hqq]; omega)).symm
        · rw [if_neg (by simp (disch := omega) only [zk_bind, zk_chk, zk_bnd, zk_some, zlp_l, zlp_r, zb_some, zb_bnd, zI_add, zI_sub, zI_mul, zI_neg, zI_le, zI_lt, zI_eq, zI_ix, zI_inI, Int.toNat_natCast, Int.toNat_add, Int.toNat_mul, true_and, and_true]; omega)]
          exact key 1 (by omega) (zb_t (by rw [if_pos rfl, hqq]; omega)).symm
      · rw [if_neg (by simp (disch := omega) only [zk_bind, zk_chk, zk_bnd, zk_some, zlp_l, zlp_r, zb_some, zb_bnd, zI_add, zI_sub, zI_mul, zI_neg, zI_le, zI_lt, zI_eq, zI_ix, zI_inI, Int.toNat_natCast, Int.toNat_add, Int.toNat_mul, true_and, and_true]; omega)]
        by_cases c3 : sl s q ≤ sr s q
        · rw [if_pos (by simp (disch := omega) only [zk_bind, zk_chk, zk_bnd, zk_some, zlp_l, zlp_r, zb_some, zb_bnd, zI_add, zI_sub, zI_mul, zI_neg, zI_le, zI_lt, zI_eq, zI_ix, zI_inI, Int.toNat_natCast, Int.toNat_add, Int.toNat_mul, true_and, and_true]; omega)]
          exact key 0 (by omega) (zb_f (by rw [if_neg c2, hqq]; omega)).symm
        · rw [if_neg (by simp (disch := omega) only [zk_bind, zk_chk, zk_bnd, zk_some, zlp_l, zlp_r, zb_some, zb_bnd, zI_add, zI_sub, zI_mul, zI_neg, zI_le, zI_lt, zI_eq, zI_ix, zI_inI, Int.toNat_natCast, Int.toNat_add, Int.toNat_mul, true_and, and_true]; omega)]
          exact key 1 (by omega) (zb_t (by rw [if_neg c2, hqq]; omega)).symm
  · rintro x rfl
    refine ⟨zI (zsum (sS s) (zrag1 s side)), ?_, ?_⟩
    · unfold f_X12_ragged_L4
      dsimp only
      rw [h.1, if_pos (by simp (disch := omega) only [zk_bind, zk_chk, zk_bnd, zk_some, zlp_l, zlp_r, zb_some, zb_bnd, zI_add, zI_sub, zI_mul, zI_neg, zI_le, zI_lt, zI_eq, zI_ix, zI_inI, Int.toNat_natCast, Int.toNat_add, Int.toNat_mul, true_and, and_true]; omega)]
    · rw [zk_some]
      rfl
theorem r_endOf {M : ZMem} {F : Nat} {s : ZS} {sg : Nat → Nat} (hF : F ≤ 20) (hsg : ∀ f, f < F → M.1 11 f = zI (sg f)) (hs : okS F s) (h : stonesR s M) {side q : Nat} (hsd : side ≤ 1) (hq : zex s q) : f_X12_endOf M (zI q) (zI side) = some (zI (zend s sg side q)) := by
  have hq24 := zex_lt hs hq
  have hn := hs.2.2 _ hq
  apply zOk_is
  have key : ∀ k : Nat, k < sn s q → k = (if side = 0 then sn s q - 1 else 0) → zOk (zchk (zin (zI 10 * zI q + zI ((sl s q + k : Nat) : Int)) 280) (zchk (zin (M.1 6 (zix (zI 10 * zI q + zI ((sl s q + k : Nat) : Int)))) 20) (some (M.1 11 (zix (M.1 6 (zix (zI 10 * zI q + zI ((sl s q + k : Nat) : Int))))))))) (fun r => r = zI (zend s sg side q)) := by
    intro k hk ek
    have hl := hn.2.2 k hk
    rw [zI_mul, zI_add, zI_inI (by omega) (by omega) (by omega), zb_chk, zI_ix (by omega) (by omega), show (10 * (q : Int) + ((sl s q + k : Nat) : Int)).toNat = 10 * q + (sl s q + k) by omega, (h.2.2 q hq).2.2.1 k hk, zI_inI (by omega) (by omega) (by omega), zb_chk, zI_ix (by omega) (by omega), Int.toNat_natCast, hsg _ hl, zk_some]
    unfold zend
    rw [← ek]
  unfold f_X12_endOf f_X12_endOf_16
  by_cases c : side = 0
  · subst c
    rw [if_pos (by decide), zI_inI (by omega) (by omega) (by omega), zb_chk, zI_ix (by omega) (by omega), Int.toNat_natCast, (h.2.2 q hq).1, zI_sub, zk_bind]
    refine zOk_for0 (fun i x => x = zI (((sl s q + sn s q + sr s q : Nat) : Int) - 1 - i)) (sr s q) ?_ ?_ (zI_inj (by omega))
    · rintro i x hi rfl
      unfold f_X12_endOf_L17
      rw [zI_mul, zI_add, zI_inI (by omega) (by omega) (by omega), zb_chk, zI_ix (by omega) (by omega), show (10 * (q : Int) + (((sl s q + sn s q + sr s q : Nat) : Int) - 1 - i)).toNat = 10 * q + (sl s q + sn s q + sr s q - 1 - i) by omega, r_none hF hs h hq (by omega) (by omega), if_pos rfl, if_pos (by decide)]
      simp (disch := omega) only [zk_bind, zk_chk, zk_bnd, zk_some, zlp_l, zlp_r, zb_some, zb_bnd, zI_add, zI_sub, zI_mul, zI_neg, zI_le, zI_lt, zI_eq, zI_ix, zI_inI, Int.toNat_natCast, Int.toNat_add, Int.toNat_mul, true_and, and_true]
      exact (by first | omega | exact zI_inj (by omega))
    · rintro x rfl
      have hl := hn.2.2 (sn s q - 1) (by omega)
      unfold f_X12_endOf_L17
      have e : (((sl s q + sn s q + sr s q : Nat) : Int) - 1 - sr s q) = ((sl s q + (sn s q - 1) : Nat) : Int) := by omega
      rw [e]
      rw [zI_mul, zI_add, zI_inI (by omega) (by omega) (by omega), zb_chk, zI_ix (by omega) (by omega), show (10 * (q : Int) + ((sl s q + (sn s q - 1) : Nat) : Int)).toNat = 10 * q + (sl s q + (sn s q - 1)) by omega, (h.2.2 q hq).2.2.1 _ (by omega), if_neg (by simp (disch := omega) only [zk_bind, zk_chk, zk_bnd, zk_some, zlp_l, zlp_r, zb_some, zb_bnd, zI_add, zI_sub, zI_mul, zI_neg, zI_le, zI_lt, zI_eq, zI_ix, zI_inI, Int.toNat_natCast, Int.toNat_add, Int.toNat_mul, true_and, and_true]; omega), zk_some, zlp_r]
      have := key (sn s q - 1) (by omega) (by rw [if_pos rfl])
      rwa [zI_mul] at this
  · rw [if_neg (by simp (disch := omega) only [zk_bind, zk_chk, zk_bnd, zk_some, zlp_l, zlp_r, zb_some, zb_bnd, zI_add, zI_sub, zI_mul, zI_neg, zI_le, zI_lt, zI_eq, zI_ix, zI_inI, Int.toNat_natCast, Int.toNat_add, Int.toNat_mul, true_and, and_true]; omega), zk_bind]
    refine zOk_for0 (fun i x => x = zI i) (sl s q) ?_ ?_ rfl
    · rintro i x hi rfl
      unfold f_X12_endOf_L17
      rw [zI_mul, zI_add, zI_inI (by omega) (by omega) (by omega), zb_chk, zI_ix (by omega) (by omega), show (10 * (q : Int) + i).toNat = 10 * q + i by omega, r_none hF hs h hq (by omega) (by omega), if_pos rfl, if_neg (by simp (disch := omega) only [zk_bind, zk_chk, zk_bnd, zk_some, zlp_l, zlp_r, zb_some, zb_bnd, zI_add, zI_sub, zI_mul, zI_neg, zI_le, zI_lt, zI_eq, zI_ix, zI_inI, Int.toNat_natCast, Int.toNat_add, Int.toNat_mul, true_and, and_true]; omega)]
      simp (disch := omega) only [zk_bind, zk_chk, zk_bnd, zk_some, zlp_l, zlp_r, zb_some, zb_bnd, zI_add, zI_sub, zI_mul, zI_neg, zI_le, zI_lt, zI_eq, zI_ix, zI_inI, Int.toNat_natCast, Int.toNat_add, Int.toNat_mul, true_and, and_true]
      exact (by first | omega | exact zI_inj (by omega))
    · rintro x rfl
      have hl := hn.2.2 0 (by omega)
      have hl' := (h.2.2 q hq).2.2.1 0 (by omega)
      rw [Nat.add_zero] at hl'
      unfold f_X12_endOf_L17
      rw [zI_mul, zI_add, zI_inI (by omega) (by omega) (by omega), zb_chk, zI_ix (by omega) (by omega), show (10 * (q : Int) + sl s q).toNat = 10 * q + sl s q by omega, hl', if_neg (by simp (disch := omega) only [zk_bind, zk_chk, zk_bnd, zk_some, zlp_l, zlp_r, zb_some, zb_bnd, zI_add, zI_sub, zI_mul, zI_neg, zI_le, zI_lt, zI_eq, zI_ix, zI_inI, Int.toNat_natCast, Int.toNat_add, Int.toNat_mul, true_and, and_true]; omega), zk_some, zlp_r]
      have := key 0 (by omega) (by rw [if_neg c])
      rwa [zI_mul, Nat.add_zero] at this
theorem r_ends {M : ZMem} {F : Nat} {s : ZS} {sg : Nat → Nat} (hF : F ≤ 20) (hsg : ∀ f, f < F → M.1 11 f = zI (sg f)) (hsl : ∀ f, f < F → sg f < 20) (hs : okS F s) (h : stonesR s M) {side : Nat} (hsd : side ≤ 1) : f_X12_ends M (zI side) = some (zI (zends s sg side)) := by
  have hS := hs.1
  have hel : ∀ q, zex s q → zend s sg side q < 20 := by
    intro q hq
    have h1 := hs.2.2 q hq
    refine hsl _ (h1.2.2 _ ?_)
    split <;> omega
  apply zOk_is
  unfold f_X12_ends
  rw [zk_bind]
  refine zOk_forQ (fun t x => x.2 = zI t ∧ zMk x.1 20 (fun b => ∃ q, q < 4 * t ∧ zex s q ∧ zend s sg side q = b)) (sS s) ?_ ?_ ⟨rfl, zMk_0 20 (fun b ⟨q, hq, _⟩ => by omega)⟩
  · rintro t ⟨x1, x2⟩ ht ⟨e1, e2⟩ Q hQ _
    dsimp only at e1 e2
    have hm := hs.2.1 t ht
    unfold f_X12_ends_L4
    dsimp only
    rw [h.1, e1, if_neg (by simp (disch := omega) only [zk_bind, zk_chk, zk_bnd, zk_some, zlp_l, zlp_r, zb_some, zb_bnd, zI_add, zI_sub, zI_mul, zI_neg, zI_le, zI_lt, zI_eq, zI_ix, zI_inI, Int.toNat_natCast, Int.toNat_add, Int.toNat_mul, true_and, and_true]; omega), zk_bind]
    refine zOk_for0 (fun r x => x.2 = zI r ∧ zMk x.1 20 (fun b => ∃ q, q < 4 * t + r ∧ zex s q ∧ zend s sg side q = b)) (sm s t) ?_ ?_ ⟨rfl, e2⟩
    · rintro r ⟨y1, y2⟩ hr ⟨d1, d2⟩
      dsimp only at d1 d2
      have hq := zex_of ht hr (by omega)
      unfold f_X12_ends_L15
      dsimp only
      rw [zI_inI (by omega) (by omega) (by omega), zb_chk, zI_ix (by omega) (by omega), Int.toNat_natCast, h.2.1 t ht, d1, if_neg (by simp (disch := omega) only [zk_bind, zk_chk, zk_bnd, zk_some, zlp_l, zlp_r, zb_some, zb_bnd, zI_add, zI_sub, zI_mul, zI_neg, zI_le, zI_lt, zI_eq, zI_ix, zI_inI, Int.toNat_natCast, Int.toNat_add, Int.toNat_mul, true_and, and_true]; omega), zI_mul, zI_add, show (4 * (t : Int) + r) = ((4 * t + r : Nat) : Int) by omega, r_endOf hF hsg hs h hsd hq, zb_some, zk_bnd, zk_bnd, zk_some, zlp_l]
      exact ⟨by rw [zI_add]; exact zI_inj (by omega), zMk_cg (zMk_or (by decide) d2 (hel _ hq)) (fun b => by rw [← Nat.add_assoc, zexS _ hq]; exact or_congr Iff.rfl ⟨Eq.symm, Eq.symm⟩)⟩
    · rintro ⟨y1, y2⟩ ⟨d1, d2⟩
      dsimp only at d1 d2
      unfold f_X12_ends_L15
      dsimp only
      rw [zI_inI (by omega) (by omega) (by omega), zb_chk, zI_ix (by omega) (by omega), Int.toNat_natCast, h.2.1 t ht, d1, if_pos (by simp (disch := omega) only [zk_bind, zk_chk, zk_bnd, zk_some, zlp_l, zlp_r, zb_some, zb_bnd, zI_add, zI_sub, zI_mul, zI_neg, zI_le, zI_lt, zI_eq, zI_ix, zI_inI, Int.toNat_natCast, Int.toNat_add, Int.toNat_mul, true_and, and_true]; omega), zk_some, zlp_r, zk_bnd, zk_some]
      exact hQ _ ⟨by rw [zI_add]; exact zI_inj (by omega), zskip (fun Q => zMk y1 20 (fun b => ∃ q, q < Q ∧ zex s q ∧ zend s sg side q = b)) (fun q hq hm => zMk_cg hm (fun b => zexN _ hq)) (by omega) d2⟩
  · rintro ⟨x1, x2⟩ ⟨e1, e2⟩
    dsimp only at e1 e2
    have hb : ∀ b, (∃ q, q < 4 * sS s ∧ zex s q ∧ zend s sg side q = b) ↔ ∃ q, zex s q ∧ zend s sg side q = b := fun b => ⟨fun ⟨q, _, g⟩ => ⟨q, g⟩, fun ⟨q, g⟩ => ⟨q, by have := g.1.1; omega, g⟩⟩
    refine ⟨x1, ?_, ?_⟩
    · unfold f_X12_ends_L4
      dsimp only
      rw [h.1, e1, if_pos (by simp (disch := omega) only [zk_bind, zk_chk, zk_bnd, zk_some, zlp_l, zlp_r, zb_some, zb_bnd, zI_add, zI_sub, zI_mul, zI_neg, zI_le, zI_lt, zI_eq, zI_ix, zI_inI, Int.toNat_natCast, Int.toNat_add, Int.toNat_mul, true_and, and_true]; omega)]
    · rw [zMk_pop (by decide) (zMk_cg e2 hb), zb_some, zk_some]
      rfl
theorem r_judgedWay {M : ZMem} {F : Nat} {s : ZS} {sg : Nat → Nat} (hF : F ≤ 20) (hsg : ∀ f, f < F → M.1 11 f = zI (sg f)) (hsl : ∀ f, f < F → sg f < 20) (hs : okS F s) (h : stonesR s M) : f_X12_judgedWay M = some (zI (zjud s sg)) := by
  have h1 := zrag_le hs 0
  have h2 := zrag_le hs 1
  have h3 := zends_le s sg 0
  have h4 := zends_le s sg 1
  have a0 : f_X12_ragged M (zI 0) = some (zI (zrag s 0)) := r_ragged hF hs h (side := 0) (by decide)
  have a1 : f_X12_ragged M (zI 1) = some (zI (zrag s 1)) := r_ragged hF hs h (side := 1) (by decide)
  have b0 : f_X12_ends M (zI 0) = some (zI (zends s sg 0)) := r_ends hF hsg hsl hs h (side := 0) (by decide)
  have b1 : f_X12_ends M (zI 1) = some (zI (zends s sg 1)) := r_ends hF hsg hsl hs h (side := 1) (by decide)
  unfold f_X12_judgedWay zjud
  rw [a0, a1, b0, b1]
  simp only [zb_some]
  by_cases c1 : zrag s 0 = zrag s 1
  · rw [if_pos (by rw [c1]), if_pos c1]
    by_cases c2 : zends s sg 1 < zends s sg 0
    · rw [if_neg (by simp (disch := omega) only [zk_bind, zk_chk, zk_bnd, zk_some, zlp_l, zlp_r, zb_some, zb_bnd, zI_add, zI_sub, zI_mul, zI_neg, zI_le, zI_lt, zI_eq, zI_ix, zI_inI, Int.toNat_natCast, Int.toNat_add, Int.toNat_mul, true_and, and_true]; omega), if_pos c2]; rfl
    · rw [if_pos (by simp (disch := omega) only [zk_bind, zk_chk, zk_bnd, zk_some, zlp_l, zlp_r, zb_some, zb_bnd, zI_add, zI_sub, zI_mul, zI_neg, zI_le, zI_lt, zI_eq, zI_ix, zI_inI, Int.toNat_natCast, Int.toNat_add, Int.toNat_mul, true_and, and_true]; omega), if_neg c2]; rfl
  · rw [if_neg (by simp (disch := omega) only [zk_bind, zk_chk, zk_bnd, zk_some, zlp_l, zlp_r, zb_some, zb_bnd, zI_add, zI_sub, zI_mul, zI_neg, zI_le, zI_lt, zI_eq, zI_ix, zI_inI, Int.toNat_natCast, Int.toNat_add, Int.toNat_mul, true_and, and_true]; omega), if_neg c1]
    by_cases c2 : zrag s 1 < zrag s 0
    · rw [if_neg (by simp (disch := omega) only [zk_bind, zk_chk, zk_bnd, zk_some, zlp_l, zlp_r, zb_some, zb_bnd, zI_add, zI_sub, zI_mul, zI_neg, zI_le, zI_lt, zI_eq, zI_ix, zI_inI, Int.toNat_natCast, Int.toNat_add, Int.toNat_mul, true_and, and_true]; omega), if_pos c2]; rfl
    · rw [if_pos (by simp (disch := omega) only [zk_bind, zk_chk, zk_bnd, zk_some, zlp_l, zlp_r, zb_some, zb_bnd, zI_add, zI_sub, zI_mul, zI_neg, zI_le, zI_lt, zI_eq, zI_ix, zI_inI, Int.toNat_natCast, Int.toNat_add, Int.toNat_mul, true_and, and_true]; omega), if_neg c2]; rfl
noncomputable def zrx (s : ZS) (q : Nat) : Nat := zsum q (fun q => zb (zex s q))
noncomputable def zbg (s : ZS) (q : Nat) : Nat := zsum q (zRL s)
theorem zrx_e {s : ZS} {q : Nat} (h : zex s q) : zrx s (q + 1) = zrx s q + 1 := by unfold zrx; rw [zsum_s, zb_t h]
theorem zrx_n {s : ZS} {q : Nat} (h : ¬ zex s q) : zrx s (q + 1) = zrx s q := by unfold zrx; rw [zsum_s, zb_f h]; rfl
theorem zbg_s (s : ZS) (q : Nat) : zbg s (q + 1) = zbg s q + zRL s q := rfl
theorem zbg_n {s : ZS} {q : Nat} (h : ¬ zex s q) : zbg s (q + 1) = zbg s q := by rw [zbg_s, zRL_n h]; rfl
theorem zrx_mono (s : ZS) {p q : Nat} (h : p ≤ q) : zrx s p ≤ zrx s q := by
  obtain ⟨d, rfl⟩ := Nat.exists_eq_add_of_le h
  unfold zrx
  rw [zsum_app]
  omega
theorem zbg_mono (s : ZS) {p q : Nat} (h : p ≤ q) : zbg s p ≤ zbg s q := by
  obtain ⟨d, rfl⟩ := Nat.exists_eq_add_of_le h
  unfold zbg
  rw [zsum_app]
  omega
theorem zrx_le (s : ZS) (q : Nat) : zrx s q ≤ q := zsum_le1 (fun _ _ => zb_le _)
theorem zbg_le {F : Nat} {s : ZS} (hs : okS F s) (q : Nat) : zbg s q ≤ q * 10 := zsum_le (fun i _ => zRL_le hs i)
def rowsR (s : ZS) (sg : Nat → Nat) (w : Int) (R : ZMem) : Prop := R.1 0 23 = zI (zrx s 24) ∧ (∀ q, q ≤ 24 → R.1 13 (zrx s q) = zI (zbg s q)) ∧ ∀ q k, q < 24 → k < zRL s q → R.1 14 (zbg s q + k) = zI (zRS s sg w q k)
/-- a loop over the rows that there are -/
theorem zOk_rows (s : ZS) {S E : Type} {step : S → Option (S ⊕ E)} {K : E → Prop} (I : Nat → S → Prop) (hn : ∀ q x, q < 24 → ¬ zex s q → I q x → I (q + 1) x) (hs : ∀ q x, q < 24 → zex s q → I q x → ∀ Q : S ⊕ E → Prop, (∀ x', I (q + 1) x' → Q (.inl x')) → (∀ e, K e → Q (.inr e)) → zOk (step x) Q) (he : ∀ x, I 24 x → ∃ e, step x = some (.inr e) ∧ K e) {x : S} (h0 : I 0 x) : zOk (zloop step x) K := by
  have key : ∀ d q x, q + d = 24 → I q x → zOk (zloop step x) K := by
    intro d
    induction d with
    | zero =>
      intro q x hq hx
      obtain ⟨e, h1, h2⟩ := he x (by rwa [show q = 24 by omega] at hx)
      exact ⟨e, zloop_out h1, h2⟩
    | succ d ih =>
      intro q x hq hx
      by_cases hz : zex s q
      · obtain ⟨y, h1, h2⟩ := hs q x (by omega) hz hx (zlp (I (q + 1)) K) (fun _ h => h) (fun _ h => h)
        cases y with
        | inl x' =>
          obtain ⟨e, h3, h4⟩ := ih (q + 1) x' (by omega) h2
          exact ⟨e, zloop_in h1 h3, h4⟩
        | inr e => exact ⟨e, zloop_out h1, h2⟩
      · exact ih (q + 1) x (by omega) (hn q x (by omega) hz hx)
  exact key 24 0 x rfl h0
theorem r_laysRow {M : ZMem} {F : Nat} {s : ZS} {sg : Nat → Nat} {w : Int} (hF : F ≤ 20) (hsg : ∀ f, f < F → M.1 11 f = zI (sg f)) (hs : okS F s) (h : stonesR s M) {q : Nat} (hq : zex s q) (hr : M.1 0 23 = zI (zrx s q)) (hb : M.1 13 (zrx s q) = zI (zbg s q)) : zOk (f_X12_laysRow M (zI q) (zI (zb (zturn s sg w q)))) (fun M' => M'.1 0 23 = zI (zrx s (q + 1)) ∧ M'.1 13 (zrx s (q + 1)) = zI (zbg s (q + 1)) ∧ (∀ k, k < zRL s q → M'.1 14 (zbg s q + k) = zI (zRS s sg w q k)) ∧ zP (fun a k => (a == 0 && k == 23) || (a == 13 && k == zrx s (q + 1)) || (a == 14 && zbg s q ≤ k)) M M') := by
  have hq24 := zex_lt hs hq
  have hn := hs.2.2 q hq
  have hb1 := zrx_le s q
  have hb2 := zbg_le hs q
  unfold f_X12_laysRow
  rw [hr, zI_inI (by omega) (by omega) (by omega), zb_chk, zI_ix (by omega) (by omega), Int.toNat_natCast, hb, zk_bnd, zk_bind]
  -- after i places: how many are letters
  have cnt : ∀ j, j ≤ sn s q → ∀ (j' : Nat), j' = j → True := fun _ _ _ _ => trivial
  refine zOk_forQ (fun i x => x.2.2 = zI i ∧ zP (fun a k => (a == 0 && k == 23) || (a == 13 && k == zrx s (q + 1)) || (a == 14 && zbg s q ≤ k)) M x.1 ∧ x.1.1 0 23 = zI (zrx s q) ∧ ∃ c : Nat, c = min (sn s q) (i - zif (zturn s sg w q) (sr s q) (sl s q)) ∧ x.2.1 = zI ((zbg s q + c : Nat) : Int) ∧ ∀ k, k < c → x.1.1 14 (zbg s q + k) = zI (zRS s sg w q k)) (sl s q + sn s q + sr s q) ?_ ?_ ⟨rfl, zP_rf, hr, 0, by omega, rfl, fun k hk => absurd hk (Nat.not_lt_zero k)⟩
  · rintro i ⟨x1, x2, x3⟩ hi ⟨e1, e2, e3, c, e4, e5, e6⟩ Q hQ _
    dsimp only at e1 e2 e3 e5 e6
    have h1 : stonesR s x1 := stonesR_x (fun a k ha => e2.1 a k (by unfold dstonesR at ha; simp at ha ⊢; omega)) h
    have hg : ∀ f, f < F → x1.1 11 f = zI (sg f) := fun f hf => by rw [e2.1 11 f (by simp)]; exact hsg f hf
    have key : ∀ j : Nat, j < sl s q + sn s q + sr s q → ((sl s q ≤ j ∧ j < sl s q + sn s q) ↔ (zif (zturn s sg w q) (sr s q) (sl s q) ≤ i ∧ i < zif (zturn s sg w q) (sr s q) (sl s q) + sn s q)) → (∀ hj : sl s q ≤ j ∧ j < sl s q + sn s q, zRS s sg w q c = sg (sx s (10 * q + (j - sl s q)))) → zOk (f_X12_laysRow_52_L13 x1 (zI q) (zI (zb (zturn s sg w q))) x2 x3 (zI 10 * zI q) (zI j)) Q := by
      intro j hj hin hval
      unfold f_X12_laysRow_52_L13
      rw [zI_mul, zI_add, zI_inI (by omega) (by omega) (by omega), zb_chk, zI_ix (by omega) (by omega), show (10 * (q : Int) + j).toNat = 10 * q + j by omega, r_place hF hs h1 hq hj, zk_bnd]
      by_cases hc : sl s q ≤ j ∧ j < sl s q + sn s q
      · have hlt := hn.2.2 (j - sl s q) (by omega)
        rw [if_pos hc, if_neg (by simp (disch := omega) only [zk_bind, zk_chk, zk_bnd, zk_some, zlp_l, zlp_r, zb_some, zb_bnd, zI_add, zI_sub, zI_mul, zI_neg, zI_le, zI_lt, zI_eq, zI_ix, zI_inI, Int.toNat_natCast, Int.toNat_add, Int.toNat_mul, true_and, and_true]; omega), zI_inI (by omega) (by omega) (by omega), zb_chk, e5, zI_inI (by omega) (by omega) (by omega), zb_chk, zI_ix (by omega) (by omega), zI_ix (by omega) (by omega), Int.toNat_natCast, Int.toNat_natCast, hg _ hlt, zk_bnd, zk_bnd, zk_bnd, zk_some, e1, zI_add, zI_add]
        refine hQ _ ⟨zI_inj (by omega), zP_I e2 (by simp), by rw [zm_Iq _ _ _ _ (by decide)]; exact e3, c + 1, by omega, zI_inj (by omega), fun k hk => ?_⟩
        rw [zm_I]
        split
        · next e =>
          rw [show k = c by omega, hval hc]
        · exact e6 k (by omega)
      · rw [if_neg hc, if_pos rfl, zk_bnd, zk_some, e1, zI_add]
        exact hQ _ ⟨zI_inj (by omega), e2, e3, c, by omega, e5, e6⟩
    unfold f_X12_laysRow_L13
    dsimp only
    rw [zI_inI (by omega) (by omega) (by omega), zb_chk, zI_ix (by omega) (by omega), Int.toNat_natCast, (h1.2.2 q hq).1, if_neg (by rw [e1]; simp (disch := omega) only [zk_bind, zk_chk, zk_bnd, zk_some, zlp_l, zlp_r, zb_some, zb_bnd, zI_add, zI_sub, zI_mul, zI_neg, zI_le, zI_lt, zI_eq, zI_ix, zI_inI, Int.toNat_natCast, Int.toNat_add, Int.toNat_mul, true_and, and_true]; omega)]
    by_cases ht : zturn s sg w q
    · rw [zif_t ht] at e4 key
      rw [if_neg (by rw [zb_0]; exact not_not_intro ht), zb_chk, zI_sub, e1, zI_sub, show (((sl s q + sn s q + sr s q : Nat) : Int) - 1 - i) = ((sl s q + sn s q + sr s q - 1 - i : Nat) : Int) by omega]
      rw [e1] at key
      refine key _ (by omega) (by omega) (fun hj => ?_)
      unfold zRS
      rw [zif_t ht]
      congr 3
      omega
    · rw [zif_f ht] at e4 key
      rw [if_pos (by rw [zb_0]; exact ht), e1]
      rw [e1] at key
      refine key i (by omega) Iff.rfl (fun hj => ?_)
      unfold zRS
      rw [zif_f ht]
      congr 3
      omega
  · rintro ⟨x1, x2, x3⟩ ⟨e1, e2, e3, c, e4, e5, e6⟩
    dsimp only at e1 e2 e3 e5 e6
    have h1 : stonesR s x1 := stonesR_x (fun a k ha => e2.1 a k (by unfold dstonesR at ha; simp at ha ⊢; omega)) h
    have hc : c = sn s q := by
      by_cases ht : zturn s sg w q
      · rw [zif_t ht] at e4; omega
      · rw [zif_f ht] at e4; omega
    refine ⟨(x1, x2), ?_, ?_⟩
    · unfold f_X12_laysRow_L13
      dsimp only
      rw [zI_inI (by omega) (by omega) (by omega), zb_chk, zI_ix (by omega) (by omega), Int.toNat_natCast, (h1.2.2 q hq).1, if_pos (by rw [e1]; simp (disch := omega) only [zk_bind, zk_chk, zk_bnd, zk_some, zlp_l, zlp_r, zb_some, zb_bnd, zI_add, zI_sub, zI_mul, zI_neg, zI_le, zI_lt, zI_eq, zI_ix, zI_inI, Int.toNat_natCast, Int.toNat_add, Int.toNat_mul, true_and, and_true]; omega)]
    · have en : zI ((zrx s q : Int)) + zI 1 = zI (zrx s (q + 1)) := by rw [zI_add, zrx_e hq]; exact zI_inj (by omega)
      have hb3 := zrx_le s (q + 1)
      rw [zk_bnd, zm_Is]
      dsimp only
      rw [e3, en, zI_inI (by omega) (by omega) (by omega), zb_chk, zI_ix (by omega) (by omega), Int.toNat_natCast, zk_bnd, zk_some]
      refine ⟨by rw [zm_Iq _ _ _ _ (by decide), zm_Is], ?_, fun k hk => ?_, zP_I (zP_I e2 (by simp)) (by simp)⟩
      · rw [zm_Is, e5, zbg_s, zRL_e hq, hc]
      · rw [zm_Iq _ _ _ _ (by decide), zm_Iq _ _ _ _ (by decide)]
        rw [zRL_e hq] at hk
        exact e6 k (by omega)
