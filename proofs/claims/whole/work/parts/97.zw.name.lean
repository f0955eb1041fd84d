/-! ===== names told ===== deps: 97.zq.comes 97.zs.ways -/
def zTxt (w i : Nat) : Nat := (if w = 0 then [112, 116, 107, 109, 110, 114, 108, 115, 119, 106] else [97, 101, 105, 111, 117]).getD i 0
def zTL (w : Nat) : Nat := if w = 0 then 10 else 5
noncomputable def zkd (w : Nat) (b : Int) : Int := if zfst (fun i => (zTxt w i : Int) = b) (zTL w) 0 < zTL w then (zfst (fun i => (zTxt w i : Int) = b) (zTL w) 0 : Int) else -1
theorem zkd_of {w i : Nat} {b : Int} (h1 : i < zTL w) (h2 : (zTxt w i : Int) = b) (h3 : ∀ j, j < i → ¬ (zTxt w j : Int) = b) : zkd w b = i := by
  have : zfst (fun i => (zTxt w i : Int) = b) (zTL w) 0 = i := zfst_of (by omega) (by omega) (fun j _ hj => h3 j hj) (Or.inr h2)
  unfold zkd
  rw [this, if_pos h1]
theorem zkd_no {w : Nat} {b : Int} (h3 : ∀ j, j < zTL w → ¬ (zTxt w j : Int) = b) : zkd w b = -1 := by
  have : zfst (fun i => (zTxt w i : Int) = b) (zTL w) 0 = zTL w := zfst_of (by omega) (by omega) (fun j _ hj => h3 j hj) (Or.inl (by omega))
  unfold zkd
  rw [this, if_neg (by omega)]
theorem zTL_le (w : Nat) : zTL w ≤ 10 := by unfold zTL; split <;> omega
theorem zkd_rng (w : Nat) (b : Int) : -1 ≤ zkd w b ∧ zkd w b < zTL w := by
  unfold zkd
  split
  · next h => omega
  · have : 1 ≤ zTL w := by unfold zTL; split <;> omega
    omega
theorem zkd_m1 (w : Nat) : zkd w (-1) = -1 := zkd_no (fun j _ hh => by omega)
theorem zchr : ∀ n, n < 256 → (Int32.toUInt32 (zI ((n : Nat) : Int)) % 65536).toInt32 = zI ((n : Nat) : Int) := by decide +kernel
theorem zchb : ∀ w, w < 2 → ∀ i, i < zTL w → ∀ n, n < 256 → ((zByt.getD w []).getD i 0 = (zI ((n : Nat) : Int)).toInt8.toInt32 ↔ zTxt w i = n) := by decide +kernel
theorem zLen_w : ∀ w, w < 2 → zLen.getD w 0 = zTL w := by decide
theorem c_kindOf {M : ZMem} {w : Nat} (hw : w < 2) {b : Int} (h1 : -1 ≤ b) (h2 : b < 256) : f_X4_kindOf w M (zI b) = some (zI (zkd w b)) := by
  have hT := zTL_le w
  unfold f_X4_kindOf
  by_cases hb : b = -1
  · rw [if_pos (by rw [hb]), hb, zkd_m1]
  · obtain ⟨n, rfl⟩ := Int.eq_ofNat_of_zero_le (show 0 ≤ b by omega)
    have hT1 : 0 < zTL w := by unfold zTL; split <;> omega
    rw [if_neg (by simp (disch := omega) only [zk_bind, zk_chk, zk_bnd, zk_some, zlp_l, zlp_r, zb_some, zb_bnd, zI_add, zI_sub, zI_mul, zI_neg, zI_le, zI_lt, zI_eq, zI_ix, zI_inI, Int.toNat_natCast, Int.toNat_add, Int.toNat_mul, true_and, and_true]; omega), zchr n (by omega)]
    unfold f_J0_indexOf_0f7a4 f_J0_indexOf_7cf53 f_J0_isLatin1_aae02 f_J0_length_8abf5 f_J0_coder_7d493
    rw [if_neg (c := zI 1 = zI 0) (by decide), if_pos (c := zI 0 = zI 0) rfl, zb_some, if_neg (c := zI 1 = zI 0) (by decide), if_neg (c := zI 1 = zI 0) (by decide), zb_some, zb_some, show zI ((zLen.getD w 0 : Nat) : Int) >>> (zI 0 &&& 31) = zI ((zTL w : Nat) : Int) by
      rcases (show w = 0 ∨ w = 1 by omega) with rfl | rfl <;> decide]
    unfold f_J1_indexOf_4cfef f_J1_canEncode_9a6ad
    rw [if_neg (c := zI (n : Int) < zI 0) (by simp (disch := omega) only [zk_bind, zk_chk, zk_bnd, zk_some, zlp_l, zlp_r, zb_some, zb_bnd, zI_add, zI_sub, zI_mul, zI_neg, zI_le, zI_lt, zI_eq, zI_ix, zI_inI, Int.toNat_natCast, Int.toNat_add, Int.toNat_mul, true_and, and_true]; omega), if_neg (c := zI 255 < zI (n : Int)) (by simp (disch := omega) only [zk_bind, zk_chk, zk_bnd, zk_some, zlp_l, zlp_r, zb_some, zb_bnd, zI_add, zI_sub, zI_mul, zI_neg, zI_le, zI_lt, zI_eq, zI_ix, zI_inI, Int.toNat_natCast, Int.toNat_add, Int.toNat_mul, true_and, and_true]; omega), zb_some, if_neg (c := zI 1 = zI 0) (by decide), zb_bnd, if_neg (c := zI 0 < zI 0) (by decide), zb_bnd, zLen_w w hw, if_neg (c := zI ((zTL w : Nat) : Int) < zI ((zTL w : Nat) : Int)) (by simp (disch := omega) only [zk_bind, zk_chk, zk_bnd, zk_some, zlp_l, zlp_r, zb_some, zb_bnd, zI_add, zI_sub, zI_mul, zI_neg, zI_le, zI_lt, zI_eq, zI_ix, zI_inI, Int.toNat_natCast, Int.toNat_add, Int.toNat_mul, true_and, and_true]; omega), if_pos (by simp (disch := omega) only [zk_bind, zk_chk, zk_bnd, zk_some, zlp_l, zlp_r, zb_some, zb_bnd, zI_add, zI_sub, zI_mul, zI_neg, zI_le, zI_lt, zI_eq, zI_ix, zI_inI, Int.toNat_natCast, Int.toNat_add, Int.toNat_mul, true_and, and_true]; omega)]
    unfold f_J1_indexOfChar_4cfef
    rw [zb_bnd]
    have key : zbind (zloop (f_J1_indexOfChar_4cfef_L7 w M (zI ((zTL w : Nat) : Int)) (zI (n : Int)).toInt8.toInt32) (zI 0)) (fun e7 => zsel e7 (fun e7a => some (zI (-1))) (fun e7b => some e7b)) = some (zI (zkd w n)) := by
      refine zOk_is ?_
      rw [zk_bind]
      refine zOk_forQ (fun i s => s = zI i ∧ ∀ j, j < i → ¬ (zTxt w j : Int) = n) (zTL w) ?_ ?_ ⟨rfl, fun j hj => absurd hj (Nat.not_lt_zero j)⟩
      · rintro i s hi ⟨rfl, e2⟩ Q hQ hE
        unfold f_J1_indexOfChar_4cfef_L7
        rw [if_neg (by simp (disch := omega) only [zk_bind, zk_chk, zk_bnd, zk_some, zlp_l, zlp_r, zb_some, zb_bnd, zI_add, zI_sub, zI_mul, zI_neg, zI_le, zI_lt, zI_eq, zI_ix, zI_inI, Int.toNat_natCast, Int.toNat_add, Int.toNat_mul, true_and, and_true]; omega), zLen_w w hw, zI_inI (by omega) (by omega) (by omega), zb_chk, zI_ix (by omega) (by omega), Int.toNat_natCast]
        by_cases he : zTxt w i = n
        · rw [if_pos ((zchb w hw i hi n (by omega)).mpr he), zk_some]
          refine hE _ ?_
          show zOk (some (zI i)) _
          rw [zk_some, zkd_of hi (by rw [he]) e2]
        · rw [if_neg (fun hh => he ((zchb w hw i hi n (by omega)).mp hh)), zk_bnd, zk_some, zI_add]
          refine hQ _ ⟨zI_inj (by omega), fun j hj => ?_⟩
          by_cases hji : j = i
          · rw [hji]; omega
          · exact e2 j (by omega)
      · rintro s ⟨rfl, e2⟩
        refine ⟨.inl (), ?_, ?_⟩
        · unfold f_J1_indexOfChar_4cfef_L7
          rw [if_pos (by simp (disch := omega) only [zk_bind, zk_chk, zk_bnd, zk_some, zlp_l, zlp_r, zb_some, zb_bnd, zI_add, zI_sub, zI_mul, zI_neg, zI_le, zI_lt, zI_eq, zI_ix, zI_inI, Int.toNat_natCast, Int.toNat_add, Int.toNat_mul, true_and, and_true]; omega)]
        · show zOk (some (zI (-1))) _
          rw [zk_some, zkd_no e2]
    rw [key, zb_some, zb_some, zb_some, zb_some]
theorem r_charAt {M : ZMem} {w i : Nat} (hw : w < 2) (hi : i < zTL w) : f_J0_charAt_5068e w M (zI i) = some (zI (zTxt w i)) := by
  have hT := zTL_le w
  have hz : ∀ w, w < 2 → ∀ i, i < zTL w → (Int32.toUInt32 (((zByt.getD w []).getD i 0) &&& (zI 255)) % 65536).toInt32 = zI ((zTxt w i : Nat) : Int) ∧ zisC (zI ((zTxt w i : Nat) : Int)) = true := by decide +kernel
  unfold f_J0_charAt_5068e f_J0_isLatin1_aae02
  rw [if_neg (c := zI 1 = zI 0) (by decide), if_pos (c := zI 0 = zI 0) rfl, zb_some, if_neg (c := zI 1 = zI 0) (by decide)]
  unfold f_J1_charAt_3b067 f_J0_checkIndex_df160 f_J3_checkIndex_8e157
  rw [zLen_w w hw]
  rw [if_neg (by simp (disch := omega) only [zk_bind, zk_chk, zk_bnd, zk_some, zlp_l, zlp_r, zb_some, zb_bnd, zI_add, zI_sub, zI_mul, zI_neg, zI_le, zI_lt, zI_eq, zI_ix, zI_inI, Int.toNat_natCast, Int.toNat_add, Int.toNat_mul, true_and, and_true]; omega), if_pos (by simp (disch := omega) only [zk_bind, zk_chk, zk_bnd, zk_some, zlp_l, zlp_r, zb_some, zb_bnd, zI_add, zI_sub, zI_mul, zI_neg, zI_le, zI_lt, zI_eq, zI_ix, zI_inI, Int.toNat_natCast, Int.toNat_add, Int.toNat_mul, true_and, and_true]; omega), zb_some, zb_some, zI_inI (by omega) (by omega) (by omega), zb_chk, zI_ix (by omega) (by omega), Int.toNat_natCast, (hz w hw i hi).1, zb_some, (hz w hw i hi).2, zb_chk]
theorem r_len {M : ZMem} {w : Nat} (hw : w < 2) : f_J0_length_8abf5 w M = some (zI (zTL w)) := by
  unfold f_J0_length_8abf5 f_J0_coder_7d493
  rw [if_neg (c := zI 1 = zI 0) (by decide), zb_some]
  rcases (show w = 0 ∨ w = 1 by omega) with rfl | rfl <;> decide
theorem r_oneOf {M : ZMem} {t : List Nat} {p w : Nat} (hw : w < 2) (hb : okB t) (h : tapeR t M) (hp1 : p ≤ 1000) (hp : M.1 0 2 = zI p) (h3 : M.1 0 3 = zI (-1)) : f_X12_oneOf w M = some (if zkd w (zch t p) = -1 then (zstI M 0 3 (zI (8 * (p : Int) + 1)), zI 0) else (M, zI (zkd w (zch t p)))) := by
  have hT := zTL_le w
  have hz := zch_rng hb p
  have tl : ∀ i, i < zTL w → zTxt w i < 256 := by
    have : ∀ w, w < 2 → ∀ i, i < zTL w → zTxt w i < 256 := by decide
    exact this w hw
  unfold f_X12_oneOf
  refine zOk_is ?_
  rw [zk_bind]
  refine zOk_forQ (fun i s => s = zI i ∧ ∀ j, j < i → ¬ (zTxt w j : Int) = zch t p) (zTL w) ?_ ?_ ⟨rfl, fun j hj => absurd hj (Nat.not_lt_zero j)⟩
  · rintro i s hi ⟨rfl, e2⟩ Q hQ hE
    have := tl i hi
    unfold f_X12_oneOf_L2
    rw [r_len hw, zb_some, if_neg (by simp (disch := omega) only [zk_bind, zk_chk, zk_bnd, zk_some, zlp_l, zlp_r, zb_some, zb_bnd, zI_add, zI_sub, zI_mul, zI_neg, zI_le, zI_lt, zI_eq, zI_ix, zI_inI, Int.toNat_natCast, Int.toNat_add, Int.toNat_mul, true_and, and_true]; omega), r_sign hb h hp1 hp, zb_some, r_charAt hw hi, zb_some]
    by_cases he : (zTxt w i : Int) = zch t p
    · rw [if_pos (by rw [he]), zk_some]
      refine hE _ ?_
      show zOk (some (M, zI i)) _
      have ek := zkd_of hi he e2
      rw [zk_some, ek, if_neg (by omega)]
    · rw [if_neg (by simp (disch := omega) only [zk_bind, zk_chk, zk_bnd, zk_some, zlp_l, zlp_r, zb_some, zb_bnd, zI_add, zI_sub, zI_mul, zI_neg, zI_le, zI_lt, zI_eq, zI_ix, zI_inI, Int.toNat_natCast, Int.toNat_add, Int.toNat_mul, true_and, and_true]; omega), zk_bnd, zk_some, zI_add]
      refine hQ _ ⟨zI_inj (by omega), fun j hj => ?_⟩
      by_cases hji : j = i
      · rw [hji]; exact he
      · exact e2 j (by omega)
  · rintro s ⟨rfl, e2⟩
    refine ⟨.inl (), ?_, ?_⟩
    · unfold f_X12_oneOf_L2
      rw [r_len hw, zb_some, if_pos (by simp (disch := omega) only [zk_bind, zk_chk, zk_bnd, zk_some, zlp_l, zlp_r, zb_some, zb_bnd, zI_add, zI_sub, zI_mul, zI_neg, zI_le, zI_lt, zI_eq, zI_ix, zI_inI, Int.toNat_natCast, Int.toNat_add, Int.toNat_mul, true_and, and_true]; omega)]
    · show zOk (zbind (f_X12_fails M (zI 1) (M.1 0 2)) (fun M_36 => some (M_36, (zI 0)))) _
      unfold f_X12_fails
      rw [h3, if_pos rfl, hp, zI_mul, zI_add, zb_bnd, zb_some, zk_some, if_pos (zkd_no e2)]
-- what a text tells
noncomputable def zvl (t : List Nat) (i : Nat) : Prop := zkd 0 (zch t (2 * i)) ≠ -1 ∧ zkd 1 (zch t (2 * i + 1)) ≠ -1
noncomputable def zsy (t : List Nat) (i : Nat) : Nat := (5 * zkd 0 (zch t (2 * i)) + zkd 1 (zch t (2 * i + 1))).toNat
theorem zsy_v {t : List Nat} {i : Nat} (h : zvl t i) : (zsy t i : Int) = 5 * zkd 0 (zch t (2 * i)) + zkd 1 (zch t (2 * i + 1)) ∧ zsy t i < 50 := by
  have h1 := zkd_rng 0 (zch t (2 * i))
  have h2 := zkd_rng 1 (zch t (2 * i + 1))
  have h3 := h.1
  have h4 := h.2
  rw [show zTL 0 = 10 from rfl] at h1
  rw [show zTL 1 = 5 from rfl] at h2
  unfold zsy
  omega
def zokN (t : List Nat) (n : Nat) : Prop := 2 ≤ n ∧ n ≤ 7 ∧ (∀ i, i < n → zvl t i) ∧ zch t (2 * n) = -1
def zftN (t : List Nat) (f : Nat) : Prop := ∃ n, n ≤ 7 ∧ (∀ i, i < n → zvl t i) ∧ ¬ (2 ≤ n ∧ zch t (2 * n) = -1) ∧ ((zkd 0 (zch t (2 * n)) = -1 ∧ f = 8 * (2 * n) + 1) ∨ (zkd 0 (zch t (2 * n)) ≠ -1 ∧ n = 7 ∧ f = 8 * (2 * n) + 2) ∨ (zkd 0 (zch t (2 * n)) ≠ -1 ∧ n < 7 ∧ zkd 1 (zch t (2 * n + 1)) = -1 ∧ f = 8 * (2 * n + 1) + 1))
theorem zokN_one {t : List Nat} {n n' : Nat} (h : zokN t n) (h' : zokN t n') : n = n' := by
  rcases Nat.lt_trichotomy n n' with hc | hc | hc
  · have := (h'.2.2.1 n hc).1
    rw [h.2.2.2, zkd_m1] at this
    exact absurd rfl this
  · exact hc
  · have := (h.2.2.1 n' hc).1
    rw [h'.2.2.2, zkd_m1] at this
    exact absurd rfl this
theorem zokN_ft {t : List Nat} {n f : Nat} (h : zokN t n) (h' : zftN t f) : False := by
  obtain ⟨m, m1, m2, m3, m4⟩ := h'
  rcases Nat.lt_trichotomy n m with hc | hc | hc
  · have := (m2 n hc).1
    rw [h.2.2.2, zkd_m1] at this
    exact this rfl
  · exact m3 (by rw [← hc]; exact ⟨h.1, h.2.2.2⟩)
  · have := h.2.2.1 m hc
    have := h.2.1
    unfold zvl at *
    rcases m4 with m4 | m4 | m4
    · exact absurd m4.1 (h.2.2.1 m hc).1
    · omega
    · exact absurd m4.2.2.1 (h.2.2.1 m hc).2
theorem zftN_one {t : List Nat} {f f' : Nat} (h : zftN t f) (h' : zftN t f') : f = f' := by
  obtain ⟨n, n1, n2, n3, n4⟩ := h
  obtain ⟨m, m1, m2, m3, m4⟩ := h'
  have stop : ∀ n m f, n < m → (∀ i, i < m → zvl t i) → m ≤ 7 → ((zkd 0 (zch t (2 * n)) = -1 ∧ f = 8 * (2 * n) + 1) ∨ (zkd 0 (zch t (2 * n)) ≠ -1 ∧ n = 7 ∧ f = 8 * (2 * n) + 2) ∨ (zkd 0 (zch t (2 * n)) ≠ -1 ∧ n < 7 ∧ zkd 1 (zch t (2 * n + 1)) = -1 ∧ f = 8 * (2 * n + 1) + 1)) → False := by
    intro n m f hnm hv hm hh
    have hvn := hv n hnm
    rcases hh with hh | hh | hh
    · exact hvn.1 hh.1
    · omega
    · exact hvn.2 hh.2.2.1
  rcases Nat.lt_trichotomy n m with hc | hc | hc
  · exact (stop n m f hc m2 m1 n4).elim
  · subst hc
    rcases n4 with n4 | n4 | n4 <;> rcases m4 with m4 | m4 | m4
    all_goals first | omega | exact absurd m4.1 n4.1 | exact absurd n4.1 m4.1
  · exact (stop m n f' hc n2 n1 m4).elim
theorem zftN_lt {t : List Nat} {f : Nat} (h : zftN t f) : f < 200 := by
  obtain ⟨n, n1, n2, n3, n4⟩ := h
  omega
def zdup (N : Nat) (nl ny : Nat → Nat) (t : List Nat) (n : Nat) : Prop := ∃ k, k < N ∧ nl k = n ∧ ∀ i, i < n → ny (7 * k + i) = zsy t i
def zoutF (N : Nat) (nl ny : Nat → Nat) (t : List Nat) (f : Nat) : Prop := zftN t f ∨ ∃ n, zokN t n ∧ zdup N nl ny t n ∧ f = 3
def zWnm (N : Nat) (a k : Nat) : Bool := (a == 18 && 7 * N ≤ k) || (a == 19 && k == N) || (a == 17 && k == 2)
theorem c_same {M : ZMem} {N : Nat} {nl ny : Nat → Nat} (hn : okN N nl ny) {k n : Nat} {t : List Nat} (hN : N < 4) (hk : k < N) (hnl : M.1 19 k = zI (nl k)) (hny : ∀ i, i < nl k → M.1 18 (7 * k + i) = zI (ny (7 * k + i))) (hv : ∀ i, i < n → zvl t i) (h1 : M.1 19 N = zI n) (h2 : ∀ i, i < n → M.1 18 (7 * N + i) = zI (zsy t i)) (hn7 : n ≤ 7) : f_X4_same M (zI k) (zI N) = some (zI (zb (nl k = n ∧ ∀ i, i < n → ny (7 * k + i) = zsy t i))) := by
  have h7 := (hn.2 k hk).2.1
  unfold f_X4_same
  rw [zI_inI (by omega) (by omega) (by omega), zb_chk, zI_inI (by omega) (by omega) (by omega), zb_chk, zI_ix (by omega) (by omega), zI_ix (by omega) (by omega), Int.toNat_natCast, Int.toNat_natCast, hnl, h1]
  by_cases he : nl k = n
  · rw [if_pos (by rw [he])]
    refine zOk_is ?_
    rw [zk_bind]
    refine zOk_forQ (fun i s => s = zI i ∧ ∀ j, j < i → ny (7 * k + j) = zsy t j) n ?_ ?_ ⟨rfl, fun j hj => absurd hj (Nat.not_lt_zero j)⟩
    · rintro i s hi ⟨rfl, e2⟩ Q hQ hE
      have y1 := (hn.2 k hk).2.2 i (by omega)
      have y2 := (zsy_v (hv i hi)).2
      unfold f_X4_same_L19
      rw [zI_inI (by omega) (by omega) (by omega), zb_chk, zI_ix (by omega) (by omega), Int.toNat_natCast, hnl, if_neg (by simp (disch := omega) only [zk_bind, zk_chk, zk_bnd, zk_some, zlp_l, zlp_r, zb_some, zb_bnd, zI_add, zI_sub, zI_mul, zI_neg, zI_le, zI_lt, zI_eq, zI_ix, zI_inI, Int.toNat_natCast, Int.toNat_add, Int.toNat_mul, true_and, and_true]; omega), zI_mul, zI_add, zI_inI (by omega) (by omega) (by omega), zb_chk, zI_mul, zI_add, zI_inI (by omega) (by omega) (by omega), zb_chk, zI_ix (by omega) (by omega), zI_ix (by omega) (by omega), show ((k : Int) * 7 + (i : Int)).toNat = 7 * k + i by omega, show ((N : Int) * 7 + (i : Int)).toNat = 7 * N + i by omega, hny i (by omega), h2 i hi]
      by_cases hz : ny (7 * k + i) = zsy t i
      · rw [if_pos (by rw [hz]), zk_bnd, zk_some, zI_add]
        refine hQ _ ⟨zI_inj (by omega), fun j hj => ?_⟩
        by_cases hji : j = i
        · rw [hji]; exact hz
        · exact e2 j (by omega)
      · rw [if_neg (by simp (disch := omega) only [zk_bind, zk_chk, zk_bnd, zk_some, zlp_l, zlp_r, zb_some, zb_bnd, zI_add, zI_sub, zI_mul, zI_neg, zI_le, zI_lt, zI_eq, zI_ix, zI_inI, Int.toNat_natCast, Int.toNat_add, Int.toNat_mul, true_and, and_true]; omega), zk_some]
        refine hE _ ?_
        show zOk (some (zI 0)) _
        rw [zk_some, zb_f (fun hh => hz (hh.2 i hi))]
        rfl
    · rintro s ⟨rfl, e2⟩
      refine ⟨.inl (), ?_, ?_⟩
      · unfold f_X4_same_L19
        rw [zI_inI (by omega) (by omega) (by omega), zb_chk, zI_ix (by omega) (by omega), Int.toNat_natCast, hnl, if_pos (by simp (disch := omega) only [zk_bind, zk_chk, zk_bnd, zk_some, zlp_l, zlp_r, zb_some, zb_bnd, zI_add, zI_sub, zI_mul, zI_neg, zI_le, zI_lt, zI_eq, zI_ix, zI_inI, Int.toNat_natCast, Int.toNat_add, Int.toNat_mul, true_and, and_true]; omega)]
      · show zOk (some (zI 1)) _
        rw [zk_some, zb_t ⟨he, e2⟩]
        rfl
  · rw [if_neg (by simp (disch := omega) only [zk_bind, zk_chk, zk_bnd, zk_some, zlp_l, zlp_r, zb_some, zb_bnd, zI_add, zI_sub, zI_mul, zI_neg, zI_le, zI_lt, zI_eq, zI_ix, zI_inI, Int.toNat_natCast, Int.toNat_add, Int.toNat_mul, true_and, and_true]; omega), zb_f (fun hh => he hh.1)]
    rfl
theorem c_takeName {M : ZMem} {N : Nat} {nl ny : Nat → Nat} {t : List Nat} (hn : okN N nl ny) (hN : N < 4) (hb : okB t) (ht : tapeC t M) (hnm : namesC N nl ny M) : zOk (f_X4_takeFrom M) (fun r => zP (zWnm N) M r.1 ∧ ((∃ n, zokN t n ∧ ¬ zdup N nl ny t n ∧ r.2 = zI N ∧ r.1.1 17 2 = zI ((N + 1 : Nat) : Int) ∧ r.1.1 19 N = zI n ∧ ∀ i, i < n → r.1.1 18 (7 * N + i) = zI (zsy t i)) ∨ (∃ f, zoutF N nl ny t f ∧ r.2 = zI (-2 - (f : Int)) ∧ r.1.1 17 2 = zI N))) := by
  unfold f_X4_takeFrom
  rw [zk_bind]
  refine zOk_forQ (fun n s => n ≤ 7 ∧ s.2 = zI n ∧ zP (zWnm N) M s.1 ∧ s.1.1 17 2 = zI N ∧ (∀ i, i < n → zvl t i ∧ s.1.1 18 (7 * N + i) = zI (zsy t i))) 8 ?_ ?_ ⟨by omega, rfl, zP_rf, hnm.1, fun i hi => absurd hi (Nat.not_lt_zero i)⟩
  · rintro n ⟨C, s2⟩ hn8 ⟨n7, e1, e2, e3, e4⟩ Q hQ hE
    dsimp only at e1 e2 e3 e4
    have htC : tapeC t C := ⟨by rw [e2.1 1 1 rfl]; exact ht.1, fun i hi => by rw [e2.1 2 i rfl]; exact ht.2 i hi⟩
    have fault : ∀ f : Nat, zoutF N nl ny t f → Q (.inr (.inr (C, zI (-2 - (f : Int))))) := by
      intro f hf
      refine hE _ ?_
      show zOk (some (C, zI (-2 - (f : Int)))) _
      rw [zk_some]
      exact ⟨e2, Or.inr ⟨f, hf, rfl, e3⟩⟩
    have rest : ¬ (2 ≤ n ∧ zch t (2 * n) = -1) → zOk (f_X4_takeFrom_40_L2 C (zI n) (zI (2 * (n : Int)))) Q := by
      intro hne
      have z1 := zch_rng hb (2 * n)
      have z2 := zch_rng hb (2 * n + 1)
      have k1 := zkd_rng 0 (zch t (2 * n))
      have k2 := zkd_rng 1 (zch t (2 * n + 1))
      rw [show zTL 0 = 10 from rfl] at k1
      rw [show zTL 1 = 5 from rfl] at k2
      unfold f_X4_takeFrom_40_L2 f_X11_faultAt
      rw [zI_add, show (2 * (n : Int)) = ((2 * n : Nat) : Int) by omega, c_byteAt hb htC (by omega), zb_some, c_kindOf (w := 0) (by omega) z1.1 z1.2, zb_some]
      by_cases c1 : zkd 0 (zch t (2 * n)) = -1
      · rw [if_pos (by rw [c1]), zI_mul, zI_add, zI_sub, zb_some, zk_some]
        have := fault (8 * (2 * n) + 1) (Or.inl ⟨n, n7, fun i hi => (e4 i hi).1, hne, Or.inl ⟨c1, rfl⟩⟩)
        rw [show (-2 : Int) - ((8 * (2 * n) + 1 : Nat) : Int) = -2 - (8 * ((2 * n : Nat) : Int) + 1) by omega] at this
        exact this
      · rw [if_neg (by simp (disch := omega) only [zk_bind, zk_chk, zk_bnd, zk_some, zlp_l, zlp_r, zb_some, zb_bnd, zI_add, zI_sub, zI_mul, zI_neg, zI_le, zI_lt, zI_eq, zI_ix, zI_inI, Int.toNat_natCast, Int.toNat_add, Int.toNat_mul, true_and, and_true]; omega)]
        by_cases c2 : n = 7
        · rw [if_pos (by rw [c2]; rfl), zI_mul, zI_add, zI_sub, zb_some, zk_some]
          have := fault (8 * (2 * n) + 2) (Or.inl ⟨n, n7, fun i hi => (e4 i hi).1, hne, Or.inr (Or.inl ⟨c1, c2, rfl⟩)⟩)
          rw [show (-2 : Int) - ((8 * (2 * n) + 2 : Nat) : Int) = -2 - (8 * ((2 * n : Nat) : Int) + 2) by omega] at this
          exact this
        · rw [if_neg (by simp (disch := omega) only [zk_bind, zk_chk, zk_bnd, zk_some, zlp_l, zlp_r, zb_some, zb_bnd, zI_add, zI_sub, zI_mul, zI_neg, zI_le, zI_lt, zI_eq, zI_ix, zI_inI, Int.toNat_natCast, Int.toNat_add, Int.toNat_mul, true_and, and_true]; omega), show ((2 * n : Nat) : Int) + 1 = ((2 * n + 1 : Nat) : Int) by omega, c_byteAt hb htC (by omega), zb_some, c_kindOf (w := 1) (by omega) z2.1 z2.2, zb_some]
          by_cases c3 : zkd 1 (zch t (2 * n + 1)) = -1
          · rw [if_pos (by rw [c3]), zI_mul, zI_add, zI_sub, zb_some, zk_some]
            have := fault (8 * (2 * n + 1) + 1) (Or.inl ⟨n, n7, fun i hi => (e4 i hi).1, hne, Or.inr (Or.inr ⟨c1, by omega, c3, rfl⟩)⟩)
            rw [show (-2 : Int) - ((8 * (2 * n + 1) + 1 : Nat) : Int) = -2 - (8 * ((2 * n + 1 : Nat) : Int) + 1) by omega] at this
            exact this
          · have hvn : zvl t n := ⟨c1, c3⟩
            rw [if_neg (by simp (disch := omega) only [zk_bind, zk_chk, zk_bnd, zk_some, zlp_l, zlp_r, zb_some, zb_bnd, zI_add, zI_sub, zI_mul, zI_neg, zI_le, zI_lt, zI_eq, zI_ix, zI_inI, Int.toNat_natCast, Int.toNat_add, Int.toNat_mul, true_and, and_true]; omega), e3, zI_mul, zI_add, zI_inI (by omega) (by omega) (by omega), zb_chk, zk_bnd, zk_bnd, zk_some, zI_ix (by omega) (by omega), show ((N : Int) * 7 + (n : Int)).toNat = 7 * N + n by omega, zI_mul, zI_add, zI_add]
            refine hQ _ ⟨by omega, zI_inj (by omega), zP_I e2 (by unfold zWnm; simp), by dsimp only; rw [zm_Iq _ _ _ _ (by decide)]; exact e3, fun i hi => ?_⟩
            dsimp only
            by_cases hin : i = n
            · rw [hin, zm_Is]
              exact ⟨hvn, zI_inj (by rw [(zsy_v hvn).1]; omega)⟩
            · rw [zm_In _ _ _ _ (by omega)]
              exact e4 i (by omega)
    unfold f_X4_takeFrom_L2
    dsimp only
    rw [e1, e3, if_neg (by simp (disch := omega) only [zk_bind, zk_chk, zk_bnd, zk_some, zlp_l, zlp_r, zb_some, zb_bnd, zI_add, zI_sub, zI_mul, zI_neg, zI_le, zI_lt, zI_eq, zI_ix, zI_inI, Int.toNat_natCast, Int.toNat_add, Int.toNat_mul, true_and, and_true]; omega), if_neg (by simp (disch := omega) only [zk_bind, zk_chk, zk_bnd, zk_some, zlp_l, zlp_r, zb_some, zb_bnd, zI_add, zI_sub, zI_mul, zI_neg, zI_le, zI_lt, zI_eq, zI_ix, zI_inI, Int.toNat_natCast, Int.toNat_add, Int.toNat_mul, true_and, and_true]; omega), zI_mul, zk_bnd]
    by_cases h2 : n < 2
    · rw [if_pos (by simp (disch := omega) only [zk_bind, zk_chk, zk_bnd, zk_some, zlp_l, zlp_r, zb_some, zb_bnd, zI_add, zI_sub, zI_mul, zI_neg, zI_le, zI_lt, zI_eq, zI_ix, zI_inI, Int.toNat_natCast, Int.toNat_add, Int.toNat_mul, true_and, and_true]; omega)]
      exact rest (by omega)
    · have z1 := zch_rng hb (2 * n)
      rw [if_neg (by simp (disch := omega) only [zk_bind, zk_chk, zk_bnd, zk_some, zlp_l, zlp_r, zb_some, zb_bnd, zI_add, zI_sub, zI_mul, zI_neg, zI_le, zI_lt, zI_eq, zI_ix, zI_inI, Int.toNat_natCast, Int.toNat_add, Int.toNat_mul, true_and, and_true]; omega), show (2 * (n : Int)) = ((2 * n : Nat) : Int) by omega, c_byteAt hb htC (by omega), zb_some]
      by_cases hend : zch t (2 * n) = -1
      · have hok : zokN t n := ⟨by omega, n7, fun i hi => (e4 i hi).1, hend⟩
        rw [if_pos (by rw [hend]), zk_bind]
        unfold f_X4_keep
        rw [e3, if_pos (by simp (disch := omega) only [zk_bind, zk_chk, zk_bnd, zk_some, zlp_l, zlp_r, zb_some, zb_bnd, zI_add, zI_sub, zI_mul, zI_neg, zI_le, zI_lt, zI_eq, zI_ix, zI_inI, Int.toNat_natCast, Int.toNat_add, Int.toNat_mul, true_and, and_true]; omega), zI_inI (by omega) (by omega) (by omega), zb_chk, zk_bnd, zI_ix (by omega) (by omega), Int.toNat_natCast, zk_bind]
        have w17 : (zstI C 19 N (zI n)).1 17 2 = zI N := by rw [zm_Iq _ _ _ _ (by decide)]; exact e3
        have w19 : (zstI C 19 N (zI n)).1 19 N = zI n := zm_Is _ _ _ _
        have w18 : ∀ k, (zstI C 19 N (zI n)).1 18 k = C.1 18 k := fun k => by rw [zm_Iq _ _ _ _ (by decide)]
        have w19' : ∀ k, k < N → (zstI C 19 N (zI n)).1 19 k = C.1 19 k := fun k hk => by rw [zm_In _ _ _ _ (by omega)]
        have wP : zP (zWnm N) M (zstI C 19 N (zI n)) := zP_I e2 (by unfold zWnm; simp)
        generalize zstI C 19 N (zI n) = D at w17 w19 w18 w19' wP ⊢
        refine zOk_forQ (fun k s => s = zI k ∧ ∀ j, j < k → ¬ (nl j = n ∧ ∀ i, i < n → ny (7 * j + i) = zsy t i)) N ?_ ?_ ⟨rfl, fun j hj => absurd hj (Nat.not_lt_zero j)⟩
        · rintro k s hk ⟨rfl, d2⟩ Q' hQ' hE'
          have hy := (hn.2 k hk).2.1
          unfold f_X4_keep_L22 f_X11_faultAt
          rw [w17, if_neg (by simp (disch := omega) only [zk_bind, zk_chk, zk_bnd, zk_some, zlp_l, zlp_r, zb_some, zb_bnd, zI_add, zI_sub, zI_mul, zI_neg, zI_le, zI_lt, zI_eq, zI_ix, zI_inI, Int.toNat_natCast, Int.toNat_add, Int.toNat_mul, true_and, and_true]; omega), c_same hn hN hk (by rw [w19' k hk, e2.1 19 k (by unfold zWnm; simp; omega)]; exact (hnm.2 k hk).1) (fun i hi => by rw [w18, e2.1 18 _ (by unfold zWnm; simp; omega)]; exact (hnm.2 k hk).2 i hi) (fun i hi => (e4 i hi).1) w19 (fun i hi => by rw [w18]; exact (e4 i hi).2) n7, zb_some]
          by_cases hz : nl k = n ∧ ∀ i, i < n → ny (7 * k + i) = zsy t i
          · rw [if_neg (fun hh => zb_0.mp hh hz), zI_mul, zI_add, zI_sub, zb_some, zk_some]
            refine hE' _ ?_
            show zOk (some (D, zI (-2 - (8 * 0 + 3)))) _
            rw [zk_some]
            dsimp only
            rw [zk_some]
            refine hE _ ?_
            show zOk (some (D, zI (-2 - (8 * 0 + 3)))) _
            rw [zk_some]
            exact ⟨wP, Or.inr ⟨3, Or.inr ⟨n, hok, ⟨k, hk, hz⟩, rfl⟩, rfl, w17⟩⟩
          · rw [if_pos (zb_0.mpr hz), zk_bnd, zk_some, zI_add]
            refine hQ' _ ⟨zI_inj (by omega), fun j hj => ?_⟩
            by_cases hjk : j = k
            · rw [hjk]; exact hz
            · exact d2 j (by omega)
        · rintro s ⟨rfl, d2⟩
          refine ⟨.inl (), ?_, ?_⟩
          · unfold f_X4_keep_L22
            rw [w17, if_pos (by simp (disch := omega) only [zk_bind, zk_chk, zk_bnd, zk_some, zlp_l, zlp_r, zb_some, zb_bnd, zI_add, zI_sub, zI_mul, zI_neg, zI_le, zI_lt, zI_eq, zI_ix, zI_inI, Int.toNat_natCast, Int.toNat_add, Int.toNat_mul, true_and, and_true]; omega)]
          · show zOk (zbnd (zstI D 17 2 ((D.1 17 2) + (zI 1))) (fun M_61 => some (M_61, ((M_61.1 17 2) - (zI 1))))) _
            rw [w17, zI_add, zk_bnd, zk_some, zm_Is, zI_sub]
            dsimp only
            rw [zk_some]
            refine hE _ ?_
            show zOk (some (zstI D 17 2 (zI ((N : Int) + 1)), zI ((N : Int) + 1 - 1))) _
            rw [zk_some]
            refine ⟨zP_I wP (by unfold zWnm; simp), Or.inl ⟨n, hok, fun ⟨k, k1, k2⟩ => d2 k k1 k2, zI_inj (by omega), by dsimp only; rw [zm_Is]; exact zI_inj (by omega), by dsimp only; rw [zm_Iq _ _ _ _ (by decide)]; exact w19, fun i hi => ?_⟩⟩
            dsimp only
            rw [zm_Iq _ _ _ _ (by decide), w18]
            exact (e4 i hi).2
      · rw [if_neg (by simp (disch := omega) only [zk_bind, zk_chk, zk_bnd, zk_some, zlp_l, zlp_r, zb_some, zb_bnd, zI_add, zI_sub, zI_mul, zI_neg, zI_le, zI_lt, zI_eq, zI_ix, zI_inI, Int.toNat_natCast, Int.toNat_add, Int.toNat_mul, true_and, and_true]; omega)]
        exact rest (fun hh => hend hh.2)
  · rintro s ⟨h7, _⟩
    omega
-- the reference
def zWnr (N : Nat) (a k : Nat) : Bool := (a == 8 && 7 * N ≤ k) || (a == 7 && k == N) || (a == 0 && (k == 2 || k == 3))
def zrgt (N n : Nat) (t : List Nat) (M0 M : ZMem) : Prop := zP (zWnr N) M0 M ∧ M.1 0 3 = zI (-1) ∧ M.1 0 2 = zI ((2 * n : Nat) : Int) ∧ M.1 7 N = zI n ∧ ∀ i, i < n → zvl t i ∧ M.1 8 (7 * N + i) = zI (zsy t i)
theorem r_syll {M0 M : ZMem} {N n : Nat} {t : List Nat} (hN : N < 4) (hN0 : M0.1 0 12 = zI N) (hb : okB t) (ht : tapeR t M0) (h : zrgt N n t M0 M) (n7 : n ≤ 7) (hne : ¬ (2 ≤ n ∧ zch t (2 * n) = -1)) : zOk (f_X12_readsSyllable M) (fun M' => zrgt N (n + 1) t M0 M' ∧ n + 1 ≤ 7 ∨ (∃ f : Nat, zP (zWnr N) M0 M' ∧ M'.1 0 3 = zI f ∧ zftN t f)) := by
  obtain ⟨e1, e2, e3, e4, e5⟩ := h
  have htM : tapeR t M := ⟨by rw [e1.1 0 1 rfl]; exact ht.1, fun i hi => by rw [e1.1 1 i rfl]; exact ht.2 i hi⟩
  have hNM : M.1 0 12 = zI N := by rw [e1.1 0 12 rfl]; exact hN0
  have k1 := zkd_rng 0 (zch t (2 * n))
  have k2 := zkd_rng 1 (zch t (2 * n + 1))
  rw [show zTL 0 = 10 from rfl] at k1
  rw [show zTL 1 = 5 from rfl] at k2
  have isR : ∀ D : ZMem, D.1 0 3 = zI (-1) → f_X12_isRight D = some (zI 1) := fun D hD => by unfold f_X12_isRight; rw [hD, if_pos rfl]
  have isW : ∀ (D : ZMem) (f : Nat), f < 1000 → D.1 0 3 = zI f → f_X12_isRight D = some (zI 0) := fun D f hf hD => by unfold f_X12_isRight; rw [hD, if_neg (by simp (disch := omega) only [zk_bind, zk_chk, zk_bnd, zk_some, zlp_l, zlp_r, zb_some, zb_bnd, zI_add, zI_sub, zI_mul, zI_neg, zI_le, zI_lt, zI_eq, zI_ix, zI_inI, Int.toNat_natCast, Int.toNat_add, Int.toNat_mul, true_and, and_true]; omega)]
  -- a fault stays
  have bad64 : ∀ (D : ZMem) (f : Nat) (x v : Int32), f < 1000 → D.1 0 3 = zI f → zP (zWnr N) M0 D → zftN t f → zOk (f_X12_readsSyllable_64 D x v) (fun M' => zrgt N (n + 1) t M0 M' ∧ n + 1 ≤ 7 ∨ (∃ f : Nat, zP (zWnr N) M0 M' ∧ M'.1 0 3 = zI f ∧ zftN t f)) := by
    intro D f x v hf hD hP hft
    unfold f_X12_readsSyllable_64
    have w : (zstI D 0 2 (D.1 0 2 + zI 1)).1 0 3 = zI f := by rw [zm_In _ _ _ _ (by decide)]; exact hD
    rw [zk_bnd, isW _ f hf w, zb_some, if_pos rfl, zk_some]
    exact Or.inr ⟨f, zP_I hP (by unfold zWnr; simp), w, hft⟩
  have bad37 : ∀ (D : ZMem) (f : Nat) (x : Int32), f < 1000 → D.1 0 3 = zI f → zP (zWnr N) M0 D → zftN t f → zOk (f_X12_readsSyllable_37 D x) (fun M' => zrgt N (n + 1) t M0 M' ∧ n + 1 ≤ 7 ∨ (∃ f : Nat, zP (zWnr N) M0 M' ∧ M'.1 0 3 = zI f ∧ zftN t f)) := by
    intro D f x hf hD hP hft
    unfold f_X12_readsSyllable_37
    have w : (zstI D 0 2 (D.1 0 2 + zI 1)).1 0 3 = zI f := by rw [zm_In _ _ _ _ (by decide)]; exact hD
    rw [zk_bnd, isW _ f hf w, zb_some, if_pos rfl]
    exact bad64 _ f x _ hf w (zP_I hP (by unfold zWnr; simp)) hft
  unfold f_X12_readsSyllable
  rw [r_oneOf (w := 0) (by omega) hb htM (by omega) e3 e2, zb_some]
  by_cases c1 : zkd 0 (zch t (2 * n)) = -1
  · rw [if_pos c1]
    dsimp only
    have w : (zstI M 0 3 (zI (8 * ((2 * n : Nat) : Int) + 1))).1 0 3 = zI ((8 * (2 * n) + 1 : Nat) : Int) := by rw [zm_Is]; exact zI_inj (by omega)
    rw [isW _ _ (by omega) w, zb_some, if_pos rfl]
    exact bad37 _ _ _ (by omega) w (zP_I e1 (by unfold zWnr; simp)) ⟨n, n7, fun i hi => (e5 i hi).1, hne, Or.inl ⟨c1, rfl⟩⟩
  · rw [if_neg c1]
    dsimp only
    rw [isR M e2, zb_some, if_neg (by decide), hNM, zI_inI (by omega) (by omega) (by omega), zb_chk, zI_ix (by omega) (by omega), Int.toNat_natCast, e4]
    by_cases c2 : n = 7
    · rw [if_pos (by rw [c2]; rfl)]
      unfold f_X12_fails
      rw [e2, if_pos rfl, e3, zI_mul, zI_add, zb_bnd, zb_some]
      have w : (zstI M 0 3 (zI (8 * ((2 * n : Nat) : Int) + 2))).1 0 3 = zI ((8 * (2 * n) + 2 : Nat) : Int) := by rw [zm_Is]; exact zI_inj (by omega)
      exact bad37 _ _ _ (by omega) w (zP_I e1 (by unfold zWnr; simp)) ⟨n, n7, fun i hi => (e5 i hi).1, hne, Or.inr (Or.inl ⟨c1, c2, rfl⟩)⟩
    · rw [if_neg (by simp (disch := omega) only [zk_bind, zk_chk, zk_bnd, zk_some, zlp_l, zlp_r, zb_some, zb_bnd, zI_add, zI_sub, zI_mul, zI_neg, zI_le, zI_lt, zI_eq, zI_ix, zI_inI, Int.toNat_natCast, Int.toNat_add, Int.toNat_mul, true_and, and_true]; omega)]
      unfold f_X12_readsSyllable_37
      rw [e3, zI_add, zk_bnd]
      have w3 : (zstI M 0 2 (zI (((2 * n : Nat) : Int) + 1))).1 0 3 = zI (-1) := by rw [zm_In _ _ _ _ (by decide)]; exact e2
      have w2 : (zstI M 0 2 (zI (((2 * n : Nat) : Int) + 1))).1 0 2 = zI ((2 * n + 1 : Nat) : Int) := by rw [zm_Is]; exact zI_inj (by omega)
      have wP : zP (zWnr N) M0 (zstI M 0 2 (zI (((2 * n : Nat) : Int) + 1))) := zP_I e1 (by unfold zWnr; simp)
      have w12 : (zstI M 0 2 (zI (((2 * n : Nat) : Int) + 1))).1 0 12 = zI N := by rw [zm_In _ _ _ _ (by decide)]; exact hNM
      have w7 : (zstI M 0 2 (zI (((2 * n : Nat) : Int) + 1))).1 7 N = zI n := by rw [zm_Iq _ _ _ _ (by decide)]; exact e4
      have w8 : ∀ i, (zstI M 0 2 (zI (((2 * n : Nat) : Int) + 1))).1 8 i = M.1 8 i := fun i => by rw [zm_Iq _ _ _ _ (by decide)]
      generalize zstI M 0 2 (zI (((2 * n : Nat) : Int) + 1)) = D at w3 w2 wP w12 w7 w8 ⊢
      have htD : tapeR t D := ⟨by rw [wP.1 0 1 rfl]; exact ht.1, fun i hi => by rw [wP.1 1 i rfl]; exact ht.2 i hi⟩
      rw [isR D w3, zb_some, if_neg (by decide), r_oneOf (w := 1) (by omega) hb htD (by omega) w2 w3, zb_some]
      by_cases c3 : zkd 1 (zch t (2 * n + 1)) = -1
      · rw [if_pos c3]
        dsimp only
        have w : (zstI D 0 3 (zI (8 * ((2 * n + 1 : Nat) : Int) + 1))).1 0 3 = zI ((8 * (2 * n + 1) + 1 : Nat) : Int) := by rw [zm_Is]; exact zI_inj (by omega)
        exact bad64 _ _ _ _ (by omega) w (zP_I wP (by unfold zWnr; simp)) ⟨n, n7, fun i hi => (e5 i hi).1, hne, Or.inr (Or.inr ⟨c1, by omega, c3, rfl⟩)⟩
      · have hvn : zvl t n := ⟨c1, c3⟩
        rw [if_neg c3]
        dsimp only
        unfold f_X12_readsSyllable_64
        rw [w2, zI_add, zk_bnd]
        have x3 : (zstI D 0 2 (zI (((2 * n + 1 : Nat) : Int) + 1))).1 0 3 = zI (-1) := by rw [zm_In _ _ _ _ (by decide)]; exact w3
        have x2 : (zstI D 0 2 (zI (((2 * n + 1 : Nat) : Int) + 1))).1 0 2 = zI ((2 * (n + 1) : Nat) : Int) := by rw [zm_Is]; exact zI_inj (by omega)
        have xP : zP (zWnr N) M0 (zstI D 0 2 (zI (((2 * n + 1 : Nat) : Int) + 1))) := zP_I wP (by unfold zWnr; simp)
        have x12 : (zstI D 0 2 (zI (((2 * n + 1 : Nat) : Int) + 1))).1 0 12 = zI N := by rw [zm_In _ _ _ _ (by decide)]; exact w12
        have x7 : (zstI D 0 2 (zI (((2 * n + 1 : Nat) : Int) + 1))).1 7 N = zI n := by rw [zm_Iq _ _ _ _ (by decide)]; exact w7
        have x8 : ∀ i, (zstI D 0 2 (zI (((2 * n + 1 : Nat) : Int) + 1))).1 8 i = M.1 8 i := fun i => by rw [zm_Iq _ _ _ _ (by decide)]; exact w8 i
        generalize zstI D 0 2 (zI (((2 * n + 1 : Nat) : Int) + 1)) = E at x3 x2 xP x12 x7 x8 ⊢
        rw [isR E x3, zb_some, if_neg (by decide), x12, zI_inI (by omega) (by omega) (by omega), zb_chk, zI_ix (by omega) (by omega), Int.toNat_natCast, x7, zI_mul, zI_add, zI_inI (by omega) (by omega) (by omega), zb_chk, zk_bnd, zI_ix (by omega) (by omega), show (7 * (N : Int) + (n : Int)).toNat = 7 * N + n by omega, zI_mul, zI_add, zm_Iq _ _ _ _ (by decide), x12, zI_inI (by omega) (by omega) (by omega), zb_chk, zb_chk, zI_ix (by omega) (by omega), Int.toNat_natCast, zm_Iq _ _ _ _ (by decide), x7, zI_add, zk_bnd, zk_some]
        refine Or.inl ⟨⟨zP_I (zP_I xP (by unfold zWnr; simp)) (by unfold zWnr; simp), ?_, ?_, ?_, fun i hi => ?_⟩, by omega⟩
        · rw [zm_Iq _ _ _ _ (by decide), zm_Iq _ _ _ _ (by decide)]; exact x3
        · rw [zm_Iq _ _ _ _ (by decide), zm_Iq _ _ _ _ (by decide)]; exact x2
        · rw [zm_Is]; exact zI_inj (by omega)
        · rw [zm_Iq _ _ _ _ (by decide)]
          by_cases hin : i = n
          · rw [hin, zm_Is]
            exact ⟨hvn, zI_inj (by rw [(zsy_v hvn).1])⟩
          · rw [zm_In _ _ _ _ (by omega), x8]
            exact e5 i (by omega)
theorem r_isNameTold {M : ZMem} {N n : Nat} {nl ny : Nat → Nat} {t : List Nat} (hn : okN N nl ny) (hN : N < 4) (hN0 : M.1 0 12 = zI N) (hnm : ∀ k, k < N → M.1 7 k = zI (nl k) ∧ ∀ i, i < nl k → M.1 8 (7 * k + i) = zI (ny (7 * k + i))) (hv : ∀ i, i < n → zvl t i) (h1 : M.1 7 N = zI n) (h2 : ∀ i, i < n → M.1 8 (7 * N + i) = zI (zsy t i)) (hn7 : n ≤ 7) : f_X12_isNameTold M = some (zI (zb (zdup N nl ny t n))) := by
  unfold f_X12_isNameTold
  refine zOk_is ?_
  rw [zk_bind]
  refine zOk_forQ (fun k s => s = zI k ∧ ∀ j, j < k → ¬ (nl j = n ∧ ∀ i, i < n → ny (7 * j + i) = zsy t i)) N ?_ ?_ ⟨rfl, fun j hj => absurd hj (Nat.not_lt_zero j)⟩
  · rintro k s hk ⟨rfl, e2⟩ Q hQ hE
    have h7 := (hn.2 k hk).2.1
    have body : ∀ p : Prop, (p ↔ nl k = n) → zOk (f_X12_isNameTold_33_L2 M (zI k) (zI (zb p))) Q := by
      intro p hp
      unfold f_X12_isNameTold_33_L2
      rw [zk_bind]
      have fin : ∀ v : Prop, (v ↔ (nl k = n ∧ ∀ i, i < n → ny (7 * k + i) = zsy t i)) → zOk (if zI ((zb v : Nat) : Int) = (zI 0) then zbnd (zI (k : Int) + (zI 1)) (fun x1_96 => some (Sum.inl x1_96)) else some (.inr (.inr (zI 1)))) Q := by
        intro v hv'
        by_cases hvv : v
        · rw [if_neg (fun hh => zb_0.mp hh hvv), zk_some]
          refine hE _ ?_
          show zOk (some (zI 1)) _
          rw [zk_some, zb_t ⟨k, hk, hv'.mp hvv⟩]
          rfl
        · rw [if_pos (zb_0.mpr hvv), zk_bnd, zk_some, zI_add]
          refine hQ _ ⟨zI_inj (by omega), fun j hj => ?_⟩
          by_cases hjk : j = k
          · rw [hjk]; exact fun hh => hvv (hv'.mpr hh)
          · exact e2 j (by omega)
      refine zOk_forQ (fun i s => s.1 = zI ((zb (p ∧ ∀ j, j < i → ny (7 * k + j) = zsy t j) : Nat) : Int) ∧ s.2 = zI i) (nl k) ?_ ?_ ⟨by rw [zb_iff (q := p ∧ ∀ j, j < 0 → ny (7 * k + j) = zsy t j) ⟨fun hh => ⟨hh, fun j hj => absurd hj (Nat.not_lt_zero j)⟩, fun hh => hh.1⟩], rfl⟩
      · rintro i ⟨s1, s2⟩ hi ⟨d1, d2⟩ Q' hQ' hE'
        dsimp only at d1 d2
        unfold f_X12_isNameTold_L36
        dsimp only
        rw [d1, d2, zI_inI (by omega) (by omega) (by omega), zb_chk, zI_ix (by omega) (by omega), Int.toNat_natCast, (hnm k hk).1, if_neg (by simp (disch := omega) only [zk_bind, zk_chk, zk_bnd, zk_some, zlp_l, zlp_r, zb_some, zb_bnd, zI_add, zI_sub, zI_mul, zI_neg, zI_le, zI_lt, zI_eq, zI_ix, zI_inI, Int.toNat_natCast, Int.toNat_add, Int.toNat_mul, true_and, and_true]; omega)]
        by_cases hz : p ∧ ∀ j, j < i → ny (7 * k + j) = zsy t j
        · have hnk := hp.mp hz.1
          have y1 := (hn.2 k hk).2.2 i hi
          have y2 := (zsy_v (hv i (by omega))).2
          rw [if_neg (fun hh => zb_0.mp hh hz), zI_mul, zI_add, zI_inI (by omega) (by omega) (by omega), zb_chk, hN0, zI_mul, zI_add, zI_inI (by omega) (by omega) (by omega), zb_chk, zI_ix (by omega) (by omega), zI_ix (by omega) (by omega), show (7 * (k : Int) + (i : Int)).toNat = 7 * k + i by omega, show (7 * (N : Int) + (i : Int)).toNat = 7 * N + i by omega, (hnm k hk).2 i hi, h2 i (by omega)]
          by_cases hzz : ny (7 * k + i) = zsy t i
          · rw [if_pos (by rw [hzz]), zk_bnd, zk_some, zI_add]
            refine hQ' _ ⟨?_, zI_inj (by omega)⟩
            dsimp only
            rw [zb_t ⟨hz.1, fun j hj => by
              by_cases hji : j = i
              · rw [hji]; exact hzz
              · exact hz.2 j (by omega)⟩]
            rfl
          · rw [if_neg (by simp (disch := omega) only [zk_bind, zk_chk, zk_bnd, zk_some, zlp_l, zlp_r, zb_some, zb_bnd, zI_add, zI_sub, zI_mul, zI_neg, zI_le, zI_lt, zI_eq, zI_ix, zI_inI, Int.toNat_natCast, Int.toNat_add, Int.toNat_mul, true_and, and_true]; omega), zk_bnd, zk_some, zI_add]
            refine hQ' _ ⟨?_, zI_inj (by omega)⟩
            dsimp only
            rw [zb_f (fun hh => hzz (hh.2 i (by omega)))]
            rfl
        · rw [if_pos (zb_0.mpr hz), zk_some]
          refine hE' _ ?_
          refine fin _ ⟨fun hh => absurd hh hz, fun hh => absurd ⟨hp.mpr hh.1, fun j hj => hh.2 j (by have := hh.1; omega)⟩ hz⟩
      · rintro ⟨s1, s2⟩ ⟨d1, d2⟩
        dsimp only at d1 d2
        refine ⟨s1, ?_, ?_⟩
        · unfold f_X12_isNameTold_L36
          dsimp only
          rw [d2, zI_inI (by omega) (by omega) (by omega), zb_chk, zI_ix (by omega) (by omega), Int.toNat_natCast, (hnm k hk).1, if_pos (by simp (disch := omega) only [zk_bind, zk_chk, zk_bnd, zk_some, zlp_l, zlp_r, zb_some, zb_bnd, zI_add, zI_sub, zI_mul, zI_neg, zI_le, zI_lt, zI_eq, zI_ix, zI_inI, Int.toNat_natCast, Int.toNat_add, Int.toNat_mul, true_and, and_true]; omega)]
        · rw [d1]
          refine fin _ ⟨fun hh => ⟨hp.mp hh.1, fun j hj => hh.2 j (by have := hp.mp hh.1; omega)⟩, fun hh => ⟨hp.mpr hh.1, fun j hj => hh.2 j (by have := hh.1; omega)⟩⟩
    unfold f_X12_isNameTold_L2
    rw [hN0, if_neg (by simp (disch := omega) only [zk_bind, zk_chk, zk_bnd, zk_some, zlp_l, zlp_r, zb_some, zb_bnd, zI_add, zI_sub, zI_mul, zI_neg, zI_le, zI_lt, zI_eq, zI_ix, zI_inI, Int.toNat_natCast, Int.toNat_add, Int.toNat_mul, true_and, and_true]; omega), zI_inI (by omega) (by omega) (by omega), zb_chk, zI_inI (by omega) (by omega) (by omega), zb_chk, zI_ix (by omega) (by omega), zI_ix (by omega) (by omega), Int.toNat_natCast, Int.toNat_natCast, (hnm k hk).1, h1, zb_sel (fun v => f_X12_isNameTold_33_L2 M (zI k) v)]
    exact body _ (by rw [zI_eq (by omega) (by omega) (by omega) (by omega)]; omega)
  · rintro s ⟨rfl, e2⟩
    refine ⟨.inl (), ?_, ?_⟩
    · unfold f_X12_isNameTold_L2
      rw [hN0, if_pos (by simp (disch := omega) only [zk_bind, zk_chk, zk_bnd, zk_some, zlp_l, zlp_r, zb_some, zb_bnd, zI_add, zI_sub, zI_mul, zI_neg, zI_le, zI_lt, zI_eq, zI_ix, zI_inI, Int.toNat_natCast, Int.toNat_add, Int.toNat_mul, true_and, and_true]; omega)]
    · show zOk (some (zI 0)) _
      rw [zk_some, zb_f (fun ⟨k, k1, k2⟩ => e2 k k1 k2)]
      rfl
def zWnr2 (N : Nat) (a k : Nat) : Bool := zWnr N a k || (a == 0 && (k == 1 || k == 12))
theorem r_name {M : ZMem} {N : Nat} {nl ny : Nat → Nat} {t : List Nat} (hn : okN N nl ny) (hN : N < 4) (hb : okB t) (ht : tapeR t M) (hnm : namesR N nl ny M) : zOk (f_X12_name M) (fun r => zP (zWnr2 N) M r.1 ∧ r.1.1 0 1 = zI 0 ∧ ((∃ n, zokN t n ∧ ¬ zdup N nl ny t n ∧ r.2 = zI N ∧ r.1.1 0 12 = zI ((N + 1 : Nat) : Int) ∧ r.1.1 7 N = zI n ∧ ∀ i, i < n → r.1.1 8 (7 * N + i) = zI (zsy t i)) ∨ (∃ f, zoutF N nl ny t f ∧ r.2 = zI (-2 - (f : Int)) ∧ r.1.1 0 12 = zI N))) := by
  have mono : ∀ a k, zWnr2 N a k = false → zWnr N a k = false := fun a k ha => by
    unfold zWnr2 at ha
    rw [Bool.or_eq_false_iff] at ha
    exact ha.1
  have isR : ∀ D : ZMem, D.1 0 3 = zI (-1) → f_X12_isRight D = some (zI 1) := fun D hD => by unfold f_X12_isRight; rw [hD, if_pos rfl]
  have isW : ∀ (D : ZMem) (f : Nat), f < 1000 → D.1 0 3 = zI f → f_X12_isRight D = some (zI 0) := fun D f hf hD => by unfold f_X12_isRight; rw [hD, if_neg (by simp (disch := omega) only [zk_bind, zk_chk, zk_bnd, zk_some, zlp_l, zlp_r, zb_some, zb_bnd, zI_add, zI_sub, zI_mul, zI_neg, zI_le, zI_lt, zI_eq, zI_ix, zI_inI, Int.toNat_natCast, Int.toNat_add, Int.toNat_mul, true_and, and_true]; omega)]
  have last : ∀ (D : ZMem) (f : Nat), f < 1000 → zP (zWnr N) M D → D.1 0 3 = zI f → zoutF N nl ny t f → zOk (f_X12_name_79 D) (fun r => zP (zWnr2 N) M r.1 ∧ r.1.1 0 1 = zI 0 ∧ ((∃ n, zokN t n ∧ ¬ zdup N nl ny t n ∧ r.2 = zI N ∧ r.1.1 0 12 = zI ((N + 1 : Nat) : Int) ∧ r.1.1 7 N = zI n ∧ ∀ i, i < n → r.1.1 8 (7 * N + i) = zI (zsy t i)) ∨ (∃ f, zoutF N nl ny t f ∧ r.2 = zI (-2 - (f : Int)) ∧ r.1.1 0 12 = zI N))) := by
    intro D f hf hP hD ho
    unfold f_X12_name_79
    have w : (zstI D 0 1 (zI 0)).1 0 3 = zI f := by rw [zm_In _ _ _ _ (by decide)]; exact hD
    rw [zk_bnd, isW _ f hf w, zb_some, if_pos rfl, zk_some, w, zI_sub]
    refine ⟨zP_I (zP_mono hP mono) (by unfold zWnr2; simp), zm_Is _ _ _ _, Or.inr ⟨f, ho, rfl, ?_⟩⟩
    dsimp only
    rw [zm_In _ _ _ _ (by decide), hP.1 0 12 rfl]
    exact hnm.1
  unfold f_X12_name f_X12_starts
  rw [hnm.1, if_neg (by simp (disch := omega) only [zk_bind, zk_chk, zk_bnd, zk_some, zlp_l, zlp_r, zb_some, zb_bnd, zI_add, zI_sub, zI_mul, zI_neg, zI_le, zI_lt, zI_eq, zI_ix, zI_inI, Int.toNat_natCast, Int.toNat_add, Int.toNat_mul, true_and, and_true]; omega), zb_bnd, zb_bnd, zb_some, zm_In _ _ _ _ (by decide), zm_In _ _ _ _ (by decide), hnm.1, zI_inI (by omega) (by omega) (by omega), zb_chk, zk_bnd, zI_ix (by omega) (by omega), Int.toNat_natCast]
  have st : zrgt N 0 t M (zstI (zstI (zstI M 0 2 (zI 0)) 0 3 (zI (-1))) 7 N (zI 0)) := ⟨zP_I (zP_I (zP_I zP_rf (by unfold zWnr; simp)) (by unfold zWnr; simp)) (by unfold zWnr; simp), by rw [zm_Iq _ _ _ _ (by decide), zm_Is], by rw [zm_Iq _ _ _ _ (by decide), zm_In _ _ _ _ (by decide), zm_Is]; rfl, by rw [zm_Is]; rfl, fun i hi => absurd hi (Nat.not_lt_zero i)⟩
  generalize zstI (zstI (zstI M 0 2 (zI 0)) 0 3 (zI (-1))) 7 N (zI 0) = M1 at st ⊢
  rw [zk_bind]
  have out : ∀ (D : ZMem) (f : Nat), zP (zWnr N) M D → D.1 0 3 = zI f → zftN t f → zOk (zbind (f_X12_isRight D) (fun r_60 => if r_60 = (zI 0) then f_X12_name_79 D else zbind (f_X12_isNameTold D) (fun r_67 => if r_67 = (zI 0) then f_X12_name_79 D else zbind (f_X12_fails D (zI 3) (zI 0)) (fun M_76 => f_X12_name_79 M_76)))) (fun r => zP (zWnr2 N) M r.1 ∧ r.1.1 0 1 = zI 0 ∧ ((∃ n, zokN t n ∧ ¬ zdup N nl ny t n ∧ r.2 = zI N ∧ r.1.1 0 12 = zI ((N + 1 : Nat) : Int) ∧ r.1.1 7 N = zI n ∧ ∀ i, i < n → r.1.1 8 (7 * N + i) = zI (zsy t i)) ∨ (∃ f, zoutF N nl ny t f ∧ r.2 = zI (-2 - (f : Int)) ∧ r.1.1 0 12 = zI N))) := by
    intro D f hP hD hft
    have := zftN_lt hft
    rw [isW D f (by omega) hD, zb_some, if_pos rfl]
    exact last D f (by omega) hP hD (Or.inl hft)
  refine zOk_forQ (fun n s => zrgt N n t M s ∧ n ≤ 7 ∨ (∃ f : Nat, zP (zWnr N) M s ∧ s.1 0 3 = zI f ∧ zftN t f)) 8 ?_ ?_ (Or.inl ⟨st, by omega⟩)
  · rintro n D hn8 (⟨hD, n7⟩ | ⟨f, f1, f2, f3⟩) Q hQ hE
    · obtain ⟨e1, e2, e3, e4, e5⟩ := hD
      have hND : D.1 0 12 = zI N := by rw [e1.1 0 12 rfl]; exact hnm.1
      have htD : tapeR t D := ⟨by rw [e1.1 0 1 rfl]; exact ht.1, fun i hi => by rw [e1.1 1 i rfl]; exact ht.2 i hi⟩
      have go : ¬ (2 ≤ n ∧ zch t (2 * n) = -1) → zOk (f_X12_name_52_L24 D) Q := by
        intro hne
        unfold f_X12_name_52_L24
        rw [zk_bind]
        refine zOk_mono (r_syll hN hnm.1 hb ht ⟨e1, e2, e3, e4, e5⟩ n7 hne) (fun D' h' => ?_)
        rw [zk_some]
        exact hQ _ h'
      have z1 := zch_rng hb (2 * n)
      unfold f_X12_name_L24
      rw [isR D e2, zb_some, if_neg (by decide), hND, zI_inI (by omega) (by omega) (by omega), zb_chk, zI_ix (by omega) (by omega), Int.toNat_natCast, e4]
      by_cases h2 : n < 2
      · rw [if_pos (by simp (disch := omega) only [zk_bind, zk_chk, zk_bnd, zk_some, zlp_l, zlp_r, zb_some, zb_bnd, zI_add, zI_sub, zI_mul, zI_neg, zI_le, zI_lt, zI_eq, zI_ix, zI_inI, Int.toNat_natCast, Int.toNat_add, Int.toNat_mul, true_and, and_true]; omega)]
        exact go (by omega)
      · rw [if_neg (by simp (disch := omega) only [zk_bind, zk_chk, zk_bnd, zk_some, zlp_l, zlp_r, zb_some, zb_bnd, zI_add, zI_sub, zI_mul, zI_neg, zI_le, zI_lt, zI_eq, zI_ix, zI_inI, Int.toNat_natCast, Int.toNat_add, Int.toNat_mul, true_and, and_true]; omega), r_sign hb htD (by omega) e3, zb_some]
        by_cases hend : zch t (2 * n) = -1
        · have hok : zokN t n := ⟨by omega, n7, fun i hi => (e5 i hi).1, hend⟩
          rw [if_pos (by rw [hend]), zk_some]
          refine hE _ ?_
          have hold : ∀ k, k < N → D.1 7 k = zI (nl k) ∧ ∀ i, i < nl k → D.1 8 (7 * k + i) = zI (ny (7 * k + i)) := fun k hk => ⟨by rw [e1.1 7 k (by unfold zWnr; simp; omega)]; exact (hnm.2 k hk).1, fun i hi => by
            have := (hn.2 k hk).2.1
            rw [e1.1 8 _ (by unfold zWnr; simp; omega)]
            exact (hnm.2 k hk).2 i hi⟩
          rw [isR D e2, zb_some, if_neg (by decide), r_isNameTold hn hN hND hold (fun i hi => (e5 i hi).1) e4 (fun i hi => (e5 i hi).2) n7, zb_some]
          by_cases hd : zdup N nl ny t n
          · rw [if_neg (fun hh => zb_0.mp hh hd)]
            unfold f_X12_fails
            rw [e2, if_pos rfl, zI_mul, zI_add, zb_bnd, zb_some]
            exact last _ 3 (by omega) (zP_I e1 (by unfold zWnr; simp)) (by rw [zm_Is]; rfl) (Or.inr ⟨n, hok, hd, rfl⟩)
          · rw [if_pos (zb_0.mpr hd)]
            unfold f_X12_name_79
            have w : (zstI D 0 1 (zI 0)).1 0 3 = zI (-1) := by rw [zm_In _ _ _ _ (by decide)]; exact e2
            rw [zk_bnd, isR _ w, zb_some, if_neg (by decide), zk_bnd, zk_some, zm_In _ _ _ _ (by decide), hND, zI_add, zm_Is, zI_sub]
            refine ⟨zP_I (zP_I (zP_mono e1 mono) (by unfold zWnr2; simp)) (by unfold zWnr2; simp), by rw [zm_In _ _ _ _ (by decide), zm_Is], Or.inl ⟨n, hok, hd, zI_inj (by omega), by first | exact zI_inj (by omega) | (rw [zm_Is]; exact zI_inj (by omega)), by (try dsimp only); rw [zm_Iq _ _ _ _ (by decide), zm_Iq _ _ _ _ (by decide)]; exact e4, fun i hi => ?_⟩⟩
            (try dsimp only)
            rw [zm_Iq _ _ _ _ (by decide), zm_Iq _ _ _ _ (by decide)]
            exact (e5 i hi).2
        · rw [if_neg (by simp (disch := omega) only [zk_bind, zk_chk, zk_bnd, zk_some, zlp_l, zlp_r, zb_some, zb_bnd, zI_add, zI_sub, zI_mul, zI_neg, zI_le, zI_lt, zI_eq, zI_ix, zI_inI, Int.toNat_natCast, Int.toNat_add, Int.toNat_mul, true_and, and_true]; omega)]
          exact go (fun hh => hend hh.2)
    · have := zftN_lt f3
      unfold f_X12_name_L24
      rw [isW D f (by omega) f2, zb_some, if_pos rfl, zk_some]
      refine hE _ ?_
      exact out D f f1 f2 f3
  · rintro D (⟨_, n7⟩ | ⟨f, f1, f2, f3⟩)
    · omega
    · have := zftN_lt f3
      refine ⟨D, ?_, out D f f1 f2 f3⟩
      unfold f_X12_name_L24
      rw [isW D f (by omega) f2, zb_some, if_pos rfl]
def zScp (a k : Nat) : Bool := a == 9 || a == 10 || a == 30 || a == 31 || a == 32 || a == 34 || a == 36 || a == 37 || a == 38 || a == 40 || a == 42 || a == 46 || (a == 3 && k == 11)
theorem scriptC_g {F : Nat} {fr : Nat → Nat} {s : ZS} {h : Nat → Int} {M0 M : ZMem} (hx : ∀ a k, zScp a k = true → M.1 a k = M0.1 a k) (h2 : M.2 = M0.2) (hb : scriptC F fr s h M0) : scriptC F fr s h M := by
  have e9 : M.1 9 = M0.1 9 := funext (fun k => hx 9 k rfl)
  have e10 : M.1 10 = M0.1 10 := funext (fun k => hx 10 k rfl)
  have e30 : M.1 30 = M0.1 30 := funext (fun k => hx 30 k rfl)
  have e31 : M.1 31 = M0.1 31 := funext (fun k => hx 31 k rfl)
  have e32 : M.1 32 = M0.1 32 := funext (fun k => hx 32 k rfl)
  have e34 : M.1 34 = M0.1 34 := funext (fun k => hx 34 k rfl)
  have e36 : M.1 36 = M0.1 36 := funext (fun k => hx 36 k rfl)
  have e37 : M.1 37 = M0.1 37 := funext (fun k => hx 37 k rfl)
  have e38 : M.1 38 = M0.1 38 := funext (fun k => hx 38 k rfl)
  have e40 : M.1 40 = M0.1 40 := funext (fun k => hx 40 k rfl)
  have e42 : M.1 42 = M0.1 42 := funext (fun k => hx 42 k rfl)
  have e46 : M.1 46 = M0.1 46 := funext (fun k => hx 46 k rfl)
  unfold scriptC signsC judC rowsG lexF lexC rnkC wstD stmC at hb ⊢
  rw [hx 3 11 rfl, h2, e9, e10, e30, e31, e32, e34, e36, e37, e38, e40, e42, e46]
  exact hb
def zWnc (a k : Nat) : Bool := a == 1 || a == 2 || a == 17 || a == 18 || a == 19 || (a == 0 && k == 14)
abbrev zNMs (σ : ZT) (t : List Nat) (N : Nat) (nl ny : Nat → Nat) : ZT := (t, σ.2.1, σ.2.2.1, (N, nl, ny), σ.2.2.2.2.1, gx σ)
theorem relC_nm {σ : ZT} {t : List Nat} {N : Nat} {nl ny : Nat → Nat} {C C' : ZMem} (hx : zP zWnc C C') (ht : tapeC t C') (hn : namesC N nl ny C') (h14 : C'.1 0 14 = zI 1 ∨ (C'.1 0 14 = C.1 0 14 ∧ N = gN σ ∧ nl = gl σ ∧ ny = gy σ)) (h : relC σ C) : relC (zNMs σ t N nl ny) C' := by
  obtain ⟨h1, hb1, htr, hac, h5, h6⟩ := h
  obtain ⟨hx, h2⟩ := hx
  refine ⟨ht, ⟨formsC_x (fun a k hk => hx a k ?_) hb1.1, stonesC_x (fun a k hk => hx a k ?_) hb1.2.1, setC_x (fun a k hk => hx a k ?_) hb1.2.2.1, clueC_x (fun a k hk => hx a k ?_) hb1.2.2.2.1, hn, by rw [hx 41 0 rfl]; exact hb1.2.2.2.2.2.1, by rw [hx 45 0 rfl]; exact hb1.2.2.2.2.2.2⟩, ⟨by rw [hx 3 10 rfl]; exact htr.1, fun k hk => by rw [hx 7 _ rfl, hx 7 _ rfl]; exact htr.2 k hk⟩, actsC_x (hx 20 11 rfl) (fun a k ha => hx a k ?_) hac, by rw [hx 0 12 rfl]; exact h5, ⟨by rw [hx 0 13 rfl]; exact h6.1.1, ?_, by rw [hx 0 15 rfl]; exact h6.1.2.2⟩, fun h13 => ?_, fun h13 h14' => ?_, fun h13 h14' h15 => ?_⟩
  · unfold dformsC at hk
    unfold zWnc
    simp at hk ⊢
    omega
  · unfold dstonesC at hk
    unfold zWnc
    simp at hk ⊢
    omega
  · unfold dsetC at hk
    unfold zWnc
    simp at hk ⊢
    omega
  · unfold dclueC at hk
    unfold zWnc
    simp at hk ⊢
    omega
  · unfold zWnc
    simp
    omega
  · rcases h14 with h14 | h14
    · exact Or.inr h14
    · rw [h14.1]
      exact h6.1.2.1
  · rw [hx 0 13 rfl] at h13
    exact scriptC_g (fun a k ha => hx a k (by unfold zScp at ha; unfold zWnc; simp at ha ⊢; omega)) h2 (h6.2.1 h13)
  · rcases h14 with h14 | ⟨h14, rfl, rfl, rfl⟩
    · exact absurd (h14.symm.trans h14') (by decide)
    · rw [hx 0 13 rfl] at h13
      rw [h14] at h14'
      have g := h6.2.2.1 h13 h14'
      exact gridC_w (fun a k c1 c2 c3 c4 => hx a k (by unfold zWnc; simp; omega)) (fun s hs => by rw [hx 56 s rfl, hx 57 s rfl]; exact g.2.2.2.1 s hs) g
  · rcases h14 with h14 | ⟨h14, rfl, rfl, rfl⟩
    · exact absurd (h14.symm.trans h14') (by decide)
    · rw [hx 0 13 rfl] at h13
      rw [h14] at h14'
      rw [hx 0 15 rfl] at h15
      have w := h6.2.2.2 h13 h14' h15
      exact ⟨by rw [hx 59 9 rfl]; exact w.1, fun x hx' m hm => by rw [hx 63 m rfl]; exact w.2 x hx' m hm⟩
def zWnrc (a k : Nat) : Bool := a == 7 || a == 8 || (a == 0 && (k == 1 || k == 2 || k == 3 || k == 12))
theorem relR_nm {σ : ZT} {N : Nat} {nl ny : Nat → Nat} {R R' : ZMem} (hp : zP zWnrc R R') (h1' : R'.1 0 1 = zI 0) (hn : namesR N nl ny R') (h : relR σ R) : relR (zNMs σ [] N nl ny) R' := by
  obtain ⟨h1, h2, h3, h4, h5, h6, h7, h8, h9⟩ := h
  refine ⟨⟨h1', fun i hi => absurd hi (Nat.not_lt_zero i)⟩, formsR_x (fun a k hk => hp.1 a k ?_) h2, stonesR_x (fun a k hk => hp.1 a k ?_) h3, hn, handR_x (fun k => hp.1 9 k rfl) h5, pastR_x (hp.1 0 17 rfl) (fun k => hp.1 10 k rfl) h6, by rw [hp.1 0 41 rfl]; exact h7, by rw [hp.1 0 45 rfl]; exact h8, fun hh => ?_⟩
  · unfold dformsR at hk
    unfold zWnrc
    simp at hk ⊢
    omega
  · unfold dstonesR at hk
    unfold zWnrc
    simp at hk ⊢
    omega
  · have hl := h9 (by rw [← hp.1 0 45 rfl]; exact hh)
    refine laidR_k (fun a k ha => hp.1 a k ?_) (fun kind f c1 c2 => ?_) hl
    · unfold zWnrc
      simp
      omega
    · rw [hp.1 25 _ rfl]
      exact hl.2.2.2.2.2 kind f c1 c2
theorem zp_name : zPr_name zRel := by
  rintro M1 M2 ⟨σ, ho, hc, hr⟩
  have hN := ho.2.2.2.1
  have hb : okB (gT σ) := ho.1
  have hlen := hb.1
  have hnC := hc.2.1.2.2.2.2.1
  have hnR := hr.2.2.2.1
  unfold f_X11_name f_X4_isFull
  rw [hnC.1]
  by_cases h4 : gN σ < 4
  · rw [if_pos (by simp (disch := omega) only [zk_bind, zk_chk, zk_bnd, zk_some, zlp_l, zlp_r, zb_some, zb_bnd, zI_add, zI_sub, zI_mul, zI_neg, zI_le, zI_lt, zI_eq, zI_ix, zI_inI, Int.toNat_natCast, Int.toNat_add, Int.toNat_mul, true_and, and_true]; omega), zb_some, if_pos rfl, zk_bind]
    refine zOk_mono (c_takeName hN h4 hb hc.1 hnC) (fun r k => ?_)
    obtain ⟨C, v⟩ := r
    obtain ⟨k1, k2⟩ := k
    dsimp only at k1 k2 ⊢
    have hC1 : C.1 1 1 = zI ((gT σ).length : Int) := by rw [k1.1 1 1 rfl]; exact hc.1.1
    rw [c_cutTo hC1 hlen (by omega) (by omega), if_pos (by omega), zb_some]
    (try dsimp only)
    have pC : zP zWnc M1 (zstI C 1 1 (zI 0)) := zP_I (zP_mono k1 (fun a k ha => by unfold zWnc at ha; unfold zWnm; simp at ha ⊢; omega)) rfl
    have fails : ∀ f, zoutF (gN σ) (gl σ) (gy σ) (gT σ) f → v = zI (-2 - (f : Int)) → C.1 17 2 = zI (gN σ) → zOk (if v < zI 0 then some (zstI C 1 1 (zI 0), v) else zbnd (zstI (zstI C 1 1 (zI 0)) 0 14 (zI 1)) (fun M_39 => some (M_39, v))) (fun r1 => zOk (f_X12_name M2) (fun r2 => r1.2 = r2.2 ∧ zRel r1.1 r2.1)) := by
      intro f hf hv h17
      have hf200 : f < 200 := by
        rcases hf with hf | ⟨_, _, _, hf⟩
        · exact zftN_lt hf
        · omega
      rw [hv, if_pos (by simp (disch := omega) only [zk_bind, zk_chk, zk_bnd, zk_some, zlp_l, zlp_r, zb_some, zb_bnd, zI_add, zI_sub, zI_mul, zI_neg, zI_le, zI_lt, zI_eq, zI_ix, zI_inI, Int.toNat_natCast, Int.toNat_add, Int.toNat_mul, true_and, and_true]; omega), zk_some]
      refine zOk_mono (r_name hN h4 hb hr.1 hnR) (fun r2 j => ?_)
      obtain ⟨j1, j2, j3⟩ := j
      rcases j3 with ⟨n, n1, n2, _⟩ | ⟨f', f1, f2, f3⟩
      · exfalso
        rcases hf with hf | ⟨n', m1, m2, _⟩
        · exact zokN_ft n1 hf
        · rw [zokN_one n1 m1] at n2
          exact n2 m2
      · have hff : f = f' := by
          rcases hf with hf | ⟨n', m1, m2, m3⟩
          · rcases f1 with f1 | ⟨n'', q1, q2, q3⟩
            · exact zftN_one hf f1
            · exact (zokN_ft q1 hf).elim
          · rcases f1 with f1 | ⟨n'', q1, q2, q3⟩
            · exact (zokN_ft m1 f1).elim
            · omega
        refine ⟨by rw [f2, hff], zNMs σ [] (gN σ) (gl σ) (gy σ), okT_x (t := []) (x := gx σ) ho (by decide) (fun i hi => absurd hi (Nat.not_lt_zero i)) ho.2.2.2.2.2.2, relC_nm pC ⟨zm_Is _ _ _ _, fun i hi => absurd hi (Nat.not_lt_zero i)⟩ ⟨?_, fun n hn => ⟨?_, fun i hi => ?_⟩⟩ (Or.inr ⟨?_, rfl, rfl, rfl⟩) hc, relR_nm (zP_mono j1 (fun a k ha => ?_)) j2 ⟨f3, fun n hn => ⟨?_, fun i hi => ?_⟩⟩ hr⟩
        · rw [zm_Iq _ _ _ _ (by decide)]; exact h17
        · rw [zm_Iq _ _ _ _ (by decide), k1.1 19 n (by unfold zWnm; simp; omega)]
          exact (hnC.2 n hn).1
        · have := (hN.2 n hn).2.1
          rw [zm_Iq _ _ _ _ (by decide), k1.1 18 _ (by unfold zWnm; simp; omega)]
          exact (hnC.2 n hn).2 i hi
        · rw [zm_Iq _ _ _ _ (by decide), k1.1 0 14 rfl]
        · unfold zWnrc at ha
          unfold zWnr2 zWnr
          simp at ha ⊢
          omega
        · rw [j1.1 7 n (by unfold zWnr2 zWnr; simp; omega)]
          exact (hnR.2 n hn).1
        · have := (hN.2 n hn).2.1
          rw [j1.1 8 _ (by unfold zWnr2 zWnr; simp; omega)]
          exact (hnR.2 n hn).2 i hi
    rcases k2 with ⟨n, n1, n2, n3, n4, n5, n6⟩ | ⟨f, f1, f2, f3⟩
    · rw [n3, if_neg (by simp (disch := omega) only [zk_bind, zk_chk, zk_bnd, zk_some, zlp_l, zlp_r, zb_some, zb_bnd, zI_add, zI_sub, zI_mul, zI_neg, zI_le, zI_lt, zI_eq, zI_ix, zI_inI, Int.toNat_natCast, Int.toNat_add, Int.toNat_mul, true_and, and_true]; omega), zk_bnd, zk_some]
      refine zOk_mono (r_name hN h4 hb hr.1 hnR) (fun r2 j => ?_)
      obtain ⟨j1, j2, j3⟩ := j
      rcases j3 with ⟨n', m1, m2, m3, m4, m5, m6⟩ | ⟨f', f1, f2, f3⟩
      · have hnn := zokN_one n1 m1
        subst hnn
        have hnm : ∀ k, k < gN σ + 1 → k ≠ gN σ → k < gN σ := fun k h1 h2 => by omega
        have hok' : okN (gN σ + 1) (fun k => if k = gN σ then n else gl σ k) (fun j => if 7 * gN σ ≤ j then zsy (gT σ) (j - 7 * gN σ) else gy σ j) := by
          refine ⟨by omega, fun k hk => ?_⟩
          by_cases hkN : k = gN σ
          · (try dsimp only)
            rw [if_pos hkN]
            refine ⟨n1.1, n1.2.1, fun i hi => ?_⟩
            rw [if_pos (by omega), show 7 * k + i - 7 * gN σ = i by omega]
            exact (zsy_v (n1.2.2.1 i hi)).2
          · have hh := hN.2 k (hnm k hk hkN)
            (try dsimp only)
            rw [if_neg hkN]
            refine ⟨hh.1, hh.2.1, fun i hi => ?_⟩
            rw [if_neg (by omega)]
            exact hh.2.2 i hi
        refine ⟨by rw [m3], zNMs σ [] (gN σ + 1) (fun k => if k = gN σ then n else gl σ k) (fun j => if 7 * gN σ ≤ j then zsy (gT σ) (j - 7 * gN σ) else gy σ j), ⟨⟨Nat.zero_le 300, fun i hi => absurd hi (Nat.not_lt_zero i)⟩, ho.2.1, ho.2.2.1, hok', ho.2.2.2.2.1, ho.2.2.2.2.2.1, ho.2.2.2.2.2.2⟩, relC_nm (zP_I pC rfl) ⟨by rw [zm_Iq _ _ _ _ (by decide), zm_Is]; rfl, fun i hi => absurd hi (Nat.not_lt_zero i)⟩ ⟨?_, fun k hk => ?_⟩ (Or.inl (zm_Is _ _ _ _)) hc, relR_nm (zP_mono j1 (fun a k ha => ?_)) j2 ⟨m4, fun k hk => ?_⟩ hr⟩
        · rw [zm_Iq _ _ _ _ (by decide), zm_Iq _ _ _ _ (by decide)]
          exact n4
        · have v19 : ∀ j, (zstI (zstI C 1 1 (zI 0)) 0 14 (zI 1)).1 19 j = C.1 19 j := fun j => by rw [zm_Iq _ _ _ _ (by decide), zm_Iq _ _ _ _ (by decide)]
          have v18 : ∀ j, (zstI (zstI C 1 1 (zI 0)) 0 14 (zI 1)).1 18 j = C.1 18 j := fun j => by rw [zm_Iq _ _ _ _ (by decide), zm_Iq _ _ _ _ (by decide)]
          by_cases hkN : k = gN σ
          · dsimp only
            rw [v19, if_pos hkN, hkN]
            refine ⟨n5, fun i hi => ?_⟩
            (try dsimp only)
            rw [v18, if_pos (by omega), Nat.add_sub_cancel_left]
            exact n6 i hi
          · have hh := hN.2 k (hnm k hk hkN)
            (try dsimp only)
            rw [v19, if_neg hkN, k1.1 19 k (by unfold zWnm; simp; omega)]
            refine ⟨(hnC.2 k (hnm k hk hkN)).1, fun i hi => ?_⟩
            (try dsimp only)
            rw [v18, if_neg (by omega), k1.1 18 _ (by unfold zWnm; simp; omega)]
            exact (hnC.2 k (hnm k hk hkN)).2 i hi
        · unfold zWnrc at ha
          unfold zWnr2 zWnr
          simp at ha ⊢
          omega
        · by_cases hkN : k = gN σ
          · dsimp only
            rw [if_pos hkN, hkN]
            refine ⟨m5, fun i hi => ?_⟩
            (try dsimp only)
            rw [if_pos (by omega), Nat.add_sub_cancel_left]
            exact m6 i hi
          · have hh := hN.2 k (hnm k hk hkN)
            (try dsimp only)
            rw [if_neg hkN, j1.1 7 k (by unfold zWnr2 zWnr; simp; omega)]
            refine ⟨(hnR.2 k (hnm k hk hkN)).1, fun i hi => ?_⟩
            (try dsimp only)
            rw [if_neg (by omega), j1.1 8 _ (by unfold zWnr2 zWnr; simp; omega)]
            exact (hnR.2 k (hnm k hk hkN)).2 i hi
      · exfalso
        rcases f1 with f1 | ⟨n', m1, m2, _⟩
        · exact zokN_ft n1 f1
        · rw [← zokN_one n1 m1] at m2
          exact n2 m2
    · exact fails f f1 f2 f3
  · have h44 : gN σ = 4 := by have := hN.1; omega
    unfold f_X12_name
    rw [if_neg (by simp (disch := omega) only [zk_bind, zk_chk, zk_bnd, zk_some, zlp_l, zlp_r, zb_some, zb_bnd, zI_add, zI_sub, zI_mul, zI_neg, zI_le, zI_lt, zI_eq, zI_ix, zI_inI, Int.toNat_natCast, Int.toNat_add, Int.toNat_mul, true_and, and_true]; omega), zb_some, if_neg (by decide), zk_some, hnR.1, if_pos (by rw [h44]; rfl), zk_some]
    exact ⟨rfl, σ, ho, hc, hr⟩
