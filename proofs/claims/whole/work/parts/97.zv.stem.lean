/-! ===== stems of the reference; stem ===== deps: 97.zp.piece -/
theorem zMk_inj {x y : Int32} {n : Nat} {P : Nat → Prop} (h : zMk x n P) (h' : zMk y n P) : x = y := by
  obtain ⟨m, rfl, _, h1⟩ := h
  obtain ⟨m', rfl, _, h2⟩ := h'
  have : m = m' := Nat.eq_of_testBit_eq (fun i => by
    by_cases hp : P i
    · rw [(h1 i).mpr hp, (h2 i).mpr hp]
    · have e1 : m.testBit i = false := by
        cases hb : m.testBit i
        · rfl
        · exact absurd ((h1 i).mp hb) hp
      have e2 : m'.testBit i = false := by
        cases hb : m'.testBit i
        · rfl
        · exact absurd ((h2 i).mp hb) hp
      rw [e1, e2])
  rw [this]
theorem zntz_bits {m t : Nat} (hm : m < 1048576) (ht : t < 20) (h1 : m.testBit t = true) (h2 : ∀ j, j < t → m.testBit j = false) : (m ^^^ 4294967295) &&& (m - 1) = 2 ^ t - 1 := by
  have hmod : m % 2 ^ t = 0 := by
    refine Nat.eq_of_testBit_eq (fun i => ?_)
    rw [Nat.testBit_mod_two_pow, Nat.zero_testBit]
    by_cases hi : i < t
    · rw [h2 i hi]; simp
    · simp [hi]
  have hodd : m / 2 ^ t % 2 = 1 := by
    have := h1
    rw [Nat.testBit_eq_decide_div_mod_eq] at this
    simpa using this
  have hpos : 0 < 2 ^ t := Nat.two_pow_pos t
  obtain ⟨k, hk⟩ : ∃ k, m / 2 ^ t = 2 * k + 1 := ⟨m / 2 ^ t / 2, by omega⟩
  have hm2 : m = 2 ^ (t + 1) * k + 2 ^ t := by
    have := Nat.div_add_mod m (2 ^ t)
    rw [hmod, hk] at this
    rw [Nat.pow_succ, ← this]
    rw [Nat.mul_add, Nat.mul_one, ← Nat.mul_assoc]
    rfl
  have hlt : 2 ^ t < 2 ^ (t + 1) := by rw [Nat.pow_succ]; omega
  have hm1 : m - 1 = 2 ^ (t + 1) * k + (2 ^ t - 1) := by omega
  refine Nat.eq_of_testBit_eq (fun j => ?_)
  rw [Nat.testBit_and, Nat.testBit_xor, show 4294967295 = 2 ^ 32 - 1 from rfl, Nat.testBit_two_pow_sub_one, Nat.testBit_two_pow_sub_one]
  have e1 : m.testBit j = if j < t + 1 then (2 ^ t).testBit j else k.testBit (j - (t + 1)) := by
    rw [hm2, Nat.testBit_two_pow_mul_add _ hlt]
  have e2 : (m - 1).testBit j = if j < t + 1 then (2 ^ t - 1).testBit j else k.testBit (j - (t + 1)) := by
    rw [hm1, Nat.testBit_two_pow_mul_add _ (by omega)]
  rw [e2, e1, Nat.testBit_two_pow_sub_one, Nat.testBit_two_pow]
  by_cases hj : j < t + 1
  · rw [if_pos hj, if_pos hj]
    by_cases hjt : j = t
    · subst hjt
      simp
    · have : j < t := by omega
      have h32 : j < 32 := by omega
      have hne : t ≠ j := by omega
      simp [this, h32, hne]
  · rw [if_neg hj, if_neg hj]
    have hjt : ¬ j < t := by omega
    by_cases h32 : j < 32
    · simp [hjt, h32]
    · have hz : (m - 1).testBit j = false := Nat.testBit_lt_two_pow (Nat.lt_of_lt_of_le (show m - 1 < 2 ^ 20 by omega) (Nat.pow_le_pow_right (by decide) (by omega)))
      rw [e2, if_neg hj] at hz
      rw [hz]
      simp [hjt]
theorem zntz {x : Int32} {P : Nat → Prop} (h : zMk x 20 P) {t : Nat} (hp : P t) (hn : ∀ j, j < t → ¬ P j) (M : ZMem) : f_J6_numberOfTrailingZeros_0f7a4 M x = some (zI t) := by
  have ht := zMk_lt h hp
  obtain ⟨m, rfl, hm, hb⟩ := h
  have hm0 : 0 < m := by
    rcases Nat.eq_zero_or_pos m with rfl | h0
    · have := (hb t).mpr hp
      rw [Nat.zero_testBit] at this
      cases this
    · exact h0
  have hbits := zntz_bits (m := m) (t := t) hm ht ((hb t).mpr hp) (fun j hj => by
    cases hbj : m.testBit j
    · rfl
    · exact absurd ((hb j).mp hbj) (hn j hj))
  have e : (zI m ^^^ zI (-1)) &&& (zI m - zI 1) = zI ((2 ^ t - 1 : Nat) : Int) := by
    have hle : 2 ^ t ≤ 2 ^ 19 := Nat.pow_le_pow_right (by decide) (by omega)
    rw [show zI (-1) = zI ((4294967295 : Nat) : Int) by decide, zI_xor (by omega) (by omega), zI_sub, show (m : Int) - 1 = ((m - 1 : Nat) : Int) by omega, zI_and ?_ (by omega), hbits]
    have := Nat.xor_lt_two_pow (x := m) (y := 4294967295) (n := 32) (by omega) (by omega)
    omega
  unfold f_J6_numberOfTrailingZeros_0f7a4
  rw [zb_bnd, e]
  unfold f_J6_numberOfTrailingZeros_0f7a4_34 f_J6_numberOfTrailingZeros_0f7a4_49 f_J6_numberOfTrailingZeros_0f7a4_62
  clear e hbits hb hm hm0 hn hp P
  have : t = 0 ∨ t = 1 ∨ t = 2 ∨ t = 3 ∨ t = 4 ∨ t = 5 ∨ t = 6 ∨ t = 7 ∨ t = 8 ∨ t = 9 ∨ t = 10 ∨ t = 11 ∨ t = 12 ∨ t = 13 ∨ t = 14 ∨ t = 15 ∨ t = 16 ∨ t = 17 ∨ t = 18 ∨ t = 19 := by omega
  rcases this with rfl | rfl | rfl | rfl | rfl | rfl | rfl | rfl | rfl | rfl | rfl | rfl | rfl | rfl | rfl | rfl | rfl | rfl | rfl | rfl <;> decide
/-- the stem of a word, as a key -/
noncomputable def zst (l : List (Nat × Nat)) (w : Nat) : Nat := zclr (zK l w) (zN l w - 1)
theorem zst_W {l : List (Nat × Nat)} (ho : okL l) {w : Nat} (hw : w < l.length) : zisW (zst l w) (zN l w - 1) := by
  obtain ⟨h1, h2, h3, h4, h5⟩ := okL_W ho hw
  refine ⟨zclr_lt _ h2, by omega, fun k hk => ?_, fun k hk1 hk2 => ?_⟩
  · unfold zst
    rw [zclr_dg (by omega) (by omega), if_neg (by omega)]
    exact h4 k (by omega)
  · unfold zst
    rw [zclr_dg (by omega) hk2]
    by_cases hkn : k = zN l w - 1
    · rw [if_pos hkn]
    · rw [if_neg hkn]
      exact h5 k (by omega) hk2
theorem zst_dg {l : List (Nat × Nat)} (ho : okL l) {w k : Nat} (hw : w < l.length) (hk : k < zN l w - 1) : zdg (zst l w) k = zdg (zK l w) k := by
  obtain ⟨h1, h2, h3, h4, h5⟩ := okL_W ho hw
  unfold zst
  rw [zclr_dg (by omega) (by omega), if_neg (by omega)]
theorem zst_eq {l : List (Nat × Nat)} (ho : okL l) {w v : Nat} (hw : w < l.length) (hv : v < l.length) : zst l v = zst l w ↔ zN l v = zN l w ∧ ∀ k, k < zN l w - 1 → zdg (zK l v) k = zdg (zK l w) k := by
  obtain ⟨h1, h2, h3, h4, h5⟩ := okL_W ho hw
  obtain ⟨g1, g2, g3, g4, g5⟩ := okL_W ho hv
  constructor
  · intro he
    have e1 := zisW_len (zst_W ho hw)
    have e2 := zisW_len (zst_W ho hv)
    rw [he] at e2
    have hn : zN l v = zN l w := by omega
    refine ⟨hn, fun k hk => ?_⟩
    rw [← zst_dg ho hw hk, ← zst_dg ho hv (by omega), he]
  · rintro ⟨hn, hd⟩
    refine zdg_ext (zst_W ho hv).1 (zst_W ho hw).1 (fun k hk => ?_)
    by_cases hkn : k < zN l w - 1
    · rw [zst_dg ho hw hkn, zst_dg ho hv (by omega)]
      exact hd k hkn
    · rw [(zst_W ho hw).2.2.2 k (by omega) hk, (zst_W ho hv).2.2.2 k (by omega) hk]
/-- endings of a stem -/
def zend2 (l : List (Nat × Nat)) (x b : Nat) : Prop := ∃ v, v < l.length ∧ 3 ≤ zN l v ∧ zst l v = x ∧ zS l 0 v = b
def zstm2 (l : List (Nat × Nat)) (x : Nat) : Prop := ∃ i j, i < j ∧ j < l.length ∧ 3 ≤ zN l i ∧ 3 ≤ zN l j ∧ zst l i = x ∧ zst l j = x
theorem zS_0 (l : List (Nat × Nat)) (w : Nat) : zS l 0 w = zSg l w (zN l w - 1) := by
  unfold zS zSg zpos
  rw [if_pos rfl]
theorem zdif_0 {l : List (Nat × Nat)} (ho : okL l) {i j : Nat} (hi : i < l.length) (hj : j < l.length) (h3 : 3 ≤ zN l i) : zdif l 0 i j ↔ zst l i = zst l j := by
  unfold zdif zpos
  rw [if_pos rfl]
  constructor
  · rintro ⟨h1, h2, h4⟩
    unfold zst
    rw [h4, h1]
  · intro he
    have hn := ((zst_eq ho hj hi).mp he).1
    refine ⟨hn, by omega, ?_⟩
    unfold zst at he
    rw [he, hn]
theorem zstD_iff {l : List (Nat × Nat)} (ho : okL l) (x : Nat) : zstD l (zDall l) x ↔ zstm2 l x := by
  constructor
  · rintro ⟨i, j, ⟨d1, d2⟩, d3, d4, d5⟩
    have he := (zdif_0 ho (by omega) d2 d4).mp d3
    have hn := ((zst_eq ho d2 (by omega)).mp he).1
    exact ⟨i, j, d1, d2, d4, by omega, d5.symm, by rw [← he]; exact d5.symm⟩
  · rintro ⟨i, j, d1, d2, d3, d4, d5, d6⟩
    exact ⟨i, j, ⟨d1, d2⟩, (zdif_0 ho (by omega) d2 d3).mpr (by rw [d5, d6]), d3, d5.symm⟩
theorem zseD_iff {l : List (Nat × Nat)} (ho : okL l) {x : Nat} (hx : zstm2 l x) (b : Nat) : zseD l (zDall l) x b ↔ zend2 l x b := by
  constructor
  · rintro ⟨i, j, ⟨d1, d2⟩, d3, d4, d5, d6⟩
    have he := (zdif_0 ho (by omega) d2 d4).mp d3
    have hn := ((zst_eq ho d2 (by omega)).mp he).1
    rcases d6 with d6 | d6
    · exact ⟨i, by omega, d4, d5.symm, d6.symm⟩
    · exact ⟨j, d2, by omega, by rw [← he]; exact d5.symm, d6.symm⟩
  · rintro ⟨v, v1, v2, v3, v4⟩
    obtain ⟨i, j, d1, d2, d3, d4, d5, d6⟩ := hx
    have other : ∃ u, u < l.length ∧ u ≠ v ∧ 3 ≤ zN l u ∧ zst l u = x := by
      by_cases hiv : i = v
      · exact ⟨j, d2, by omega, d4, d6⟩
      · exact ⟨i, by omega, hiv, d3, d5⟩
    obtain ⟨u, u1, u2, u3, u4⟩ := other
    rcases Nat.lt_or_gt_of_ne u2 with hc | hc
    · exact ⟨u, v, ⟨hc, v1⟩, (zdif_0 ho u1 v1 u3).mpr (by rw [u4, v3]), u3, u4.symm, Or.inr v4.symm⟩
    · exact ⟨v, u, ⟨hc, u1⟩, (zdif_0 ho v1 u1 v2).mpr (by rw [u4, v3]), v2, v3.symm, Or.inl v4.symm⟩
/-- two words of a stem end unlike -/
theorem zend_ne {l : List (Nat × Nat)} (ho : okL l) {i j : Nat} (hi : i < l.length) (hj : j < l.length) (h3 : 3 ≤ zN l i) (he : zst l i = zst l j) (hs : zS l 0 i = zS l 0 j) : i = j := by
  rcases Nat.lt_trichotomy i j with hc | hc | hc
  · exact absurd hs (zdif_ne ho hc hj ((zdif_0 ho hi hj h3).mpr he))
  · exact hc
  · have hn := ((zst_eq ho hj hi).mp he).1
    exact absurd hs.symm (zdif_ne ho hc hi ((zdif_0 ho hj hi (by omega)).mpr he.symm))
theorem zstm2_iff {l : List (Nat × Nat)} (ho : okL l) (x : Nat) : 2 ≤ zsum 20 (fun b => zb (zend2 l x b)) ↔ zstm2 l x := by
  constructor
  · intro h
    apply Classical.byContradiction
    intro hn
    have := zsum_one (n := 20) (P := zend2 l x) (fun a b _ _ ha hb => by
      obtain ⟨v, v1, v2, v3, v4⟩ := ha
      obtain ⟨u, u1, u2, u3, u4⟩ := hb
      by_cases huv : u = v
      · rw [← v4, ← u4, huv]
      · exfalso
        rcases Nat.lt_or_gt_of_ne huv with hc | hc
        · exact hn ⟨u, v, hc, v1, u2, v2, u3, v3⟩
        · exact hn ⟨v, u, hc, u1, v2, u2, v3, u3⟩)
    omega
  · rintro ⟨i, j, d1, d2, d3, d4, d5, d6⟩
    have hne : zS l 0 i ≠ zS l 0 j := fun hh => by
      have := zend_ne ho (by omega) d2 d3 (by rw [d5, d6]) hh
      omega
    have r1 := (zS_rng ho (i := i) (by omega) 0).1
    have r2 := (zS_rng ho d2 0).1
    rcases Nat.lt_or_gt_of_ne hne with hc | hc
    · exact zsum_two hc r2 ⟨i, by omega, d3, d5, rfl⟩ ⟨j, d2, d4, d6, rfl⟩
    · exact zsum_two hc r1 ⟨j, d2, d4, d6, rfl⟩ ⟨i, by omega, d3, d5, rfl⟩
/-- the word that a stem is laid by -/
def zhd (l : List (Nat × Nat)) (w : Nat) : Prop := w < l.length ∧ 3 ≤ zN l w ∧ zstm2 l (zst l w) ∧ ∀ b, zend2 l (zst l w) b → zS l 0 w ≤ b
theorem zhd_one {l : List (Nat × Nat)} (ho : okL l) {w v : Nat} (hw : zhd l w) (hv : zhd l v) (he : zst l w = zst l v) : w = v := by
  have h1 := hw.2.2.2 (zS l 0 v) ⟨v, hv.1, hv.2.1, he.symm, rfl⟩
  have h2 := hv.2.2.2 (zS l 0 w) ⟨w, hw.1, hw.2.1, he, rfl⟩
  exact zend_ne ho hw.1 hv.1 hw.2.1 he (by omega)
theorem zhd_ex {l : List (Nat × Nat)} {x : Nat} (h : zstm2 l x) : ∃ w, zhd l w ∧ zst l w = x := by
  obtain ⟨i, j, d1, d2, d3, d4, d5, d6⟩ := h
  have key : ∀ n v, v < l.length → 3 ≤ zN l v → zst l v = x → zS l 0 v ≤ n → ∃ w, zhd l w ∧ zst l w = x := by
    intro n
    induction n with
    | zero =>
      intro v v1 v2 v3 v4
      exact ⟨v, ⟨v1, v2, by rw [v3]; exact ⟨i, j, d1, d2, d3, d4, d5, d6⟩, fun b _ => by omega⟩, v3⟩
    | succ n ih =>
      intro v v1 v2 v3 v4
      by_cases hl : ∀ b, zend2 l x b → zS l 0 v ≤ b
      · exact ⟨v, ⟨v1, v2, by rw [v3]; exact ⟨i, j, d1, d2, d3, d4, d5, d6⟩, by rw [v3]; exact hl⟩, v3⟩
      · have : ∃ b, zend2 l x b ∧ b < zS l 0 v := by
          apply Classical.byContradiction
          intro hn
          exact hl (fun b hb => Classical.byContradiction (fun hh => hn ⟨b, hb, by omega⟩))
        obtain ⟨b, ⟨u, u1, u2, u3, u4⟩, hb⟩ := this
        exact ih u u1 u2 u3 (by omega)
  exact key _ i (by omega) d3 d5 (Nat.le_refl _)
-- the reference lays stems
theorem r_laysPiece {M : ZMem} {l : List (Nat × Nat)} (ho : okL l) (hl : lexR l M) {w n : Nat} (hw : w < l.length) (hn : n ≤ zN l w) : zOk (f_X12_laysPiece M (zI w) (zI n)) (fun M' => pcR (zSg l w) n M' ∧ zP (fun a _ => a == 15) M M') := by
  have hW := ho.1
  have h7 := (okL_W ho hw).2.2.1
  have hlw := lexR_w hl hw
  unfold f_X12_laysPiece
  rw [zk_bind]
  refine zOk_forQ (fun i s => s.2 = zI i ∧ pcR (zSg l w) i s.1 ∧ zP (fun a _ => a == 15) M s.1) n ?_ ?_ ⟨rfl, fun j hj => absurd hj (Nat.not_lt_zero j), zP_rf⟩
  · rintro i ⟨N, s2⟩ hi ⟨e1, e2, e3⟩ Q hQ _
    dsimp only at e1 e2 e3
    have hr := zSg_rng ho hw (show i < zN l w by omega)
    have hks := zks_lt (key := zK l w) (show i < 7 by omega)
    unfold f_X12_laysPiece_L2
    dsimp only
    rw [e1, if_neg (by simp (disch := omega) only [zk_bind, zk_chk, zk_bnd, zk_some, zlp_l, zlp_r, zb_some, zb_bnd, zI_add, zI_sub, zI_mul, zI_neg, zI_le, zI_lt, zI_eq, zI_ix, zI_inI, Int.toNat_natCast, Int.toNat_add, Int.toNat_mul, true_and, and_true]; omega), zI_mul, zI_add, zI_inI (by omega) (by omega) (by omega), zb_chk, zI_inI (by omega) (by omega) (by omega), zb_chk, zk_bnd, zk_bnd, zk_some, zI_add, zI_ix (by omega) (by omega), zI_ix (by omega) (by omega), Int.toNat_natCast, show (7 * (w : Int) + (i : Int)).toNat = 7 * w + i by omega, e3.1 17 _ rfl, hlw.2 i (by omega), ← hks, hr.2]
    refine hQ _ ⟨zI_inj (by omega), fun j hj => ?_, zP_I e3 rfl⟩
    dsimp only
    by_cases hji : j = i
    · rw [hji, zm_Is]
    · rw [zm_In _ _ _ _ hji]
      exact e2 j (by omega)
  · rintro ⟨N, s2⟩ ⟨e1, e2, e3⟩
    dsimp only at e1 e2 e3
    refine ⟨N, ?_, ?_⟩
    · unfold f_X12_laysPiece_L2
      dsimp only
      rw [e1, if_pos (by simp (disch := omega) only [zk_bind, zk_chk, zk_bnd, zk_some, zlp_l, zlp_r, zb_some, zb_bnd, zI_add, zI_sub, zI_mul, zI_neg, zI_le, zI_lt, zI_eq, zI_ix, zI_inI, Int.toNat_natCast, Int.toNat_add, Int.toNat_mul, true_and, and_true]; omega)]
    · rw [zk_some]
      exact ⟨e2, e3⟩
theorem r_endingsOf {M : ZMem} {l : List (Nat × Nat)} (ho : okL l) (hl : lexR l M) {w : Nat} (hw : w < l.length) (h3 : 3 ≤ zN l w) (hp : pcR (zSg l w) (zN l w - 1) M) : ∃ x, f_X12_endingsOf M (zI ((zN l w - 1 : Nat) : Int)) = some x ∧ zMk x 20 (zend2 l (zst l w)) := by
  have hW := ho.1
  have h7 := (okL_W ho hw).2.2.1
  suffices hh : zOk (f_X12_endingsOf M (zI ((zN l w - 1 : Nat) : Int))) (fun x => zMk x 20 (zend2 l (zst l w))) from by
    obtain ⟨x, x1, x2⟩ := hh
    exact ⟨x, x1, x2⟩
  unfold f_X12_endingsOf
  rw [zk_bind]
  refine zOk_forQ (fun i s => s.2 = zI i ∧ zMk s.1 20 (fun b => ∃ v, v < i ∧ 3 ≤ zN l v ∧ zst l v = zst l w ∧ zS l 0 v = b)) l.length ?_ ?_ ⟨rfl, zMk_0 20 (fun b ⟨v, hv, _⟩ => absurd hv (Nat.not_lt_zero v))⟩
  · rintro i ⟨s1, s2⟩ hi ⟨e1, e2⟩ Q hQ _
    dsimp only at e1 e2
    have hlw := lexR_w hl hi
    have hi7 := okL_W ho hi
    have hi72 := hi7.2.2.1
    have body : ∀ p : Prop, (p ↔ zN l i = zN l w) → zOk (f_X12_endingsOf_29_L4 M (zI ((zN l w - 1 : Nat) : Int)) s1 (zI i) (zI (zb p))) Q := by
      intro p hpp
      unfold f_X12_endingsOf_29_L4
      rw [zk_bind]
      refine zOk_forQ (fun k t => t.2 = zI k ∧ t.1 = zI (zb (p ∧ ∀ j, j < k → zSg l i j = zSg l w j) : Int)) (zN l w - 1) ?_ ?_ ⟨rfl, by rw [zb_iff (q := p ∧ ∀ j, j < 0 → zSg l i j = zSg l w j) ⟨fun hh => ⟨hh, fun j hj => absurd hj (Nat.not_lt_zero j)⟩, fun hh => hh.1⟩]⟩
      · rintro k ⟨t1, t2⟩ hk ⟨d1, d2⟩ Q' hQ' hE'
        dsimp only at d1 d2
        unfold f_X12_endingsOf_L34
        dsimp only
        rw [d1, d2, if_neg (by simp (disch := omega) only [zk_bind, zk_chk, zk_bnd, zk_some, zlp_l, zlp_r, zb_some, zb_bnd, zI_add, zI_sub, zI_mul, zI_neg, zI_le, zI_lt, zI_eq, zI_ix, zI_inI, Int.toNat_natCast, Int.toNat_add, Int.toNat_mul, true_and, and_true]; omega)]
        by_cases hz : p ∧ ∀ j, j < k → zSg l i j = zSg l w j
        · have hni := hpp.mp hz.1
          have r1 := zSg_rng ho hi (show k < zN l i by omega)
          have r2 := zSg_rng ho hw (show k < zN l w by omega)
          have hks := zks_lt (key := zK l i) (show k < 7 by omega)
          rw [if_neg (fun hh => zb_0.mp hh hz), zI_mul, zI_add, zI_inI (by omega) (by omega) (by omega), zb_chk, zI_inI (by omega) (by omega) (by omega), zb_chk, zI_ix (by omega) (by omega), zI_ix (by omega) (by omega), Int.toNat_natCast, show (7 * (i : Int) + (k : Int)).toNat = 7 * i + k by omega, hlw.2 k (by omega), ← hks, r1.2, hp k hk]
          have := r1.1
          have := r2.1
          by_cases hkk : zSg l i k = zSg l w k
          · rw [if_pos (by rw [hkk]), zk_bnd, zk_some, zI_add]
            refine hQ' _ ⟨zI_inj (by omega), ?_⟩
            dsimp only
            rw [zb_t ⟨hz.1, fun j hj => by
              by_cases hjk : j = k
              · rw [hjk]; exact hkk
              · exact hz.2 j (by omega)⟩]
            rfl
          · rw [if_neg (by simp (disch := omega) only [zk_bind, zk_chk, zk_bnd, zk_some, zlp_l, zlp_r, zb_some, zb_bnd, zI_add, zI_sub, zI_mul, zI_neg, zI_le, zI_lt, zI_eq, zI_ix, zI_inI, Int.toNat_natCast, Int.toNat_add, Int.toNat_mul, true_and, and_true]; omega), zk_bnd, zk_some, zI_add]
            refine hQ' _ ⟨zI_inj (by omega), ?_⟩
            dsimp only
            rw [zb_f (fun hh => hkk (hh.2 k (by omega)))]
            rfl
        · rw [if_pos (zb_0.mpr hz), zk_some]
          refine hE' _ ?_
          rw [if_pos (zb_0.mpr hz), zk_bnd, zk_bnd, zk_some, zI_add]
          refine hQ _ ⟨zI_inj (by omega), zMk_cg (zMk_oo (by omega) e2 (zMk_0 20 (P := fun _ => False) (fun _ hh => hh))) (fun b => ?_)⟩
          constructor
          · rintro (⟨v, v1, v2⟩ | hh)
            · exact ⟨v, by omega, v2⟩
            · exact hh.elim
          · rintro ⟨v, v1, v2, v3, v4⟩
            by_cases hvi : v = i
            · exfalso
              rw [hvi] at v3
              obtain ⟨g1, g2⟩ := (zst_eq ho hw hi).mp v3
              exact hz ⟨hpp.mpr g1, fun j hj => by unfold zSg; rw [g2 j (by omega)]⟩
            · exact Or.inl ⟨v, by omega, v2, v3, v4⟩
      · rintro ⟨t1, t2⟩ ⟨d1, d2⟩
        dsimp only at d1 d2
        refine ⟨t1, ?_, ?_⟩
        · unfold f_X12_endingsOf_L34
          dsimp only
          rw [d1, if_pos (by simp (disch := omega) only [zk_bind, zk_chk, zk_bnd, zk_some, zlp_l, zlp_r, zb_some, zb_bnd, zI_add, zI_sub, zI_mul, zI_neg, zI_le, zI_lt, zI_eq, zI_ix, zI_inI, Int.toNat_natCast, Int.toNat_add, Int.toNat_mul, true_and, and_true]; omega)]
        · rw [d2]
          by_cases hz : p ∧ ∀ j, j < zN l w - 1 → zSg l i j = zSg l w j
          · have hni := hpp.mp hz.1
            have r1 := zSg_rng ho hi (show zN l w - 1 < zN l i by omega)
            have hks := zks_lt (key := zK l i) (show zN l w - 1 < 7 by omega)
            have hst : zst l i = zst l w := (zst_eq ho hw hi).mpr ⟨hni, fun k hk => by
              have q1 := zSg_rng ho hi (show k < zN l i by omega)
              have q2 := zSg_rng ho hw (show k < zN l w by omega)
              have q3 := (okL_W ho hi).2.2.2.1 k (by omega)
              have q4 := (okL_W ho hw).2.2.2.1 k (by omega)
              have q5 := hz.2 k hk
              unfold zSg at q5
              omega⟩
            have hS : zS l 0 i = zSg l i (zN l w - 1) := by rw [zS_0, hni]
            rw [if_neg (fun hh => zb_0.mp hh hz), zI_mul, zI_add, zI_inI (by omega) (by omega) (by omega), zb_chk, zk_bnd, zk_bnd, zk_some, zI_ix (by omega) (by omega), show (7 * (i : Int) + ((zN l w - 1 : Nat) : Int)).toNat = 7 * i + (zN l w - 1) by omega, hlw.2 (zN l w - 1) (by omega), ← hks, r1.2, zI_add]
            refine hQ _ ⟨zI_inj (by omega), zMk_cg (zMk_or (by omega) e2 r1.1) (fun b => ?_)⟩
            constructor
            · rintro (⟨v, v1, v2⟩ | hh)
              · exact ⟨v, by omega, v2⟩
              · exact ⟨i, by omega, by omega, hst, by rw [hS, hh]⟩
            · rintro ⟨v, v1, v2, v3, v4⟩
              by_cases hvi : v = i
              · rw [hvi, hS] at v4
                exact Or.inr v4.symm
              · exact Or.inl ⟨v, by omega, v2, v3, v4⟩
          · rw [if_pos (zb_0.mpr hz), zk_bnd, zk_bnd, zk_some, zI_add]
            refine hQ _ ⟨zI_inj (by omega), zMk_cg (zMk_oo (by omega) e2 (zMk_0 20 (P := fun _ => False) (fun _ hh => hh))) (fun b => ?_)⟩
            constructor
            · rintro (⟨v, v1, v2⟩ | hh)
              · exact ⟨v, by omega, v2⟩
              · exact hh.elim
            · rintro ⟨v, v1, v2, v3, v4⟩
              by_cases hvi : v = i
              · exfalso
                rw [hvi] at v3
                obtain ⟨g1, g2⟩ := (zst_eq ho hw hi).mp v3
                exact hz ⟨hpp.mpr g1, fun j hj => by unfold zSg; rw [g2 j hj]⟩
              · exact Or.inl ⟨v, by omega, v2, v3, v4⟩
    unfold f_X12_endingsOf_L4
    dsimp only
    rw [hl.1, e1, if_neg (by simp (disch := omega) only [zk_bind, zk_chk, zk_bnd, zk_some, zlp_l, zlp_r, zb_some, zb_bnd, zI_add, zI_sub, zI_mul, zI_neg, zI_le, zI_lt, zI_eq, zI_ix, zI_inI, Int.toNat_natCast, Int.toNat_add, Int.toNat_mul, true_and, and_true]; omega), zI_inI (by omega) (by omega) (by omega), zb_chk, zI_ix (by omega) (by omega), Int.toNat_natCast, hlw.1, zI_add]
    by_cases hni : zN l i = zN l w
    · rw [if_pos (zI_inj (by omega))]
      have := body True ⟨fun _ => hni, fun _ => trivial⟩
      rw [zb_t trivial] at this
      exact this
    · rw [if_neg (by simp (disch := omega) only [zk_bind, zk_chk, zk_bnd, zk_some, zlp_l, zlp_r, zb_some, zb_bnd, zI_add, zI_sub, zI_mul, zI_neg, zI_le, zI_lt, zI_eq, zI_ix, zI_inI, Int.toNat_natCast, Int.toNat_add, Int.toNat_mul, true_and, and_true]; omega)]
      have := body False ⟨False.elim, fun hh => hni hh⟩
      rw [zb_f (fun h => h)] at this
      exact this
  · rintro ⟨s1, s2⟩ ⟨e1, e2⟩
    dsimp only at e1 e2
    refine ⟨s1, ?_, ?_⟩
    · unfold f_X12_endingsOf_L4
      dsimp only
      rw [hl.1, e1, if_pos (by simp (disch := omega) only [zk_bind, zk_chk, zk_bnd, zk_some, zlp_l, zlp_r, zb_some, zb_bnd, zI_add, zI_sub, zI_mul, zI_neg, zI_le, zI_lt, zI_eq, zI_ix, zI_inI, Int.toNat_natCast, Int.toNat_add, Int.toNat_mul, true_and, and_true]; omega)]
    · rw [zk_some]
      exact e2
theorem r_isAhead {M : ZMem} {l : List (Nat × Nat)} (ho : okL l) (hl : lexR l M) {w v : Nat} (hw : w < l.length) (hv : v < l.length) : f_X12_isAhead M (zI w) (zI v) = some (zI (zb (zst l w < zst l v))) := by
  have hW := ho.1
  have a1 := zst_W ho hw
  have a2 := zst_W ho hv
  have b1 := okL_W ho hw
  have b2 := okL_W ho hv
  have b17 := b1.2.2.1
  have b27 := b2.2.2.1
  have c1 := lexR_w hl hw
  have c2 := lexR_w hl hv
  unfold f_X12_isAhead
  refine zOk_is ?_
  rw [zI_inI (by omega) (by omega) (by omega), zb_chk, zI_inI (by omega) (by omega) (by omega), zk_bnd, zb_chk, zk_bnd, zI_ix (by omega) (by omega), zI_ix (by omega) (by omega), Int.toNat_natCast, Int.toNat_natCast, c1.1, c2.1, zI_sub, zI_sub, zk_bind]
  refine zOk_forQ (fun i s => s = zI i ∧ ∀ j, j < i → zdg (zst l w) j = zdg (zst l v) j) (min (zN l w - 1) (zN l v - 1)) ?_ ?_ ⟨rfl, fun j hj => absurd hj (Nat.not_lt_zero j)⟩
  · rintro i s hi ⟨rfl, e2⟩ Q hQ hE
    have d1 := zst_dg ho hw (show i < zN l w - 1 by omega)
    have d2 := zst_dg ho hv (show i < zN l v - 1 by omega)
    have r1 := b1.2.2.2.1 i (by omega)
    have r2 := b2.2.2.2.1 i (by omega)
    unfold f_X12_isAhead_L22
    rw [if_neg (by simp (disch := omega) only [zk_bind, zk_chk, zk_bnd, zk_some, zlp_l, zlp_r, zb_some, zb_bnd, zI_add, zI_sub, zI_mul, zI_neg, zI_le, zI_lt, zI_eq, zI_ix, zI_inI, Int.toNat_natCast, Int.toNat_add, Int.toNat_mul, true_and, and_true]; omega), if_neg (by simp (disch := omega) only [zk_bind, zk_chk, zk_bnd, zk_some, zlp_l, zlp_r, zb_some, zb_bnd, zI_add, zI_sub, zI_mul, zI_neg, zI_le, zI_lt, zI_eq, zI_ix, zI_inI, Int.toNat_natCast, Int.toNat_add, Int.toNat_mul, true_and, and_true]; omega), zI_mul, zI_add, zI_inI (by omega) (by omega) (by omega), zb_chk, zI_mul, zI_add, zI_inI (by omega) (by omega) (by omega), zb_chk, zk_bnd, zI_ix (by omega) (by omega), zI_ix (by omega) (by omega), show (7 * (w : Int) + (i : Int)).toNat = 7 * w + i by omega, show (7 * (v : Int) + (i : Int)).toNat = 7 * v + i by omega, c1.2 i (by omega), c2.2 i (by omega), zI_sub]
    by_cases he : zdg (zK l w) i = zdg (zK l v) i
    · rw [if_pos (zI_inj (by omega)), zk_bnd, zk_some, zI_add]
      refine hQ _ ⟨zI_inj (by omega), fun j hj => ?_⟩
      by_cases hji : j = i
      · rw [hji, d1, d2, he]
      · exact e2 j (by omega)
    · rw [if_neg (by simp (disch := omega) only [zk_bind, zk_chk, zk_bnd, zk_some, zlp_l, zlp_r, zb_some, zb_bnd, zI_add, zI_sub, zI_mul, zI_neg, zI_le, zI_lt, zI_eq, zI_ix, zI_inI, Int.toNat_natCast, Int.toNat_add, Int.toNat_mul, true_and, and_true]; omega)]
      by_cases hlt : zdg (zK l w) i < zdg (zK l v) i
      · rw [if_neg (by simp (disch := omega) only [zk_bind, zk_chk, zk_bnd, zk_some, zlp_l, zlp_r, zb_some, zb_bnd, zI_add, zI_sub, zI_mul, zI_neg, zI_le, zI_lt, zI_eq, zI_ix, zI_inI, Int.toNat_natCast, Int.toNat_add, Int.toNat_mul, true_and, and_true]; omega), zk_some]
        refine hE _ ?_
        show zOk (some (zI 1)) _
        rw [zk_some, zb_t (zdg_cmp a1.1 a2.1 (show i < 7 by omega) e2 (by omega))]
        rfl
      · rw [if_pos (by simp (disch := omega) only [zk_bind, zk_chk, zk_bnd, zk_some, zlp_l, zlp_r, zb_some, zb_bnd, zI_add, zI_sub, zI_mul, zI_neg, zI_le, zI_lt, zI_eq, zI_ix, zI_inI, Int.toNat_natCast, Int.toNat_add, Int.toNat_mul, true_and, and_true]; omega), zk_some]
        refine hE _ ?_
        show zOk (some (zI 0)) _
        have := zdg_cmp a2.1 a1.1 (show i < 7 by omega) (fun j hj => (e2 j hj).symm) (by omega)
        rw [zk_some, zb_f (by omega)]
        rfl
  · rintro s ⟨rfl, e2⟩
    refine ⟨.inl (), ?_, ?_⟩
    · unfold f_X12_isAhead_L22
      by_cases hc : zN l w - 1 ≤ zN l v - 1
      · rw [if_pos (by simp (disch := omega) only [zk_bind, zk_chk, zk_bnd, zk_some, zlp_l, zlp_r, zb_some, zb_bnd, zI_add, zI_sub, zI_mul, zI_neg, zI_le, zI_lt, zI_eq, zI_ix, zI_inI, Int.toNat_natCast, Int.toNat_add, Int.toNat_mul, true_and, and_true]; omega)]
      · rw [if_neg (by simp (disch := omega) only [zk_bind, zk_chk, zk_bnd, zk_some, zlp_l, zlp_r, zb_some, zb_bnd, zI_add, zI_sub, zI_mul, zI_neg, zI_le, zI_lt, zI_eq, zI_ix, zI_inI, Int.toNat_natCast, Int.toNat_add, Int.toNat_mul, true_and, and_true]; omega), if_pos (by simp (disch := omega) only [zk_bind, zk_chk, zk_bnd, zk_some, zlp_l, zlp_r, zb_some, zb_bnd, zI_add, zI_sub, zI_mul, zI_neg, zI_le, zI_lt, zI_eq, zI_ix, zI_inI, Int.toNat_natCast, Int.toNat_add, Int.toNat_mul, true_and, and_true]; omega)]
    · show zOk (if zI ((zN l v : Int) - 1) ≤ zI ((zN l w : Int) - 1) then some (zI 0) else some (zI 1)) _
      rcases Nat.lt_trichotomy (zN l w - 1) (zN l v - 1) with hc | hc | hc
      · have h0 := a1.2.2.2 (zN l w - 1) (by omega) (by omega)
        have h1 := a2.2.2.1 (zN l w - 1) (by omega)
        rw [if_neg (by simp (disch := omega) only [zk_bind, zk_chk, zk_bnd, zk_some, zlp_l, zlp_r, zb_some, zb_bnd, zI_add, zI_sub, zI_mul, zI_neg, zI_le, zI_lt, zI_eq, zI_ix, zI_inI, Int.toNat_natCast, Int.toNat_add, Int.toNat_mul, true_and, and_true]; omega), zk_some, zb_t (zdg_cmp a1.1 a2.1 (show zN l w - 1 < 7 by omega) (fun j hj => e2 j (by omega)) (by omega))]
        rfl
      · have : zst l w = zst l v := zdg_ext a1.1 a2.1 (fun k hk => by
          by_cases hkn : k < zN l w - 1
          · exact e2 k (by omega)
          · rw [a1.2.2.2 k (by omega) hk, a2.2.2.2 k (by omega) hk])
        rw [if_pos (by simp (disch := omega) only [zk_bind, zk_chk, zk_bnd, zk_some, zlp_l, zlp_r, zb_some, zb_bnd, zI_add, zI_sub, zI_mul, zI_neg, zI_le, zI_lt, zI_eq, zI_ix, zI_inI, Int.toNat_natCast, Int.toNat_add, Int.toNat_mul, true_and, and_true]; omega), zk_some, zb_f (by omega)]
        rfl
      · have h0 := a2.2.2.2 (zN l v - 1) (by omega) (by omega)
        have h1 := a1.2.2.1 (zN l v - 1) (by omega)
        have := zdg_cmp a2.1 a1.1 (show zN l v - 1 < 7 by omega) (fun j hj => (e2 j (by omega)).symm) (by omega)
        rw [if_pos (by simp (disch := omega) only [zk_bind, zk_chk, zk_bnd, zk_some, zlp_l, zlp_r, zb_some, zb_bnd, zI_add, zI_sub, zI_mul, zI_neg, zI_le, zI_lt, zI_eq, zI_ix, zI_inI, Int.toNat_natCast, Int.toNat_add, Int.toNat_mul, true_and, and_true]; omega), zk_some, zb_f (by omega)]
        rfl
theorem zinc_cut {f : Nat → Nat} {y : Nat} : ∀ c, zinc c f → (∀ k, k < c → f k ≠ y) → ∃ p, p ≤ c ∧ (∀ k, k < p → f k < y) ∧ ∀ k, p ≤ k → k < c → y < f k := by
  intro c
  induction c with
  | zero => intro _ _; exact ⟨0, Nat.le_refl _, fun k hk => absurd hk (Nat.not_lt_zero k), fun k _ hk => absurd hk (Nat.not_lt_zero k)⟩
  | succ c ih =>
    intro h1 h2
    obtain ⟨p, p1, p2, p3⟩ := ih (fun i j hij hj => h1 i j hij (by omega)) (fun k hk => h2 k (by omega))
    by_cases hc : f c < y
    · refine ⟨c + 1, Nat.le_refl _, fun k hk => ?_, fun k hk1 hk2 => by omega⟩
      by_cases hkc : k = c
      · rw [hkc]; exact hc
      · have := h1 k c (by omega) (by omega)
        omega
    · refine ⟨p, by omega, p2, fun k hk1 hk2 => ?_⟩
      by_cases hkc : k = c
      · rw [hkc]
        have := h2 c (by omega)
        omega
      · exact p3 k hk1 (by omega)
theorem zinc_uniq {m m' : Nat} {f g : Nat → Nat} (hf : zinc m f) (hg : zinc m' g) (h : ∀ y, (∃ i, i < m ∧ f i = y) ↔ ∃ i, i < m' ∧ g i = y) : m = m' ∧ ∀ i, i < m → f i = g i := by
  have half : ∀ {m m' : Nat} {f g : Nat → Nat}, zinc m f → zinc m' g → (∀ y, (∃ i, i < m ∧ f i = y) ↔ ∃ i, i < m' ∧ g i = y) → ∀ n i, i ≤ n → i < m → i < m' ∧ f i = g i := by
    intro m m' f g hf hg h n
    induction n with
    | zero =>
      intro i hi him
      have hi0 : i = 0 := by omega
      subst hi0
      obtain ⟨k, k1, k2⟩ := (h (f 0)).mp ⟨0, him, rfl⟩
      have hm' : 0 < m' := by omega
      obtain ⟨q, q1, q2⟩ := (h (g 0)).mpr ⟨0, hm', rfl⟩
      refine ⟨hm', ?_⟩
      have a1 : g 0 ≤ g k := by
        by_cases hk0 : k = 0
        · rw [hk0]; exact Nat.le_refl _
        · exact Nat.le_of_lt (hg 0 k (by omega) k1)
      have a2 : f 0 ≤ f q := by
        by_cases hq0 : q = 0
        · rw [hq0]; exact Nat.le_refl _
        · exact Nat.le_of_lt (hf 0 q (by omega) q1)
      omega
    | succ n ih =>
      intro i hi him
      by_cases hin : i ≤ n
      · exact ih i hin him
      · obtain ⟨k, k1, k2⟩ := (h (f i)).mp ⟨i, him, rfl⟩
        have hki : i ≤ k := by
          apply Classical.byContradiction
          intro hh
          have e := (ih k (by omega) (by omega)).2
          have := hf k i (by omega) him
          omega
        have hm' : i < m' := by omega
        obtain ⟨q, q1, q2⟩ := (h (g i)).mpr ⟨i, hm', rfl⟩
        have hqi : i ≤ q := by
          apply Classical.byContradiction
          intro hh
          have e := (ih q (by omega) (by omega)).2
          have := hg q i (by omega) hm'
          omega
        refine ⟨hm', ?_⟩
        have a1 : g i ≤ g k := by
          by_cases hk0 : k = i
          · rw [hk0]; exact Nat.le_refl _
          · exact Nat.le_of_lt (hg i k (by omega) k1)
        have a2 : f i ≤ f q := by
          by_cases hq0 : q = i
          · rw [hq0]; exact Nat.le_refl _
          · exact Nat.le_of_lt (hf i q (by omega) q1)
        omega
  have h1 := half hf hg h
  have h2 := half hg hf (fun y => (h y).symm)
  refine ⟨?_, fun i hi => (h1 i i (Nat.le_refl _) hi).2⟩
  rcases Nat.lt_trichotomy m m' with hc | hc | hc
  · have := (h2 m m (Nat.le_refl _) hc).1; omega
  · exact hc
  · have := (h1 m' m' (Nat.le_refl _) hc).1; omega
def zstI2 (l : List (Nat × Nat)) (i c : Nat) (hw : Nat → Nat) (M : ZMem) : Prop := c ≤ i ∧ M.1 0 32 = zI c ∧ (∀ k, k < c → M.1 21 k = zI (hw k) ∧ hw k < i ∧ zhd l (hw k)) ∧ zinc c (fun k => zst l (hw k)) ∧ ∀ v, v < i → zhd l v → ∃ k, k < c ∧ hw k = v
def zWst (a k : Nat) : Bool := a == 15 || a == 21 || (a == 0 && k == 32)
theorem r_laysStems {M : ZMem} {l : List (Nat × Nat)} (ho : okL l) (hl : lexR l M) : zOk (f_X12_laysStems M) (fun M' => (∃ c hw, zstI2 l l.length c hw M') ∧ zP zWst M M') := by
  have hW := ho.1
  unfold f_X12_laysStems
  rw [zk_bnd, zk_bind]
  refine zOk_forQ (fun i s => s.2 = zI i ∧ zP zWst M s.1 ∧ ∃ c hw, zstI2 l i c hw s.1) l.length ?_ ?_ ⟨rfl, zP_I zP_rf rfl, 0, fun _ => 0, Nat.le_refl _, zm_Is _ _ _ _, fun k hk => absurd hk (Nat.not_lt_zero k), fun a b _ hb => absurd hb (Nat.not_lt_zero b), fun v hv => absurd hv (Nat.not_lt_zero v)⟩
  · rintro i ⟨N, s2⟩ hi ⟨e1, e2, c, hw, f1, f2, f3, f4, f5⟩ Q hQ _
    dsimp only at e1 e2 f2 f3
    have hlN : lexR l N := lexR_x (e2.1 0 25 rfl) (fun k => e2.1 16 k rfl) (fun k => e2.1 17 k rfl) (fun k => e2.1 18 k rfl) hl
    have hn := okL_W ho hi
    have hn7 := hn.2.2.1
    have hlw := lexR_w hlN hi
    unfold f_X12_laysStems_L7
    dsimp only
    rw [hlN.1, e1, if_neg (by simp (disch := omega) only [zk_bind, zk_chk, zk_bnd, zk_some, zlp_l, zlp_r, zb_some, zb_bnd, zI_add, zI_sub, zI_mul, zI_neg, zI_le, zI_lt, zI_eq, zI_ix, zI_inI, Int.toNat_natCast, Int.toNat_add, Int.toNat_mul, true_and, and_true]; omega), zI_inI (by omega) (by omega) (by omega), zb_chk, zI_ix (by omega) (by omega), Int.toNat_natCast, hlw.1, zI_sub, zk_bnd, show ((zN l i : Nat) : Int) - 1 = ((zN l i - 1 : Nat) : Int) by omega, zk_bind]
    refine zOk_mono (r_laysPiece ho hlN hi (show zN l i - 1 ≤ zN l i by omega)) (fun N1 k1 => ?_)
    obtain ⟨k1, k2⟩ := k1
    have p1 : zP zWst M N1 := zP_tr e2 (zP_mono k2 (fun a k ha => by unfold zWst at ha; simp at ha ⊢; omega))
    have hlN1 : lexR l N1 := lexR_x (p1.1 0 25 rfl) (fun k => p1.1 16 k rfl) (fun k => p1.1 17 k rfl) (fun k => p1.1 18 k rfl) hl
    have skip : ¬ zhd l i → zOk (zbnd (zI i + (zI 1)) (fun x1_142 => some (Sum.inl (N1, x1_142) : (ZMem × Int32) ⊕ ZMem))) Q := by
      intro hno
      rw [zk_bnd, zk_some, zI_add]
      refine hQ _ ⟨zI_inj (by omega), p1, c, hw, by omega, by dsimp only; rw [k2.1 0 32 rfl]; exact f2, fun k hk => ?_, f4, fun v hv hh => ?_⟩
      · dsimp only
        rw [k2.1 21 k rfl]
        exact ⟨(f3 k hk).1, by have := (f3 k hk).2.1; omega, (f3 k hk).2.2⟩
      · by_cases hvi : v = i
        · rw [hvi] at hh; exact absurd hh hno
        · exact f5 v (by omega) hh
    by_cases h3 : 3 ≤ zN l i
    · obtain ⟨x, x1, x2⟩ := r_endingsOf ho hlN1 hi h3 k1
      rw [if_pos (by simp (disch := omega) only [zk_bind, zk_chk, zk_bnd, zk_some, zlp_l, zlp_r, zb_some, zb_bnd, zI_add, zI_sub, zI_mul, zI_neg, zI_le, zI_lt, zI_eq, zI_ix, zI_inI, Int.toNat_natCast, Int.toNat_add, Int.toNat_mul, true_and, and_true]; omega), x1, zb_some]
      unfold f_X12_laysStems_44_L7
      rw [zMk_pop (by omega) x2, zb_some]
      have hpl : zsum 20 (fun b => zb (zend2 l (zst l i) b)) ≤ 20 := zsum_le1 (fun _ _ => zb_le _)
      by_cases h2 : 2 ≤ zsum 20 (fun b => zb (zend2 l (zst l i) b))
      · have hst := (zstm2_iff ho _).mp h2
        obtain ⟨w, w1, w2⟩ := zhd_ex hst
        have least : ∀ j, j < zS l 0 w → ¬ zend2 l (zst l i) j := fun j hj hh => by
          have := w1.2.2.2 j (by rw [w2]; exact hh)
          omega
        have rw20 := (zS_rng ho w1.1 0).1
        have ri20 := (zS_rng ho hi 0).1
        have hks := zks_lt (key := zK l i) (show zN l i - 1 < 7 by omega)
        have hsg := zSg_rng ho hi (show zN l i - 1 < zN l i by omega)
        rw [if_neg (by simp (disch := omega) only [zk_bind, zk_chk, zk_bnd, zk_some, zlp_l, zlp_r, zb_some, zb_bnd, zI_add, zI_sub, zI_mul, zI_neg, zI_le, zI_lt, zI_eq, zI_ix, zI_inI, Int.toNat_natCast, Int.toNat_add, Int.toNat_mul, true_and, and_true]; omega), zntz x2 (t := zS l 0 w) ⟨w, w1.1, w1.2.1, w2, rfl⟩ least, zb_some, zI_mul, zI_add, zI_inI (by omega) (by omega) (by omega), zb_chk, zI_ix (by omega) (by omega), show (7 * (i : Int) + ((zN l i - 1 : Nat) : Int)).toNat = 7 * i + (zN l i - 1) by omega, (lexR_w hlN1 hi).2 _ (by omega), ← hks, hsg.2, ← zS_0]
        by_cases he : zS l 0 w = zS l 0 i
        · have hwi : w = i := zend_ne ho w1.1 hi w1.2.1 w2 he
          have hhd : zhd l i := by rw [← hwi]; exact w1
          rw [if_pos (by rw [he]), zk_bnd, zk_bind, k2.1 0 32 rfl, f2]
          -- insertion
          obtain ⟨p, q1, q2, q3⟩ := zinc_cut (f := fun k => zst l (hw k)) (y := zst l i) c f4 (fun k hk hh => by
            have := zhd_one ho (f3 k hk).2.2 hhd hh
            have := (f3 k hk).2.1
            omega)
          have c120 : c < 240 := by omega
          have hold : ∀ k, k < c → N1.1 21 k = zI (hw k) := fun k hk => by rw [k2.1 21 k rfl]; exact (f3 k hk).1
          refine zOk_forQ (fun d s => s.2 = zI ((c - d : Nat) : Int) ∧ zP (fun a _ => a == 21) N1 s.1 ∧ (∀ k, k < c - d → s.1.1 21 k = zI (hw k)) ∧ (∀ k, c - d ≤ k → k < c → s.1.1 21 (k + 1) = zI (hw k))) (c - p) ?_ ?_ ⟨rfl, zP_rf, fun k hk => hold k (by omega), fun k hk1 hk2 => by omega⟩
          · rintro d ⟨N2, t2⟩ hd ⟨d1, d2, d3, d4⟩ Q' hQ' _
            dsimp only at d1 d2 d3 d4
            have hb := (f3 (c - d - 1) (by omega)).2
            have hlN2 : lexR l N2 := lexR_x (d2.1 0 25 rfl) (fun k => d2.1 16 k rfl) (fun k => d2.1 17 k rfl) (fun k => d2.1 18 k rfl) hlN1
            unfold f_X12_laysStems_L80
            dsimp only
            rw [d1, if_neg (by simp (disch := omega) only [zk_bind, zk_chk, zk_bnd, zk_some, zlp_l, zlp_r, zb_some, zb_bnd, zI_add, zI_sub, zI_mul, zI_neg, zI_le, zI_lt, zI_eq, zI_ix, zI_inI, Int.toNat_natCast, Int.toNat_add, Int.toNat_mul, true_and, and_true]; omega), zI_sub, show ((c - d : Nat) : Int) - 1 = ((c - d - 1 : Nat) : Int) by omega, zI_inI (by omega) (by omega) (by omega), zb_chk, zI_ix (by omega) (by omega), Int.toNat_natCast, d3 _ (by omega), r_isAhead ho hlN2 hi hb.2.1, zb_some, if_neg (fun hh => zb_0.mp hh (q3 _ (by omega) (by omega))), zb_chk, zI_inI (by omega) (by omega) (by omega), zb_chk, zk_bnd, zk_bnd, zk_some, zI_ix (by omega) (by omega), Int.toNat_natCast, zI_add]
            refine hQ' _ ⟨zI_inj (by omega), zP_I d2 rfl, fun k hk => ?_, fun k hk1 hk2 => ?_⟩
            · dsimp only
              rw [zm_In _ _ _ _ (by omega)]
              exact d3 k (by omega)
            · dsimp only
              by_cases hkd : k + 1 = c - d
              · rw [hkd, zm_Is, show k = c - d - 1 by omega]
              · rw [zm_In _ _ _ _ hkd]
                exact d4 k (by omega) hk2
          · rintro ⟨N2, t2⟩ ⟨d1, d2, d3, d4⟩
            dsimp only at d1 d2 d3 d4
            rw [show c - (c - p) = p by omega] at d1 d3 d4
            refine ⟨(N2, zI p), ?_, ?_⟩
            · unfold f_X12_laysStems_L80
              dsimp only
              rw [d1]
              by_cases hp0 : p = 0
              · rw [if_pos (by simp (disch := omega) only [zk_bind, zk_chk, zk_bnd, zk_some, zlp_l, zlp_r, zb_some, zb_bnd, zI_add, zI_sub, zI_mul, zI_neg, zI_le, zI_lt, zI_eq, zI_ix, zI_inI, Int.toNat_natCast, Int.toNat_add, Int.toNat_mul, true_and, and_true]; omega)]
              · have hb := (f3 (p - 1) (by omega)).2
                have hlN2 : lexR l N2 := lexR_x (d2.1 0 25 rfl) (fun k => d2.1 16 k rfl) (fun k => d2.1 17 k rfl) (fun k => d2.1 18 k rfl) hlN1
                have := q2 (p - 1) (by omega)
                rw [if_neg (by simp (disch := omega) only [zk_bind, zk_chk, zk_bnd, zk_some, zlp_l, zlp_r, zb_some, zb_bnd, zI_add, zI_sub, zI_mul, zI_neg, zI_le, zI_lt, zI_eq, zI_ix, zI_inI, Int.toNat_natCast, Int.toNat_add, Int.toNat_mul, true_and, and_true]; omega), zI_sub, show ((p : Nat) : Int) - 1 = ((p - 1 : Nat) : Int) by omega, zI_inI (by omega) (by omega) (by omega), zb_chk, zI_ix (by omega) (by omega), Int.toNat_natCast, d3 _ (by omega), r_isAhead ho hlN2 hi hb.2.1, zb_some, if_pos (zb_0.mpr (by omega))]
            · dsimp only
              rw [zI_inI (by omega) (by omega) (by omega), zb_chk, zk_bnd, zk_bnd, zk_bnd, zk_some, zI_ix (by omega) (by omega), Int.toNat_natCast, zm_Iq _ _ _ _ (by decide), d2.1 0 32 rfl, k2.1 0 32 rfl, f2, zI_add, zI_add]
              have p2 : zP zWst M N2 := zP_tr p1 (zP_mono d2 (fun a k ha => by unfold zWst at ha; simp at ha ⊢; omega))
              refine hQ _ ⟨zI_inj (by omega), zP_I (zP_I p2 rfl) rfl, c + 1, fun k => if k < p then hw k else if k = p then i else hw (k - 1), by omega, by dsimp only; rw [zm_Is]; exact zI_inj (by omega), fun k hk => ?_, fun a b hab hb => ?_, fun v hv hh => ?_⟩
              · dsimp only
                rw [zm_Iq _ _ _ _ (by decide)]
                by_cases hk1 : k < p
                · rw [if_pos hk1, zm_In _ _ _ _ (by omega), d3 k hk1]
                  exact ⟨rfl, by have := (f3 k (by omega)).2.1; omega, (f3 k (by omega)).2.2⟩
                · rw [if_neg hk1]
                  by_cases hk2 : k = p
                  · rw [if_pos hk2, hk2, zm_Is]
                    exact ⟨rfl, by omega, hhd⟩
                  · rw [if_neg hk2, zm_In _ _ _ _ hk2]
                    have := d4 (k - 1) (by omega) (by omega)
                    rw [show k - 1 + 1 = k by omega] at this
                    rw [this]
                    exact ⟨rfl, by have := (f3 (k - 1) (by omega)).2.1; omega, (f3 (k - 1) (by omega)).2.2⟩
              · dsimp only
                by_cases ha1 : a < p
                · rw [if_pos ha1]
                  by_cases hb1 : b < p
                  · rw [if_pos hb1]
                    exact f4 a b hab (by omega)
                  · rw [if_neg hb1]
                    by_cases hb2 : b = p
                    · rw [if_pos hb2]
                      exact q2 a ha1
                    · rw [if_neg hb2]
                      exact f4 a (b - 1) (by omega) (by omega)
                · rw [if_neg ha1, if_neg (show ¬ b < p by omega), if_neg (show ¬ b = p by omega)]
                  by_cases ha2 : a = p
                  · rw [if_pos ha2]
                    exact q3 (b - 1) (by omega) (by omega)
                  · rw [if_neg ha2]
                    exact f4 (a - 1) (b - 1) (by omega) (by omega)
              · by_cases hvi : v = i
                · refine ⟨p, by omega, ?_⟩
                  dsimp only
                  rw [if_neg (by omega), if_pos rfl, hvi]
                · obtain ⟨k, kk1, kk2⟩ := f5 v (by omega) hh
                  by_cases hkp : k < p
                  · exact ⟨k, by omega, by dsimp only; rw [if_pos hkp, kk2]⟩
                  · exact ⟨k + 1, by omega, by dsimp only; rw [if_neg (by omega), if_neg (by omega), Nat.add_sub_cancel, kk2]⟩
        · rw [if_neg (by simp (disch := omega) only [zk_bind, zk_chk, zk_bnd, zk_some, zlp_l, zlp_r, zb_some, zb_bnd, zI_add, zI_sub, zI_mul, zI_neg, zI_le, zI_lt, zI_eq, zI_ix, zI_inI, Int.toNat_natCast, Int.toNat_add, Int.toNat_mul, true_and, and_true]; omega)]
          refine skip (fun hh => he ?_)
          rw [zhd_one ho w1 hh w2]
      · rw [if_pos (by simp (disch := omega) only [zk_bind, zk_chk, zk_bnd, zk_some, zlp_l, zlp_r, zb_some, zb_bnd, zI_add, zI_sub, zI_mul, zI_neg, zI_le, zI_lt, zI_eq, zI_ix, zI_inI, Int.toNat_natCast, Int.toNat_add, Int.toNat_mul, true_and, and_true]; omega)]
        exact skip (fun hh => h2 ((zstm2_iff ho _).mpr hh.2.2.1))
    · rw [if_neg (by simp (disch := omega) only [zk_bind, zk_chk, zk_bnd, zk_some, zlp_l, zlp_r, zb_some, zb_bnd, zI_add, zI_sub, zI_mul, zI_neg, zI_le, zI_lt, zI_eq, zI_ix, zI_inI, Int.toNat_natCast, Int.toNat_add, Int.toNat_mul, true_and, and_true]; omega)]
      unfold f_X12_laysStems_44_L7
      rw [zMk_pop (n := 20) (P := fun _ => False) (by omega) (zMk_0 20 (fun _ hh => hh)), zb_some, zsum_zero (fun _ _ => zb_f (fun hh => hh)), if_pos (by decide)]
      exact skip (fun hh => h3 hh.2.1)
  · rintro ⟨N, s2⟩ ⟨e1, e2, e3⟩
    dsimp only at e1 e2 e3
    refine ⟨N, ?_, ?_⟩
    · unfold f_X12_laysStems_L7
      dsimp only
      rw [e2.1 0 25 rfl, hl.1, e1, if_pos (by simp (disch := omega) only [zk_bind, zk_chk, zk_bnd, zk_some, zlp_l, zlp_r, zb_some, zb_bnd, zI_add, zI_sub, zI_mul, zI_neg, zI_le, zI_lt, zI_eq, zI_ix, zI_inI, Int.toNat_natCast, Int.toNat_add, Int.toNat_mul, true_and, and_true]; omega)]
    · rw [zk_some]
      exact ⟨e3, e2⟩
theorem zp_stem : zPr_stem zRel := by
  rintro M1 M2 a1 a2 ⟨σ, ho, hc, hr⟩
  obtain ⟨a, rfl, l1, u1⟩ := zI_of a1
  obtain ⟨b, rfl, l2, u2⟩ := zI_of a2
  have okl := dL_ok ho
  have hW := okl.1
  unfold f_X11_stem f_X12_stem
  rw [zk_bind]
  refine zOk_mono (k_fs ho hc) (fun C h => ?_)
  have hs := h.1.2.2.2.2.2.2.1 h.2
  obtain ⟨m, st, hm, hst⟩ := hs.2.2.2.2.2.2
  have hm : stmC m st (zseD (dL σ) (zDall (dL σ))) C := hm
  have hst : ∀ y, (∃ i, i < m ∧ st i = y) ↔ zstD (dL σ) (zDall (dL σ)) y := hst
  obtain ⟨m1, m2, m3, m4, m5⟩ := hm
  -- the reference, first
  have ref : ∀ (v : Int32) (K : ZMem → Option (ZMem × Int32)), (∀ R c hw, relR σ R → lexR (dL σ) R → zstI2 (dL σ) (dL σ).length c hw R → c = m → (∀ k, k < m → st k = zst (dL σ) (hw k) ∧ zhd (dL σ) (hw k) ∧ R.1 21 k = zI (hw k)) → zOk (K R) (fun r => r.2 = v ∧ zP zWst R r.1)) → zOk (zbind (f_X12_lays M2) (fun M_1 => zbind (f_X12_laysStems M_1) K)) (fun r2 => v = r2.2 ∧ zRel C r2.1) := by
    intro v K hK
    rw [zk_bind]
    refine zOk_mono (k_ls ho hr) (fun R h' => ?_)
    have hlR : lexR (dL σ) R := h'.2.2.2.2.1.1
    rw [zk_bind]
    refine zOk_mono (r_laysStems okl hlR) (fun R1 j => ?_)
    obtain ⟨⟨c, hw, g1, g2, g3, g4, g5⟩, p1⟩ := j
    have mono : ∀ a k, zScR a k = false → zWst a k = false := fun a k ha => by unfold zScR at ha; unfold zWst; simp at ha ⊢; omega
    have hR1 : relR σ R1 := relR_x (zP_mono p1 mono) h'.1
    have hlR1 : lexR (dL σ) R1 := lexR_x (p1.1 0 25 rfl) (fun k => p1.1 16 k rfl) (fun k => p1.1 17 k rfl) (fun k => p1.1 18 k rfl) hlR
    obtain ⟨q1, q2⟩ := zinc_uniq (f := st) (g := fun k => zst (dL σ) (hw k)) m1 g4 (fun y => by
      rw [hst y, zstD_iff okl]
      constructor
      · intro hh
        obtain ⟨w, w1, w2⟩ := zhd_ex hh
        obtain ⟨k, k1, k2⟩ := g5 w w1.1 w1
        exact ⟨k, k1, by rw [k2, w2]⟩
      · rintro ⟨k, k1, k2⟩
        rw [← k2]
        exact (g3 k k1).2.2.2.2.1)
    refine zOk_mono (hK R1 c hw hR1 hlR1 ⟨g1, g2, g3, g4, g5⟩ q1.symm (fun k hk => ⟨q2 k hk, (g3 k (by omega)).2.2, (g3 k (by omega)).1⟩)) (fun r hr' => ?_)
    exact ⟨hr'.1.symm, σ, ho, h.1, relR_x (zP_mono hr'.2 mono) hR1⟩
  by_cases ha1 : a = -1
  · unfold f_X2_stemsHeld
    rw [if_pos (show zI a = zI (-1) by rw [ha1]), zb_some, zk_some, m4]
    refine ref _ _ (fun R c hw g1 g2 g3 g4 g5 => ?_)
    rw [if_pos (show zI a = zI (-1) by rw [ha1]), zk_some, g3.2.1, g4]
    exact ⟨rfl, zP_rf⟩
  · rw [if_neg (c := zI a = zI (-1)) (by simp (disch := omega) only [zk_bind, zk_chk, zk_bnd, zk_some, zlp_l, zlp_r, zb_some, zb_bnd, zI_add, zI_sub, zI_mul, zI_neg, zI_le, zI_lt, zI_eq, zI_ix, zI_inI, Int.toNat_natCast, Int.toNat_add, Int.toNat_mul, true_and, and_true]; omega)]
    by_cases h1 : 0 ≤ a ∧ a < m
    · obtain ⟨k, rfl⟩ := Int.eq_ofNat_of_zero_le h1.1
      have hk : k < m := by omega
      have hstk : zstm2 (dL σ) (st k) := (zstD_iff okl _).mp ((hst (st k)).mp ⟨k, hk, rfl⟩)
      obtain ⟨w0, w1, w2⟩ := zhd_ex hstk
      have isW := zst_W okl w1.1
      rw [w2] at isW
      have n7 := (okL_W okl w1.1).2.2.1
      have ends : zMk (C.1 40 k) 20 (zend2 (dL σ) (st k)) := zMk_cg (m5 k hk).2 (fun b => zseD_iff okl hstk b)
      have val : ∃ v, f_X2_stemFact C (zI k) (zI b) = some v ∧ (b = 0 → v = zI ((zsum 20 (fun x => zb (zend2 (dL σ) (st k) x)) : Nat) : Int)) ∧ (b = 1 → v = C.1 40 k) ∧ (b = 2 → v = zI ((zN (dL σ) w0 - 1 : Nat) : Int)) ∧ ((b < 0 ∨ 3 ≤ b) → v = zI (if 3 ≤ b ∧ b - 3 < ((zN (dL σ) w0 - 1 : Nat) : Int) then (zSg (dL σ) w0 (b - 3).toNat : Int) else -1)) := by
        unfold f_X2_stemFact
        rw [if_neg (by simp (disch := omega) only [zk_bind, zk_chk, zk_bnd, zk_some, zlp_l, zlp_r, zb_some, zb_bnd, zI_add, zI_sub, zI_mul, zI_neg, zI_le, zI_lt, zI_eq, zI_ix, zI_inI, Int.toNat_natCast, Int.toNat_add, Int.toNat_mul, true_and, and_true]; omega), m4, if_pos (by simp (disch := omega) only [zk_bind, zk_chk, zk_bnd, zk_some, zlp_l, zlp_r, zb_some, zb_bnd, zI_add, zI_sub, zI_mul, zI_neg, zI_le, zI_lt, zI_eq, zI_ix, zI_inI, Int.toNat_natCast, Int.toNat_add, Int.toNat_mul, true_and, and_true]; omega), zI_inI (by omega) (by omega) (by omega), zb_chk, zb_chk, zb_chk, zb_chk, zI_ix (by omega) (by omega), Int.toNat_natCast, (m5 k hk).1, zMk_pop (by omega) ends, zb_some]
        by_cases b0 : b = 0
        · rw [if_pos (by rw [b0])]
          exact ⟨_, rfl, fun _ => rfl, by omega, by omega, by omega⟩
        · rw [if_neg (by simp (disch := omega) only [zk_bind, zk_chk, zk_bnd, zk_some, zlp_l, zlp_r, zb_some, zb_bnd, zI_add, zI_sub, zI_mul, zI_neg, zI_le, zI_lt, zI_eq, zI_ix, zI_inI, Int.toNat_natCast, Int.toNat_add, Int.toNat_mul, true_and, and_true]; omega)]
          by_cases b1 : b = 1
          · rw [if_pos (by rw [b1])]
            exact ⟨_, rfl, by omega, fun _ => rfl, by omega, by omega⟩
          · rw [if_neg (by simp (disch := omega) only [zk_bind, zk_chk, zk_bnd, zk_some, zlp_l, zlp_r, zb_some, zb_bnd, zI_add, zI_sub, zI_mul, zI_neg, zI_le, zI_lt, zI_eq, zI_ix, zI_inI, Int.toNat_natCast, Int.toNat_add, Int.toNat_mul, true_and, and_true]; omega)]
            by_cases b2 : b = 2
            · rw [if_pos (by rw [b2]), zlenk isW, zb_some]
              exact ⟨_, rfl, by omega, by omega, fun _ => rfl, by omega⟩
            · rw [if_neg (by simp (disch := omega) only [zk_bind, zk_chk, zk_bnd, zk_some, zlp_l, zlp_r, zb_some, zb_bnd, zI_add, zI_sub, zI_mul, zI_neg, zI_le, zI_lt, zI_eq, zI_ix, zI_inI, Int.toNat_natCast, Int.toNat_add, Int.toNat_mul, true_and, and_true]; omega), zI_sub]
              by_cases b9 : 3 ≤ b ∧ b ≤ 9
              · obtain ⟨t, ht⟩ := Int.eq_ofNat_of_zero_le (show 0 ≤ b - 3 by omega)
                rw [ht, zsig isW.1 (show t < 7 by omega), zb_some]
                refine ⟨_, rfl, by omega, by omega, by omega, fun _ => ?_⟩
                rw [Int.toNat_natCast]
                by_cases htn : t < zN (dL σ) w0 - 1
                · have e1 := zst_dg okl w1.1 htn
                  rw [w2] at e1
                  have e2 := isW.2.2.1 t htn
                  rw [if_pos (by omega), zks_lt (show t < 7 by omega), e1]
                  refine zI_inj ?_
                  unfold zSg
                  omega
                · rw [if_neg (by omega), zks_lt (show t < 7 by omega), isW.2.2.2 t (by omega) (by omega)]
                  rfl
              · by_cases hlow : -2147483648 ≤ b - 3
                · rw [zsigO _ _ hlow (by omega) (by omega), zb_some]
                  refine ⟨_, rfl, by omega, by omega, by omega, fun _ => ?_⟩
                  rw [if_neg (by omega)]
                · have e3 : zI (b - 3) = zI (b - 3 + 4294967296) := by
                    rw [show b - 3 + 4294967296 = (b - 3) + 4294967296 by omega, ← zI_add, show zI 4294967296 = zI 0 by decide, zI_add]
                    exact zI_inj (by omega)
                  rw [e3, zsigO _ _ (by omega) (by omega) (by omega), zb_some]
                  refine ⟨_, rfl, by omega, by omega, by omega, fun _ => ?_⟩
                  rw [if_neg (by omega)]
      obtain ⟨v, v1, v2, v3, v4, v5⟩ := val
      rw [v1, zb_some, zk_some]
      refine ref v _ (fun R c hw g1 g2 g3 g4 g5 => ?_)
      obtain ⟨e1, e2, e3⟩ := g5 k hk
      have hw0 : hw k = w0 := zhd_one okl e2 w1 (by rw [w2, ← e1])
      rw [hw0] at e3
      have hc120 : c ≤ 120 := by have := g3.1; omega
      have hlw := lexR_w g2 w1.1
      rw [if_neg (c := zI (k : Int) = zI (-1)) (by simp (disch := omega) only [zk_bind, zk_chk, zk_bnd, zk_some, zlp_l, zlp_r, zb_some, zb_bnd, zI_add, zI_sub, zI_mul, zI_neg, zI_le, zI_lt, zI_eq, zI_ix, zI_inI, Int.toNat_natCast, Int.toNat_add, Int.toNat_mul, true_and, and_true]; omega), g3.2.1, zI_sub, r_in l1 u1 (by omega) (by omega) (by omega) (by omega), zb_some, if_neg (fun hh => zb_0.mp hh (by omega)), r_in l2 u2 (by omega) (by omega) (by omega) (by omega), zb_some]
      by_cases hb8 : 0 ≤ b ∧ b ≤ 8
      · have hn1 := (okL_W okl w1.1).1
        have hw3 := w1.2.1
        rw [if_neg (fun hh => zb_0.mp hh hb8), zI_inI (by omega) (by omega) (by omega), zb_chk, zk_bnd, zI_ix (by omega) (by omega), Int.toNat_natCast, e3, zI_inI (n := 241) (by have := w1.1; omega) (by have := w1.1; omega) (by omega), zb_chk, zk_bnd, zI_ix (by have := w1.1; omega) (by have := w1.1; omega), Int.toNat_natCast, hlw.1, zI_sub, show ((zN (dL σ) w0 : Nat) : Int) - 1 = ((zN (dL σ) w0 - 1 : Nat) : Int) by omega, zk_bind]
        refine zOk_mono (r_laysPiece okl g2 w1.1 (show zN (dL σ) w0 - 1 ≤ zN (dL σ) w0 by omega)) (fun R2 j => ?_)
        obtain ⟨j1, j2⟩ := j
        have p2 : zP zWst R R2 := zP_mono j2 (fun a k ha => by unfold zWst at ha; simp at ha ⊢; omega)
        have hl2 : lexR (dL σ) R2 := lexR_x (j2.1 0 25 rfl) (fun k => j2.1 16 k rfl) (fun k => j2.1 17 k rfl) (fun k => j2.1 18 k rfl) g2
        obtain ⟨x, x1, x2⟩ := r_endingsOf okl hl2 w1.1 hw3 j1
        rw [w2] at x2
        by_cases b2 : 2 ≤ b
        · rw [if_pos (by simp (disch := omega) only [zk_bind, zk_chk, zk_bnd, zk_some, zlp_l, zlp_r, zb_some, zb_bnd, zI_add, zI_sub, zI_mul, zI_neg, zI_le, zI_lt, zI_eq, zI_ix, zI_inI, Int.toNat_natCast, Int.toNat_add, Int.toNat_mul, true_and, and_true]; omega)]
          by_cases b2' : b = 2
          · rw [if_pos (by rw [b2']), zk_some]
            exact ⟨(v4 b2').symm, p2⟩
          · rw [if_neg (by simp (disch := omega) only [zk_bind, zk_chk, zk_bnd, zk_some, zlp_l, zlp_r, zb_some, zb_bnd, zI_add, zI_sub, zI_mul, zI_neg, zI_le, zI_lt, zI_eq, zI_ix, zI_inI, Int.toNat_natCast, Int.toNat_add, Int.toNat_mul, true_and, and_true]; omega), zI_sub]
            have vv := v5 (Or.inr (by omega))
            by_cases hbn : b - 3 < ((zN (dL σ) w0 - 1 : Nat) : Int)
            · obtain ⟨t, ht⟩ := Int.eq_ofNat_of_zero_le (show 0 ≤ b - 3 by omega)
              rw [if_neg (by simp (disch := omega) only [zk_bind, zk_chk, zk_bnd, zk_some, zlp_l, zlp_r, zb_some, zb_bnd, zI_add, zI_sub, zI_mul, zI_neg, zI_le, zI_lt, zI_eq, zI_ix, zI_inI, Int.toNat_natCast, Int.toNat_add, Int.toNat_mul, true_and, and_true]; omega), zI_inI (by omega) (by omega) (by omega), zb_chk, zk_some, zI_ix (by omega) (by omega), ht, Int.toNat_natCast, j1 t (by omega), vv, if_pos (by omega), ht, Int.toNat_natCast]
              exact ⟨rfl, p2⟩
            · rw [if_pos (by simp (disch := omega) only [zk_bind, zk_chk, zk_bnd, zk_some, zlp_l, zlp_r, zb_some, zb_bnd, zI_add, zI_sub, zI_mul, zI_neg, zI_le, zI_lt, zI_eq, zI_ix, zI_inI, Int.toNat_natCast, Int.toNat_add, Int.toNat_mul, true_and, and_true]; omega), zk_some, vv, if_neg (by omega)]
              exact ⟨rfl, p2⟩
        · rw [if_neg (by simp (disch := omega) only [zk_bind, zk_chk, zk_bnd, zk_some, zlp_l, zlp_r, zb_some, zb_bnd, zI_add, zI_sub, zI_mul, zI_neg, zI_le, zI_lt, zI_eq, zI_ix, zI_inI, Int.toNat_natCast, Int.toNat_add, Int.toNat_mul, true_and, and_true]; omega), x1, zb_some, zb_some, zMk_pop (by omega) x2, zb_some]
          by_cases b0 : b = 0
          · rw [if_pos (by rw [b0]), zk_some, v2 b0]
            exact ⟨rfl, p2⟩
          · rw [if_neg (by simp (disch := omega) only [zk_bind, zk_chk, zk_bnd, zk_some, zlp_l, zlp_r, zb_some, zb_bnd, zI_add, zI_sub, zI_mul, zI_neg, zI_le, zI_lt, zI_eq, zI_ix, zI_inI, Int.toNat_natCast, Int.toNat_add, Int.toNat_mul, true_and, and_true]; omega), zk_some, v3 (by omega)]
            exact ⟨zMk_inj x2 ends, p2⟩
      · rw [if_pos (zb_0.mpr hb8), zk_some, v5 (by omega), if_neg (by omega)]
        exact ⟨rfl, zP_rf⟩
    · have ef : f_X2_stemFact C (zI a) (zI b) = some (zI (-1)) := by
        unfold f_X2_stemFact
        by_cases ha0 : a < 0
        · rw [if_pos (by simp (disch := omega) only [zk_bind, zk_chk, zk_bnd, zk_some, zlp_l, zlp_r, zb_some, zb_bnd, zI_add, zI_sub, zI_mul, zI_neg, zI_le, zI_lt, zI_eq, zI_ix, zI_inI, Int.toNat_natCast, Int.toNat_add, Int.toNat_mul, true_and, and_true]; omega)]
        · rw [if_neg (by simp (disch := omega) only [zk_bind, zk_chk, zk_bnd, zk_some, zlp_l, zlp_r, zb_some, zb_bnd, zI_add, zI_sub, zI_mul, zI_neg, zI_le, zI_lt, zI_eq, zI_ix, zI_inI, Int.toNat_natCast, Int.toNat_add, Int.toNat_mul, true_and, and_true]; omega), m4, if_neg (by simp (disch := omega) only [zk_bind, zk_chk, zk_bnd, zk_some, zlp_l, zlp_r, zb_some, zb_bnd, zI_add, zI_sub, zI_mul, zI_neg, zI_le, zI_lt, zI_eq, zI_ix, zI_inI, Int.toNat_natCast, Int.toNat_add, Int.toNat_mul, true_and, and_true]; omega)]
      rw [ef, zb_some, zk_some]
      refine ref _ _ (fun R c hw g1 g2 g3 g4 g5 => ?_)
      have hc120 : c ≤ 120 := by have := g3.1; omega
      rw [if_neg (c := zI a = zI (-1)) (by simp (disch := omega) only [zk_bind, zk_chk, zk_bnd, zk_some, zlp_l, zlp_r, zb_some, zb_bnd, zI_add, zI_sub, zI_mul, zI_neg, zI_le, zI_lt, zI_eq, zI_ix, zI_inI, Int.toNat_natCast, Int.toNat_add, Int.toNat_mul, true_and, and_true]; omega), g3.2.1, zI_sub, r_in l1 u1 (by omega) (by omega) (by omega) (by omega), zb_some, if_pos (zb_0.mpr (by omega)), zk_some]
      exact ⟨rfl, zP_rf⟩
