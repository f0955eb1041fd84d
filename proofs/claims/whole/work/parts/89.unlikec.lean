/-! ===== how unlike two forms are: the class ===== deps: 88.unlike -/
theorem zbit_hi {m n k : Nat} (hm : m < 2 ^ n) (hk : n ≤ k) : m.testBit k = false := Nat.testBit_lt_two_pow (Nat.lt_of_lt_of_le hm (Nat.pow_le_pow_right (by decide) hk))
theorem zu_shlb {m k : Nat} (hk : k < 32) (hm : m < 4294967296) (j : Nat) (hj : j < 32) : (zu (zI m <<< (zI k &&& 31))).testBit j = (decide (k ≤ j) && m.testBit (j - k)) := by
  rw [zu_shl _ _ hk, zu_I hm, show 4294967296 = 2 ^ 32 from rfl, Nat.testBit_mod_two_pow, Nat.testBit_mul_two_pow]
  simp [hj]
theorem zu_ushrb {m k : Nat} (hk : k < 32) (hm : m < 4294967296) (j : Nat) : (zu (zushr (zI m) (zI k))).testBit j = m.testBit (j + k) := by
  rw [zu_ushr _ _ hk, zu_I hm, Nat.testBit_div_two_pow]
theorem zbits25 (x : Int32) (hx : ∀ j, 25 ≤ j → j < 32 → (zu x).testBit j = false) : ∃ m : Nat, m < 33554432 ∧ x = zI m ∧ ∀ j, (zu x).testBit j = m.testBit j := by
  refine ⟨zu x, ?_, zu_self x, fun _ => rfl⟩
  refine zbits_lt (n := 25) (fun b hb => ?_)
  by_cases h1 : b < 25
  · exact h1
  · by_cases h2 : b < 32
    · rw [hx b (by omega) h2] at hb
      cases hb
    · rw [zbit_hi (n := 32) (zu_lt x) (by omega)] at hb
      cases hb
theorem zrotL {m : Nat} (hm : m < 33554432) : ∃ m' : Nat, m' < 33554432 ∧ (((zI m <<< (zI 1 &&& 31)) &&& (-1082402 : Int32)) &&& (33554431 : Int32)) ||| ((zushr (zI m) (zI 4)) &&& (1082401 : Int32)) = zI m' ∧ ∀ k, k < 25 → m'.testBit k = m.testBit (if k % 5 = 0 then k + 4 else k - 1) := by
  have c1 : ∀ j, j < 32 → (zu (-1082402 : Int32)).testBit j = !decide (j % 5 = 0 ∧ j < 25) := by decide +kernel
  have c2 : ∀ j, j < 32 → (zu (33554431 : Int32)).testBit j = decide (j < 25) := by decide +kernel
  have c3 : ∀ j, j < 32 → (zu (1082401 : Int32)).testBit j = decide (j % 5 = 0 ∧ j < 25) := by decide +kernel
  have hb : ∀ j, j < 32 → (zu ((((zI m <<< (zI 1 &&& 31)) &&& (-1082402 : Int32)) &&& (33554431 : Int32)) ||| ((zushr (zI m) (zI 4)) &&& (1082401 : Int32)))).testBit j = (decide (j < 25) && m.testBit (if j % 5 = 0 then j + 4 else j - 1)) := by
    intro j hj
    have s1 := zu_shlb (m := m) (k := 1) (by decide) (by omega) j hj
    have s2 := zu_ushrb (m := m) (k := 4) (by decide) (by omega) j
    rw [show zI ((1 : Nat) : Int) = zI 1 from rfl] at s1
    rw [show zI ((4 : Nat) : Int) = zI 4 from rfl] at s2
    rw [zu_or, zu_and, zu_and, zu_and, Nat.testBit_or, Nat.testBit_and, Nat.testBit_and, Nat.testBit_and, s1, s2, c1 j hj, c2 j hj, c3 j hj]
    by_cases h5 : j % 5 = 0
    · by_cases h25 : j < 25 <;> simp [h5, h25]
    · by_cases h25 : j < 25
      · have : 1 ≤ j := by omega
        simp [h5, h25, this]
      · simp [h5, h25]
  obtain ⟨m', h1, h2, h3⟩ := zbits25 _ (fun j hj hj2 => by rw [hb j hj2]; simp; omega)
  refine ⟨m', h1, h2, fun k hk => ?_⟩
  rw [← h3, hb k (by omega)]
  simp [hk]
theorem zrotR {m : Nat} (hm : m < 33554432) : ∃ m' : Nat, m' < 33554432 ∧ (((zushr (zI m) (zI 1)) &&& (-17318417 : Int32)) ||| ((zI m <<< ((zI 4) &&& 31)) &&& (17318416 : Int32))) = zI m' ∧ ∀ k, k < 25 → m'.testBit k = m.testBit (if k % 5 = 4 then k - 4 else k + 1) := by
  have c1 : ∀ j, j < 32 → (zu (-17318417 : Int32)).testBit j = !decide (j % 5 = 4 ∧ j < 25) := by decide +kernel
  have c3 : ∀ j, j < 32 → (zu (17318416 : Int32)).testBit j = decide (j % 5 = 4 ∧ j < 25) := by decide +kernel
  have hb : ∀ j, j < 32 → (zu (((zushr (zI m) (zI 1)) &&& (-17318417 : Int32)) ||| ((zI m <<< ((zI 4) &&& 31)) &&& (17318416 : Int32)))).testBit j = (decide (j < 25) && m.testBit (if j % 5 = 4 then j - 4 else j + 1)) := by
    intro j hj
    have s1 := zu_shlb (m := m) (k := 4) (by decide) (by omega) j hj
    have s2 := zu_ushrb (m := m) (k := 1) (by decide) (by omega) j
    rw [show zI ((4 : Nat) : Int) = zI 4 from rfl] at s1
    rw [show zI ((1 : Nat) : Int) = zI 1 from rfl] at s2
    rw [zu_or, zu_and, zu_and, Nat.testBit_or, Nat.testBit_and, Nat.testBit_and, s1, s2, c1 j hj, c3 j hj]
    by_cases h25 : j < 25
    · by_cases h5 : j % 5 = 4
      · have : 4 ≤ j := by omega
        simp [h5, h25, this]
      · simp [h5, h25]
    · have : m.testBit (j + 1) = false := zbit_hi (n := 25) hm (by omega)
      simp [h25, this]
  obtain ⟨m', h1, h2, h3⟩ := zbits25 _ (fun j hj hj2 => by rw [hb j hj2]; simp; omega)
  refine ⟨m', h1, h2, fun k hk => ?_⟩
  rw [← h3, hb k (by omega)]
  simp [hk]
theorem zrotU {m : Nat} (hm : m < 33554432) : ∃ m' : Nat, m' < 33554432 ∧ (((zI m <<< ((zI 5) &&& 31)) ||| (zushr (zI m) (zI 20))) &&& (33554431 : Int32)) = zI m' ∧ ∀ k, k < 25 → m'.testBit k = m.testBit (if k < 5 then k + 20 else k - 5) := by
  have c2 : ∀ j, j < 32 → (zu (33554431 : Int32)).testBit j = decide (j < 25) := by decide +kernel
  have hb : ∀ j, j < 32 → (zu (((zI m <<< ((zI 5) &&& 31)) ||| (zushr (zI m) (zI 20))) &&& (33554431 : Int32))).testBit j = (decide (j < 25) && m.testBit (if j < 5 then j + 20 else j - 5)) := by
    intro j hj
    have s1 := zu_shlb (m := m) (k := 5) (by decide) (by omega) j hj
    have s2 := zu_ushrb (m := m) (k := 20) (by decide) (by omega) j
    rw [show zI ((5 : Nat) : Int) = zI 5 from rfl] at s1
    rw [show zI ((20 : Nat) : Int) = zI 20 from rfl] at s2
    rw [zu_and, zu_or, Nat.testBit_and, Nat.testBit_or, s1, s2, c2 j hj]
    by_cases h5 : j < 5
    · have : ¬ 5 ≤ j := by omega
      simp [h5, this, Bool.and_comm]
    · have h6 : 5 ≤ j := by omega
      have : m.testBit (j + 20) = false := zbit_hi (n := 25) hm (by omega)
      simp [h5, h6, this, Bool.and_comm]
  obtain ⟨m', h1, h2, h3⟩ := zbits25 _ (fun j hj hj2 => by rw [hb j hj2]; simp; omega)
  refine ⟨m', h1, h2, fun k hk => ?_⟩
  rw [← h3, hb k (by omega)]
  simp [hk]
theorem zrotD {m : Nat} (hm : m < 33554432) : ∃ m' : Nat, m' < 33554432 ∧ ((zushr (zI m) (zI 5)) ||| ((zI m <<< ((zI 20) &&& 31)) &&& (33554431 : Int32))) = zI m' ∧ ∀ k, k < 25 → m'.testBit k = m.testBit (if k < 20 then k + 5 else k - 20) := by
  have c2 : ∀ j, j < 32 → (zu (33554431 : Int32)).testBit j = decide (j < 25) := by decide +kernel
  have hb : ∀ j, j < 32 → (zu ((zushr (zI m) (zI 5)) ||| ((zI m <<< ((zI 20) &&& 31)) &&& (33554431 : Int32)))).testBit j = (decide (j < 25) && m.testBit (if j < 20 then j + 5 else j - 20)) := by
    intro j hj
    have s1 := zu_shlb (m := m) (k := 20) (by decide) (by omega) j hj
    have s2 := zu_ushrb (m := m) (k := 5) (by decide) (by omega) j
    rw [show zI ((20 : Nat) : Int) = zI 20 from rfl] at s1
    rw [show zI ((5 : Nat) : Int) = zI 5 from rfl] at s2
    rw [zu_or, zu_and, Nat.testBit_or, Nat.testBit_and, s1, s2, c2 j hj]
    by_cases h5 : j < 20
    · have h6 : ¬ 20 ≤ j := by omega
      have h7 : j < 25 := by omega
      simp [h5, h6, h7]
    · have h6 : 20 ≤ j := by omega
      have : m.testBit (j + 5) = false := zbit_hi (n := 25) hm (by omega)
      simp [h5, h6, this, Bool.and_comm]
  obtain ⟨m', h1, h2, h3⟩ := zbits25 _ (fun j hj hj2 => by rw [hb j hj2]; simp; omega)
  refine ⟨m', h1, h2, fun k hk => ?_⟩
  rw [← h3, hb k (by omega)]
  simp [hk]
/-- a form as 25 bits -/
def zform (fr : Nat → Nat) (f : Nat) : Nat := fr (5 * f + 4) + 32 * (fr (5 * f + 3) + 32 * (fr (5 * f + 2) + 32 * (fr (5 * f + 1) + 32 * fr (5 * f))))
theorem zform_lt {fr : Nat → Nat} {f : Nat} (h : ∀ y, y < 5 → fr (5 * f + y) < 32) : zform fr f < 33554432 := by
  have := h 0 (by omega)
  have := h 1 (by omega)
  have := h 2 (by omega)
  have := h 3 (by omega)
  have := h 4 (by omega)
  unfold zform
  rw [Nat.add_zero] at *
  omega
theorem zbit32 (a b k : Nat) (ha : a < 32) : (a + 32 * b).testBit k = if k < 5 then a.testBit k else b.testBit (k - 5) := by
  have e := Nat.testBit_two_pow_mul_add b (i := 5) (b := a) (by omega) k
  rw [Nat.add_comm]
  exact e
theorem zform_bit {fr : Nat → Nat} {f : Nat} (h : ∀ y, y < 5 → fr (5 * f + y) < 32) {k : Nat} (hk : k < 25) : (zform fr f).testBit k = zdot fr f ((k % 5 : Nat) : Int) ((4 - k / 5 : Nat) : Int) := by
  have h0 := h 0 (by omega)
  have h1 := h 1 (by omega)
  have h2 := h 2 (by omega)
  have h3 := h 3 (by omega)
  have h4 := h 4 (by omega)
  rw [Nat.add_zero] at h0
  unfold zform zdot
  rw [zbit32 _ _ _ h4, zbit32 _ _ _ h3, zbit32 _ _ _ h2, zbit32 _ _ _ h1]
  have ex : ((((k % 5 : Nat) : Int) + 5) % 5).toNat = k % 5 := by omega
  rw [ex]
  have ey : (((((4 - k / 5 : Nat) : Int)) + 5) % 5).toNat = 4 - k / 5 := by omega
  rw [ey]
  by_cases a1 : k < 5
  · rw [if_pos a1, show 4 - k / 5 = 4 by omega, show k % 5 = k by omega]
  · rw [if_neg a1]
    by_cases a2 : k - 5 < 5
    · rw [if_pos a2, show 4 - k / 5 = 3 by omega, show k % 5 = k - 5 by omega]
    · rw [if_neg a2]
      by_cases a3 : k - 5 - 5 < 5
      · rw [if_pos a3, show 4 - k / 5 = 2 by omega, show k % 5 = k - 5 - 5 by omega]
      · rw [if_neg a3]
        by_cases a4 : k - 5 - 5 - 5 < 5
        · rw [if_pos a4, show 4 - k / 5 = 1 by omega, show k % 5 = k - 5 - 5 - 5 by omega]
        · rw [if_neg a4, show 4 - k / 5 = 0 by omega, show k % 5 = k - 5 - 5 - 5 - 5 by omega, Nat.add_zero]
theorem zdot_x (fr : Nat → Nat) (f : Nat) {x x' y y' : Int} (hx : (x + 5) % 5 = (x' + 5) % 5) (hy : (y + 5) % 5 = (y' + 5) % 5) : zdot fr f x y = zdot fr f x' y' := by
  unfold zdot
  rw [hx, hy]
theorem zpop25 {fr : Nat → Nat} {a b m1 m2 : Nat} {r d : Int} (h1 : m1 < 33554432) (h2 : m2 < 33554432) (e1 : ∀ k, k < 25 → m1.testBit k = zdot fr a ((k % 5 : Nat) : Int) ((4 - k / 5 : Nat) : Int)) (e2 : ∀ k, k < 25 → m2.testBit k = zdot fr b (((k % 5 : Nat) : Int) + r) (((4 - k / 5 : Nat) : Int) + d)) : zpop (m1 ^^^ m2) = zUby fr a b r d := by
  have hb : ∀ k, (m1 ^^^ m2).testBit k = true ↔ k < 25 ∧ (zdot fr a ((k % 5 : Nat) : Int) ((4 - k / 5 : Nat) : Int) ≠ zdot fr b (((k % 5 : Nat) : Int) + r) (((4 - k / 5 : Nat) : Int) + d)) := by
    intro k
    rw [Nat.testBit_xor]
    by_cases hk : k < 25
    · rw [e1 k hk, e2 k hk]
      simp [hk]
    · rw [zbit_hi (n := 25) h1 (by omega), zbit_hi (n := 25) h2 (by omega)]
      simp [hk]
  rw [zpop_is (n := 25) (by decide) hb]
  unfold zUby
  simp only [zsum]
  simp only [Nat.reduceMod, Nat.reduceDiv, Nat.reduceSub]
  omega
theorem c_leastUnlike {M : ZMem} {fr : Nat → Nat} {a b : Nat} (ha : ∀ y, y < 5 → fr (5 * a + y) < 32) (hb : ∀ y, y < 5 → fr (5 * b + y) < 32) : f_X0_leastUnlike M (zI (zform fr a)) (zI (zform fr b)) = some (zI (zU fr a b)) := by
  have la := zform_lt ha
  have lb := zform_lt hb
  apply zOk_is
  unfold f_X0_leastUnlike
  obtain ⟨m0, hm0, em0, bm0⟩ := zrotU lb
  rw [zk_bnd, em0, zk_bind]
  refine zOk_for0 (fun i s => ∃ c m : Nat, c ≤ 25 ∧ m < 33554432 ∧ c = zit i (fun i c => zit 3 (fun k c => min c (zUby fr a b ((k : Int) - 1) (1 - (i : Int)))) c) 25 ∧ (∀ k, k < 25 → m.testBit k = zdot fr b ((k % 5 : Nat) : Int) (((4 - k / 5 : Nat) : Int) + (1 - (i : Int)))) ∧ s = (zI c, zI m, zI ((i : Int) - 1))) 3 ?_ ?_ ?_
  · rintro i s hi ⟨c, m, hc, hm, ec, bm, rfl⟩
    unfold f_X0_leastUnlike_L18
    dsimp only
    obtain ⟨m1, hm1, em1, bm1⟩ := zrotL hm
    obtain ⟨m2, hm2, em2, bm2⟩ := zrotD hm
    rw [if_neg (by simp (disch := omega) only [zk_bind, zk_chk, zk_bnd, zk_some, zlp_l, zlp_r, zb_some, zb_bnd, zI_add, zI_sub, zI_mul, zI_neg, zI_le, zI_lt, zI_eq, zI_ix, zI_inI, Int.toNat_natCast, Int.toNat_add, Int.toNat_mul, true_and, and_true]; omega), em1, em2, zk_bnd, zk_bind]
    refine zOk_for0 (fun j s => ∃ c' m' : Nat, c' ≤ 25 ∧ m' < 33554432 ∧ c' = zit j (fun k c => min c (zUby fr a b ((k : Int) - 1) (1 - (i : Int)))) c ∧ (∀ k, k < 25 → m'.testBit k = zdot fr b (((k % 5 : Nat) : Int) + ((j : Int) - 1)) (((4 - k / 5 : Nat) : Int) + (1 - (i : Int)))) ∧ s = (zI c', zI m', zI ((j : Int) - 1))) 3 ?_ ?_ ?_
    · rintro j s hj ⟨c', m', hc', hm', ec', bm', rfl⟩
      unfold f_X0_leastUnlike_L45
      dsimp only
      obtain ⟨m3, hm3, em3, bm3⟩ := zrotR hm'
      have hl := zUby_le fr a b ((j : Int) - 1) (1 - (i : Int))
      rw [if_neg (by simp (disch := omega) only [zk_bind, zk_chk, zk_bnd, zk_some, zlp_l, zlp_r, zb_some, zb_bnd, zI_add, zI_sub, zI_mul, zI_neg, zI_le, zI_lt, zI_eq, zI_ix, zI_inI, Int.toNat_natCast, Int.toNat_add, Int.toNat_mul, true_and, and_true]; omega), zI_xor (by omega) (by omega), zpop_I (Nat.xor_lt_two_pow (n := 32) (by omega) (by omega)), zpop25 la hm' (fun k hk => zform_bit ha hk) bm', em3]
      simp only [zb_some, zb_bnd, zk_some, zlp_l]
      rw [zI_min _ _ (by omega) (by omega), zI_add]
      refine ⟨_, m3, ?_, hm3, ?_, ?_, Prod.ext rfl (Prod.ext rfl (zI_inj (by omega)))⟩
      · omega
      · unfold zit
        rw [ec']
      · intro k hk
        rw [bm3 k hk]
        split
        · rw [bm' _ (by omega)]
          exact zdot_x fr b (by omega) (by omega)
        · rw [bm' _ (by omega)]
          exact zdot_x fr b (by omega) (by omega)
    · rintro s ⟨c', m', hc', hm', ec', bm', rfl⟩
      unfold f_X0_leastUnlike_L45
      dsimp only
      rw [if_pos (by simp (disch := omega) only [zk_bind, zk_chk, zk_bnd, zk_some, zlp_l, zlp_r, zb_some, zb_bnd, zI_add, zI_sub, zI_mul, zI_neg, zI_le, zI_lt, zI_eq, zI_ix, zI_inI, Int.toNat_natCast, Int.toNat_add, Int.toNat_mul, true_and, and_true]; omega), zk_some, zlp_r]
      simp (disch := omega) only [zk_bind, zk_chk, zk_bnd, zk_some, zlp_l, zlp_r, zb_some, zb_bnd, zI_add, zI_sub, zI_mul, zI_neg, zI_le, zI_lt, zI_eq, zI_ix, zI_inI, Int.toNat_natCast, Int.toNat_add, Int.toNat_mul, true_and, and_true]
      refine ⟨c', m2, hc', hm2, ?_, ?_, Prod.ext rfl (Prod.ext rfl (zI_inj (by omega)))⟩
      · rw [ec', ec]
        rfl
      · intro k hk
        rw [bm2 k hk]
        split
        · rw [bm _ (by omega)]
          exact zdot_x fr b (by omega) (by omega)
        · rw [bm _ (by omega)]
          exact zdot_x fr b (by omega) (by omega)
    · refine ⟨c, m1, hc, hm1, rfl, ?_, rfl⟩
      intro k hk
      rw [bm1 k hk]
      split
      · rw [bm _ (by omega)]
        exact zdot_x fr b (by omega) (by omega)
      · rw [bm _ (by omega)]
        exact zdot_x fr b (by omega) (by omega)
  · rintro s ⟨c, m, hc, hm, ec, bm, rfl⟩
    unfold f_X0_leastUnlike_L18
    dsimp only
    rw [if_pos (by simp (disch := omega) only [zk_bind, zk_chk, zk_bnd, zk_some, zlp_l, zlp_r, zb_some, zb_bnd, zI_add, zI_sub, zI_mul, zI_neg, zI_le, zI_lt, zI_eq, zI_ix, zI_inI, Int.toNat_natCast, Int.toNat_add, Int.toNat_mul, true_and, and_true]; omega), zk_some, zlp_r, zk_some, ec]
    refine zI_inj ?_
    unfold zU
    simp only [zit]
    simp [Nat.min_comm, Nat.min_left_comm, Nat.min_assoc]
  · refine ⟨25, m0, by omega, hm0, rfl, ?_, rfl⟩
    intro k hk
    rw [bm0 k hk]
    split
    · rw [zform_bit hb (by omega)]
      exact zdot_x fr b (by omega) (by omega)
    · rw [zform_bit hb (by omega)]
      exact zdot_x fr b (by omega) (by omega)
/-- how unlike: the same both ways -/
theorem zUby_sym (fr : Nat → Nat) (a b : Nat) {r d : Int} (hr : r = -1 ∨ r = 0 ∨ r = 1) (hd : d = -1 ∨ d = 0 ∨ d = 1) : zUby fr a b r d = zUby fr b a (-r) (-d) := by
  have hcyc : ∀ (g : Int → Nat) (r : Int), (r = -1 ∨ r = 0 ∨ r = 1) → (∀ x y : Int, (x + 5) % 5 = (y + 5) % 5 → g x = g y) → zsum 5 (fun x => g x) = zsum 5 (fun x => g (x + r)) := by
    intro g r hr hg
    simp only [zsum]
    rcases hr with rfl | rfl | rfl
    · have := hg 4 (((0 : Nat) : Int) + -1) (by omega)
      have := hg ((0 : Nat) : Int) (((1 : Nat) : Int) + -1) (by omega)
      have := hg ((1 : Nat) : Int) (((2 : Nat) : Int) + -1) (by omega)
      have := hg ((2 : Nat) : Int) (((3 : Nat) : Int) + -1) (by omega)
      have := hg ((3 : Nat) : Int) (((4 : Nat) : Int) + -1) (by omega)
      have := hg 4 ((4 : Nat) : Int) (by omega)
      omega
    · simp only [Int.add_zero]
    · have := hg ((1 : Nat) : Int) (((0 : Nat) : Int) + 1) (by omega)
      have := hg ((2 : Nat) : Int) (((1 : Nat) : Int) + 1) (by omega)
      have := hg ((3 : Nat) : Int) (((2 : Nat) : Int) + 1) (by omega)
      have := hg ((4 : Nat) : Int) (((3 : Nat) : Int) + 1) (by omega)
      have := hg ((0 : Nat) : Int) (((4 : Nat) : Int) + 1) (by omega)
      omega
  unfold zUby
  have e1 : ∀ y : Int, zsum 5 (fun x => zb (zdot fr b x y ≠ zdot fr a (x + -r) (y + -d))) = zsum 5 (fun x => zb (zdot fr b (x + r) y ≠ zdot fr a x (y + -d))) := by
    intro y
    rw [hcyc (fun x => zb (zdot fr b x y ≠ zdot fr a (x + -r) (y + -d))) r hr (fun x x' hx => by rw [zdot_x fr b hx rfl, zdot_x fr a (x := x + -r) (x' := x' + -r) (by omega) rfl])]
    refine zsum_cg (fun x _ => ?_)
    rw [show (x : Int) + r + -r = x by omega]
  rw [zsum_cg (g := fun y => zsum 5 (fun x => zb (zdot fr b (x + r) y ≠ zdot fr a x (y + -d)))) (fun y _ => e1 y)]
  rw [hcyc (fun y => zsum 5 (fun x => zb (zdot fr b (x + r) y ≠ zdot fr a x (y + -d)))) d hd (fun y y' hy => zsum_cg (fun x _ => by rw [zdot_x fr b rfl hy, zdot_x fr a rfl (y := y + -d) (y' := y' + -d) (by omega)]))]
  refine zsum_cg (fun y _ => zsum_cg (fun x _ => ?_))
  rw [show (y : Int) + d + -d = y by omega]
  exact zb_iff ⟨Ne.symm, Ne.symm⟩
theorem zU_sym (fr : Nat → Nat) (a b : Nat) : zU fr a b = zU fr b a := by
  have h := fun r d hr hd => zUby_sym fr a b (r := r) (d := d) hr hd
  have h1 := h (-1) (-1) (by omega) (by omega)
  have h2 := h (-1) 0 (by omega) (by omega)
  have h3 := h (-1) 1 (by omega) (by omega)
  have h4 := h 0 (-1) (by omega) (by omega)
  have h5 := h 0 0 (by omega) (by omega)
  have h6 := h 0 1 (by omega) (by omega)
  have h7 := h 1 (-1) (by omega) (by omega)
  have h8 := h 1 0 (by omega) (by omega)
  have h9 := h 1 1 (by omega) (by omega)
  unfold zU
  simp only [zit]
  simp at h1 h2 h3 h4 h5 h6 h7 h8 h9 ⊢
  rw [h1, h2, h3, h4, h5, h6, h7, h8, h9]
  simp [Nat.min_comm, Nat.min_left_comm, Nat.min_assoc]
theorem zU_le (fr : Nat → Nat) (a b : Nat) : zU fr a b ≤ 25 := by
  unfold zU
  simp only [zit]
  omega
