/-! ===== keys without one digit; clues by words ===== deps: 97.i.lexr2 -/
def zmsk (t : Nat) : Int64 := ((31 : Int64) <<< (Int32.toInt64 (zI ((5 * (6 - t) : Nat) : Int)) &&& 63)) ^^^ (-1 : Int64)
def zclr (k t : Nat) : Nat := k &&& zv (zmsk t)
theorem zmsk_bit {t b : Nat} (ht : t < 7) (hb : b < 64) : (zv (zmsk t)).testBit b = !decide (5 * (6 - t) ≤ b ∧ b < 5 * (6 - t) + 5) := by
  have h : ∀ t, t < 7 → ∀ b, b < 64 → (zv (zmsk t)).testBit b = !decide (5 * (6 - t) ≤ b ∧ b < 5 * (6 - t) + 5) := by decide +kernel
  exact h t ht b hb
theorem zJ_v (x : Int64) : zJ (zv x) = x := zv_inj (zv_J (zv_lt x))
theorem zclr_lt {k : Nat} (t : Nat) (hk : k < 34359738368) : zclr k t < 34359738368 := Nat.lt_of_le_of_lt Nat.and_le_left hk
theorem zclr_code {k t : Nat} (hk : k < 34359738368) : zJ k &&& zmsk t = zJ (zclr k t) := by
  apply zv_inj
  rw [zv_and, zv_J (by omega), zv_J (by have := zclr_lt t hk; omega)]
  rfl
theorem zdg_bit (x j i : Nat) : (zdg x j).testBit i = (decide (i < 5) && x.testBit (5 * (6 - j) + i)) := by
  unfold zdg
  rw [show (32 : Nat) = 2 ^ 5 from rfl, ← Nat.pow_mul, Nat.testBit_mod_two_pow, Nat.testBit_div_two_pow, Nat.add_comm i]
theorem zclr_dg {k t j : Nat} (ht : t < 7) (hj : j < 7) : zdg (zclr k t) j = if j = t then 0 else zdg k j := by
  apply Nat.eq_of_testBit_eq
  intro i
  rw [zdg_bit]
  by_cases hi : i < 5
  · unfold zclr
    rw [Nat.testBit_and, zmsk_bit ht (by omega)]
    by_cases hjt : j = t
    · subst hjt
      rw [if_pos rfl, Nat.zero_testBit]
      have : 5 * (6 - j) ≤ 5 * (6 - j) + i ∧ 5 * (6 - j) + i < 5 * (6 - j) + 5 := by omega
      simp [this]
    · rw [if_neg hjt, zdg_bit]
      have : ¬ (5 * (6 - t) ≤ 5 * (6 - j) + i ∧ 5 * (6 - j) + i < 5 * (6 - t) + 5) := by omega
      simp [this]
  · split
    · simp [hi]
    · rw [zdg_bit]
      simp [hi]
theorem zclr_eq {a b t : Nat} (ha : a < 34359738368) (hb : b < 34359738368) : lg_cmp ((zJ a ^^^ zJ b) &&& zmsk t) 0 = zI 0 ↔ zclr a t = zclr b t := by
  have e : (zJ a ^^^ zJ b) &&& zmsk t = zJ (zclr a t ^^^ zclr b t) := by
    apply zv_inj
    have h1 := zclr_lt t ha
    have h2 := zclr_lt t hb
    rw [zv_and, zv_xor, zv_J (by omega), zv_J (by omega), zv_J (Nat.lt_of_lt_of_le (Nat.xor_lt_two_pow (n := 35) h1 h2) (by decide)), Nat.and_xor_distrib_right]
    rfl
  have h3 : zclr a t ^^^ zclr b t < 34359738368 := Nat.xor_lt_two_pow (n := 35) (zclr_lt t ha) (zclr_lt t hb)
  rw [e, show (0 : Int64) = zJ 0 from rfl, zcmp (by omega) (by omega)]
  constructor
  · intro h
    by_cases h0 : zclr a t ^^^ zclr b t = 0
    · have : zclr a t ^^^ (zclr b t ^^^ zclr b t) = 0 ^^^ zclr b t := by rw [← Nat.xor_assoc, h0]
      rwa [Nat.xor_self, Nat.xor_zero, Nat.zero_xor] at this
    · rw [if_pos (by omega)] at h
      exact absurd h (by decide)
  · intro h
    rw [h, Nat.xor_self]
    rfl
theorem zclr_iff {a b t : Nat} (ht : t < 7) (ha : a < 34359738368) (hb : b < 34359738368) : zclr a t = zclr b t ↔ ∀ j, j < 7 → j ≠ t → zdg a j = zdg b j := by
  constructor
  · intro h j hj hjt
    have h1 := zclr_dg (k := a) ht hj
    have h2 := zclr_dg (k := b) ht hj
    rw [if_neg hjt] at h1 h2
    rw [← h1, ← h2, h]
  · intro h
    refine zdg_ext (zclr_lt t ha) (zclr_lt t hb) (fun j hj => ?_)
    rw [zclr_dg ht hj, zclr_dg ht hj]
    split
    · rfl
    · next hjt => exact h j hj hjt
/-- words -/
def zK (l : List (Nat × Nat)) (i : Nat) : Nat := (zE l i).1
noncomputable def zN (l : List (Nat × Nat)) (i : Nat) : Nat := zkl (zK l i)
noncomputable def zpos (l : List (Nat × Nat)) (kind i : Nat) : Nat := if kind = 0 then zN l i - 1 else 0
noncomputable def zS (l : List (Nat × Nat)) (kind i : Nat) : Nat := zdg (zK l i) (zpos l kind i) - 1
/-- two words that are unlike at one end alone -/
def zdif (l : List (Nat × Nat)) (kind i j : Nat) : Prop := zN l i = zN l j ∧ 2 ≤ zN l i ∧ zclr (zK l i) (zpos l kind i) = zclr (zK l j) (zpos l kind i)
def zcw (l : List (Nat × Nat)) (kind a b : Nat) : Prop := ∃ i j, i < j ∧ j < l.length ∧ zdif l kind i j ∧ ((a = zS l kind i ∧ b = zS l kind j) ∨ (a = zS l kind j ∧ b = zS l kind i))
def zstem (l : List (Nat × Nat)) (x : Nat) : Prop := ∃ i j, i < j ∧ j < l.length ∧ zdif l 0 i j ∧ 3 ≤ zN l i ∧ x = zclr (zK l i) (zN l i - 1)
def zste (l : List (Nat × Nat)) (x b : Nat) : Prop := ∃ i, i < l.length ∧ 3 ≤ zN l i ∧ zclr (zK l i) (zN l i - 1) = x ∧ b = zS l 0 i
theorem okL_W {l : List (Nat × Nat)} (h : okL l) {i : Nat} (hi : i < l.length) : 1 ≤ zN l i ∧ zisW (zK l i) (zN l i) := by
  obtain ⟨n, n1, n2⟩ := h.2.2.1 i hi
  have := zisW_len n2
  unfold zN zK
  rw [this]
  exact ⟨n1, n2⟩
theorem zS_rng {l : List (Nat × Nat)} (h : okL l) {i : Nat} (hi : i < l.length) (kind : Nat) : zS l kind i < 20 ∧ zdg (zK l i) (zpos l kind i) = zS l kind i + 1 := by
  obtain ⟨h1, h2⟩ := okL_W h hi
  have h3 := h2.2.2.1 (zpos l kind i) (by unfold zpos; split <;> omega)
  unfold zS
  omega
theorem zpos_lt {l : List (Nat × Nat)} (h : okL l) {i : Nat} (hi : i < l.length) (kind : Nat) : zpos l kind i < 7 ∧ zpos l kind i < zN l i := by
  obtain ⟨h1, h2⟩ := okL_W h hi
  have := h2.2.1
  unfold zpos
  split <;> omega
theorem zdif_pos {l : List (Nat × Nat)} {kind i j : Nat} (h : zN l i = zN l j) : zpos l kind i = zpos l kind j := by
  unfold zpos
  rw [h]
/-- the two signs are unlike -/
theorem zdif_ne {l : List (Nat × Nat)} (h : okL l) {kind i j : Nat} (hij : i < j) (hj : j < l.length) (hd : zdif l kind i j) : zS l kind i ≠ zS l kind j := by
  obtain ⟨d1, d2, d3⟩ := hd
  obtain ⟨a1, a2⟩ := okL_W h (i := i) (by omega)
  obtain ⟨b1, b2⟩ := okL_W h hj
  intro he
  have hp := zpos_lt h (i := i) (by omega) kind
  have r1 := zS_rng h (i := i) (by omega) kind
  have r2 := zS_rng h hj kind
  rw [← zdif_pos (kind := kind) d1] at r2
  have hlt := h.2.1 i j hij hj
  have : zK l i = zK l j := by
    refine zdg_ext a2.1 b2.1 (fun t ht => ?_)
    by_cases hc : t = zpos l kind i
    · rw [hc, r1.2, r2.2, he]
    · exact (zclr_iff hp.1 a2.1 b2.1).mp d3 t ht hc
  unfold zK at this
  omega
