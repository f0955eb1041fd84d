/-! ===== forms told: what a text tells; the class ===== deps: 97.zw.name -/
noncomputable def y4B (t : List Nat) (i : Nat) : Nat := zfst (fun j => zch t j ≠ 32) (300 - i) i
noncomputable def y4D (t : List Nat) (i : Nat) : Nat := zfst (fun j => ¬ (48 ≤ zch t j ∧ zch t j ≤ 57)) (300 - i) i
def y4V (t : List Nat) (i : Nat) : Nat → Nat
  | 0 => 0
  | n + 1 => 10 * y4V t i n + (zch t (i + n) - 48).toNat
/-- the place before number k -/
noncomputable def y4p (t : List Nat) (b : Nat) : Nat → Nat
  | 0 => b
  | k + 1 => y4D t (y4B t (y4p t b k))
noncomputable abbrev y4s (t : List Nat) (b k : Nat) : Nat := y4B t (y4p t b k)
noncomputable def y4v (t : List Nat) (b k : Nat) : Nat := y4V t (y4s t b k) (y4p t b (k + 1) - y4s t b k)
noncomputable def y4f (t : List Nat) (n b k : Nat) : Nat := if y4p t b (k + 1) = y4s t b k then 8 * y4s t b k + 1 else if 31 < y4v t b k then 8 * y4s t b k + 2 else if n = 20 then 8 * y4s t b k + 3 else 0
noncomputable abbrev y4e (t : List Nat) (b : Nat) : Nat := y4B t (y4p t b 5)
def y4d (t : List Nat) (n : Nat) (fr : Nat → Nat) (b : Nat) : Prop := ∃ m, m < n ∧ ∀ r, r < 5 → fr (5 * m + r) = y4v t b r
noncomputable def y4F (t : List Nat) (n : Nat) (fr : Nat → Nat) (b : Nat) : Nat := if zfst (fun k => y4f t n b k ≠ 0) 5 0 < 5 then y4f t n b (zfst (fun k => y4f t n b k ≠ 0) 5 0) else if zch t (y4e t b) ≠ 59 then 8 * y4e t b + 1 else zif (y4d t n fr b) (8 * b + 4) 0
theorem y4B_le {t : List Nat} {i : Nat} (hi : i ≤ 300) : i ≤ y4B t i ∧ y4B t i ≤ 300 := by
  have := zfst_rng (fun j => zch t j ≠ 32) (300 - i) i
  unfold y4B
  omega
theorem y4D_le {t : List Nat} {i : Nat} (hi : i ≤ 300) : i ≤ y4D t i ∧ y4D t i ≤ 300 := by
  have := zfst_rng (fun j => ¬ (48 ≤ zch t j ∧ zch t j ≤ 57)) (300 - i) i
  unfold y4D
  omega
theorem y4p_le {t : List Nat} {b : Nat} (hb : b ≤ 300) : ∀ k, y4p t b k ≤ 300 := by
  intro k
  induction k with
  | zero => exact hb
  | succ k ih => exact (y4D_le (y4B_le ih).2).2
theorem y4s_le {t : List Nat} {b : Nat} (hb : b ≤ 300) (k : Nat) : y4s t b k ≤ 300 := (y4B_le (y4p_le hb k)).2
theorem y4sp {t : List Nat} {b : Nat} (hb : b ≤ 300) (k : Nat) : y4s t b k ≤ y4p t b (k + 1) := (y4D_le (y4s_le hb k)).1
theorem y4F_1 {t : List Nat} {n : Nat} {fr : Nat → Nat} {b k : Nat} (hk : k < 5) (h0 : ∀ j, j < k → y4f t n b j = 0) (h1 : y4f t n b k ≠ 0) : y4F t n fr b = y4f t n b k := by
  have : zfst (fun k => y4f t n b k ≠ 0) 5 0 = k := zfst_of (by omega) (by omega) (fun j _ hj hh => hh (h0 j hj)) (Or.inr h1)
  unfold y4F
  rw [this, if_pos hk]
theorem y4F_g {t : List Nat} {n : Nat} {fr : Nat → Nat} {b : Nat} (h0 : ∀ j, j < 5 → y4f t n b j = 0) : y4F t n fr b = if zch t (y4e t b) ≠ 59 then 8 * y4e t b + 1 else zif (y4d t n fr b) (8 * b + 4) 0 := by
  have : zfst (fun k => y4f t n b k ≠ 0) 5 0 = 5 := zfst_of (by omega) (by omega) (fun j _ hj hh => hh (h0 j hj)) (Or.inl rfl)
  unfold y4F
  rw [this, if_neg (by omega)]
theorem y4F_2 {t : List Nat} {n : Nat} {fr : Nat → Nat} {b : Nat} (h0 : ∀ j, j < 5 → y4f t n b j = 0) (h1 : zch t (y4e t b) ≠ 59) : y4F t n fr b = 8 * y4e t b + 1 := by rw [y4F_g h0, if_pos h1]
theorem y4F_3 {t : List Nat} {n : Nat} {fr : Nat → Nat} {b : Nat} (h0 : ∀ j, j < 5 → y4f t n b j = 0) (h1 : zch t (y4e t b) = 59) (h2 : y4d t n fr b) : y4F t n fr b = 8 * b + 4 := by rw [y4F_g h0, if_neg (fun hh => hh h1), zif_t h2]
theorem y4F_0 {t : List Nat} {n : Nat} {fr : Nat → Nat} {b : Nat} (h0 : ∀ j, j < 5 → y4f t n b j = 0) (h1 : zch t (y4e t b) = 59) (h2 : ¬ y4d t n fr b) : y4F t n fr b = 0 := by rw [y4F_g h0, if_neg (fun hh => hh h1), zif_f h2]
theorem y4F_i {t : List Nat} {n : Nat} {fr : Nat → Nat} {b : Nat} (h : y4F t n fr b = 0) : (∀ j, j < 5 → y4f t n b j = 0) ∧ zch t (y4e t b) = 59 ∧ ¬ y4d t n fr b := by
  have h0 : ∀ j, j < 5 → y4f t n b j = 0 := by
    have : ∀ k, k ≤ 5 → ∀ j, j < k → y4f t n b j = 0 := by
      intro k
      induction k with
      | zero => intro _ j hj; omega
      | succ k ih =>
        intro hk j hj
        have ih' := ih (by omega)
        by_cases hjk : j = k
        · apply Classical.byContradiction
          intro hh
          rw [hjk] at hh
          rw [y4F_1 (by omega) ih' hh] at h
          exact hh h
        · exact ih' j (by omega)
    exact this 5 (Nat.le_refl 5)
  refine ⟨h0, ?_, ?_⟩
  · apply Classical.byContradiction
    intro hh
    rw [y4F_2 h0 hh] at h
    omega
  · intro hd
    by_cases hh : zch t (y4e t b) = 59
    · rw [y4F_3 h0 hh hd] at h
      omega
    · rw [y4F_2 h0 hh] at h
      omega
theorem y4f_0 {t : List Nat} {n b k : Nat} (h : y4f t n b k = 0) : y4p t b (k + 1) ≠ y4s t b k ∧ y4v t b k ≤ 31 ∧ n ≠ 20 := by
  unfold y4f at h
  split at h
  · omega
  · split at h
    · omega
    · split at h
      · omega
      · omega
theorem y4f_le {t : List Nat} {n b k : Nat} (hb : b ≤ 300) : y4f t n b k ≤ 2403 := by
  have := y4s_le (t := t) hb k
  unfold y4f
  split
  · omega
  · split
    · omega
    · split <;> omega
theorem y4F_le {t : List Nat} {n : Nat} {fr : Nat → Nat} {b : Nat} (hb : b ≤ 300) : y4F t n fr b ≤ 2404 := by
  have : y4e t b ≤ 300 := (y4B_le (t := t) (y4p_le (t := t) hb 5)).2
  unfold y4F
  split
  · have := y4f_le (t := t) (n := n) (k := zfst (fun k => y4f t n b k ≠ 0) 5 0) hb
    omega
  · split
    · omega
    · unfold zif
      split <;> omega
/-- place and forms after n forms -/
noncomputable def y4N (t : List Nat) : Nat → Nat × (Nat → Nat)
  | 0 => (0, fun _ => 0)
  | n + 1 => (y4e t (y4B t (y4N t n).1) + 1, fun j => if 5 * n ≤ j then y4v t (y4B t (y4N t n).1) (j - 5 * n) else (y4N t n).2 j)
noncomputable abbrev y4b (t : List Nat) (n : Nat) : Nat := y4B t (y4N t n).1
noncomputable abbrev y4G (t : List Nat) (n : Nat) : Nat := y4F t n (y4N t n).2 (y4b t n)
def y4w (t : List Nat) (n : Nat) : Prop := ∀ m, m < n → zch t (y4b t m) ≠ -1 ∧ y4G t m = 0
def y4ok (t : List Nat) (n : Nat) : Prop := y4w t n ∧ zch t (y4b t n) = -1
def y4ft (t : List Nat) (f : Nat) : Prop := ∃ n, y4w t n ∧ zch t (y4b t n) ≠ -1 ∧ y4G t n ≠ 0 ∧ f = y4G t n
theorem y4ft_one {t : List Nat} {f f' : Nat} (h : y4ft t f) (h' : y4ft t f') : f = f' := by
  obtain ⟨i, h1, h2, h3, h4⟩ := h
  obtain ⟨j, g1, g2, g3, g4⟩ := h'
  rcases Nat.lt_trichotomy i j with hc | hc | hc
  · exact absurd (g1 i hc).2 h3
  · rw [h4, g4, hc]
  · exact absurd (h1 j hc).2 g3
theorem y4ok_one {t : List Nat} {i j : Nat} (h : y4ok t i) (h' : y4ok t j) : i = j := by
  rcases Nat.lt_trichotomy i j with hc | hc | hc
  · exact absurd h.2 (h'.1 i hc).1
  · exact hc
  · exact absurd h'.2 (h.1 j hc).1
theorem y4ft_ok {t : List Nat} {f j : Nat} (h : y4ft t f) (h' : y4ok t j) : False := by
  obtain ⟨i, h1, h2, h3, h4⟩ := h
  rcases Nat.lt_trichotomy i j with hc | hc | hc
  · exact absurd (h'.1 i hc).2 h3
  · rw [hc] at h2; exact h2 h'.2
  · exact absurd h'.2 (h1 j hc).1
theorem y4w_20 {t : List Nat} {n : Nat} (h : y4w t n) : n ≤ 20 := by
  apply Classical.byContradiction
  intro hh
  exact (y4f_0 ((y4F_i (h 20 (by omega)).2).1 0 (by omega))).2.2 rfl
theorem y4N_le {t : List Nat} (hb : okB t) {n : Nat} (h : y4w t n) : (y4N t n).1 ≤ 300 := by
  cases n with
  | zero => exact Nat.zero_le 300
  | succ n =>
    have h59 := (y4F_i (h n (by omega)).2).2.1
    have hl := hb.1
    show y4e t (y4b t n) + 1 ≤ 300
    apply Classical.byContradiction
    intro hh
    rw [zch_e (by omega)] at h59
    omega
theorem y4N_32 {t : List Nat} {n : Nat} (h : y4w t n) : ∀ m, m < n → ∀ r, r < 5 → (y4N t n).2 (5 * m + r) < 32 := by
  induction n with
  | zero => intro m hm; omega
  | succ n ih =>
    intro m hm r hr
    show (if 5 * n ≤ 5 * m + r then y4v t (y4b t n) (5 * m + r - 5 * n) else (y4N t n).2 (5 * m + r)) < 32
    by_cases hmn : m = n
    · rw [if_pos (by omega), show 5 * m + r - 5 * n = r by omega]
      have := (y4f_0 ((y4F_i (h n (by omega)).2).1 r hr)).2.1
      omega
    · rw [if_neg (by omega)]
      exact ih (fun m hm => h m (by omega)) m (by omega) r hr
theorem y4w_s {t : List Nat} {n : Nat} (h : y4w t n) (h1 : zch t (y4b t n) ≠ -1) (h2 : y4G t n = 0) : y4w t (n + 1) := fun m hm => by
  by_cases hmn : m = n
  · rw [hmn]; exact ⟨h1, h2⟩
  · exact h m (by omega)
theorem y4B_of {t : List Nat} {i n : Nat} (h1 : i ≤ n) (h2 : n ≤ 300) (h3 : ∀ l, i ≤ l → l < n → zch t l = 32) (h4 : n = 300 ∨ zch t n ≠ 32) : y4B t i = n := by
  refine zfst_of h1 (by omega) (fun j a b hh => hh (h3 j a b)) ?_
  rcases h4 with h4 | h4
  · exact Or.inl (by omega)
  · exact Or.inr h4
theorem y4D_of {t : List Nat} {i n : Nat} (h1 : i ≤ n) (h2 : n ≤ 300) (h3 : ∀ l, i ≤ l → l < n → 48 ≤ zch t l ∧ zch t l ≤ 57) (h4 : n = 300 ∨ ¬ (48 ≤ zch t n ∧ zch t n ≤ 57)) : y4D t i = n := by
  refine zfst_of h1 (by omega) (fun j a b hh => hh (h3 j a b)) ?_
  rcases h4 with h4 | h4
  · exact Or.inl (by omega)
  · exact Or.inr h4
-- the class
def z39 (a k : Nat) : Bool := a == 3 && k == 9
def zW4 (a k : Nat) : Bool := a == 5 || (a == 3 && (k == 8 || k == 9))
theorem z39_4 {M0 M : ZMem} (h : zP z39 M0 M) : zP zW4 M0 M := zP_mono h (fun a k ha => by unfold zW4 at ha; unfold z39; simp at ha ⊢; omega)
theorem tapeC_39 {t : List Nat} {M0 M : ZMem} (h : zP zW4 M0 M) (ht : tapeC t M0) : tapeC t M := ⟨by rw [h.1 1 1 rfl]; exact ht.1, fun j hj => by rw [h.1 2 j rfl]; exact ht.2 j hj⟩
theorem c_skip {M : ZMem} {t : List Nat} {i : Nat} (hb : okB t) (ht : tapeC t M) (hi : i ≤ 300) (h9 : M.1 3 9 = zI i) : zOk (f_X0_skipBlanks M) (fun M' => M'.1 3 9 = zI (y4B t i) ∧ zP z39 M M') := by
  unfold f_X0_skipBlanks
  rw [zk_bind]
  refine zOk_forQ (fun j s => s.1 3 9 = zI ((i + j : Nat) : Int) ∧ (∀ l, i ≤ l → l < i + j → zch t l = 32) ∧ zP z39 M s) (300 - i) ?_ ?_ ⟨h9, fun l h1 h2 => by omega, zP_rf⟩
  · rintro j s hj ⟨e1, e2, e3⟩ Q hQ hE
    have hts := tapeC_39 (z39_4 e3) ht
    unfold f_X0_skipBlanks_L0
    have hz := zch_rng hb (i + j)
    rw [e1, if_neg (by simp (disch := omega) only [zk_bind, zk_chk, zk_bnd, zk_some, zlp_l, zlp_r, zb_some, zb_bnd, zI_add, zI_sub, zI_mul, zI_neg, zI_le, zI_lt, zI_eq, zI_ix, zI_inI, Int.toNat_natCast, Int.toNat_add, Int.toNat_mul, true_and, and_true]; omega), c_byteAt hb hts (by omega), zb_some]
    by_cases hc : zch t (i + j) = 32
    · rw [if_pos (by rw [hc]), zI_add, zk_bnd, zk_some]
      refine hQ _ ⟨by rw [zm_Is]; exact zI_inj (by omega), fun l h1 h2 => ?_, zP_I e3 rfl⟩
      by_cases hl : l = i + j
      · rw [hl]; exact hc
      · exact e2 l h1 (by omega)
    · rw [if_neg (by simp (disch := omega) only [zk_bind, zk_chk, zk_bnd, zk_some, zlp_l, zlp_r, zb_some, zb_bnd, zI_add, zI_sub, zI_mul, zI_neg, zI_le, zI_lt, zI_eq, zI_ix, zI_inI, Int.toNat_natCast, Int.toNat_add, Int.toNat_mul, true_and, and_true]; omega), zk_some]
      refine hE _ ?_
      rw [zk_some]
      rw [y4B_of (n := i + j) (by omega) (by omega) e2 (Or.inr hc)]
      exact ⟨e1, e3⟩
  · rintro s ⟨e1, e2, e3⟩
    refine ⟨s, ?_, ?_⟩
    · unfold f_X0_skipBlanks_L0
      rw [e1, if_pos (by simp (disch := omega) only [zk_bind, zk_chk, zk_bnd, zk_some, zlp_l, zlp_r, zb_some, zb_bnd, zI_add, zI_sub, zI_mul, zI_neg, zI_le, zI_lt, zI_eq, zI_ix, zI_inI, Int.toNat_natCast, Int.toNat_add, Int.toNat_mul, true_and, and_true]; omega)]
    · rw [zk_some, y4B_of (n := i + (300 - i)) (by omega) (by omega) e2 (Or.inl (by omega))]
      exact ⟨e1, e3⟩
theorem c_number {M : ZMem} {t : List Nat} {i : Nat} (hb : okB t) (ht : tapeC t M) (hi : i ≤ 300) (h9 : M.1 3 9 = zI i) : zOk (f_X0_takeNumber M) (fun r => r.1.1 3 9 = zI (y4D t i) ∧ r.2 = zI ((min 32 (y4V t i (y4D t i - i)) : Nat) : Int) ∧ zP z39 M r.1) := by
  unfold f_X0_takeNumber
  rw [zk_bind]
  refine zOk_forQ (fun j s => s.1.1 3 9 = zI ((i + j : Nat) : Int) ∧ s.2 = zI ((min 32 (y4V t i j) : Nat) : Int) ∧ (∀ l, i ≤ l → l < i + j → 48 ≤ zch t l ∧ zch t l ≤ 57) ∧ zP z39 M s.1) (300 - i) ?_ ?_ ⟨h9, rfl, fun l h1 h2 => by omega, zP_rf⟩
  · rintro j ⟨s, v⟩ hj ⟨e1, e2, e3, e4⟩ Q hQ hE
    dsimp only at e1 e2 e4
    have hts := tapeC_39 (z39_4 e4) ht
    have hz := zch_rng hb (i + j)
    have stop : ¬ (48 ≤ zch t (i + j) ∧ zch t (i + j) ≤ 57) → Q (.inr (s, v)) := by
      intro hc
      refine hE _ ?_
      rw [zk_some, y4D_of (n := i + j) (by omega) (by omega) e3 (Or.inr hc), Nat.add_sub_cancel_left]
      exact ⟨e1, e2, e4⟩
    unfold f_X0_takeNumber_L2
    dsimp only
    rw [e1, if_neg (by simp (disch := omega) only [zk_bind, zk_chk, zk_bnd, zk_some, zlp_l, zlp_r, zb_some, zb_bnd, zI_add, zI_sub, zI_mul, zI_neg, zI_le, zI_lt, zI_eq, zI_ix, zI_inI, Int.toNat_natCast, Int.toNat_add, Int.toNat_mul, true_and, and_true]; omega), c_byteAt hb hts (by omega), zb_some]
    by_cases c1 : zch t (i + j) < 48
    · rw [if_pos (by simp (disch := omega) only [zk_bind, zk_chk, zk_bnd, zk_some, zlp_l, zlp_r, zb_some, zb_bnd, zI_add, zI_sub, zI_mul, zI_neg, zI_le, zI_lt, zI_eq, zI_ix, zI_inI, Int.toNat_natCast, Int.toNat_add, Int.toNat_mul, true_and, and_true]; omega), zk_some]
      exact stop (by omega)
    · rw [if_neg (by simp (disch := omega) only [zk_bind, zk_chk, zk_bnd, zk_some, zlp_l, zlp_r, zb_some, zb_bnd, zI_add, zI_sub, zI_mul, zI_neg, zI_le, zI_lt, zI_eq, zI_ix, zI_inI, Int.toNat_natCast, Int.toNat_add, Int.toNat_mul, true_and, and_true]; omega), zb_some]
      by_cases c2 : 57 < zch t (i + j)
      · rw [if_pos (by simp (disch := omega) only [zk_bind, zk_chk, zk_bnd, zk_some, zlp_l, zlp_r, zb_some, zb_bnd, zI_add, zI_sub, zI_mul, zI_neg, zI_le, zI_lt, zI_eq, zI_ix, zI_inI, Int.toNat_natCast, Int.toNat_add, Int.toNat_mul, true_and, and_true]; omega), zk_some]
        exact stop (by omega)
      · have hV : y4V t i (j + 1) = 10 * y4V t i j + (zch t (i + j) - 48).toNat := rfl
        rw [if_neg (by simp (disch := omega) only [zk_bind, zk_chk, zk_bnd, zk_some, zlp_l, zlp_r, zb_some, zb_bnd, zI_add, zI_sub, zI_mul, zI_neg, zI_le, zI_lt, zI_eq, zI_ix, zI_inI, Int.toNat_natCast, Int.toNat_add, Int.toNat_mul, true_and, and_true]; omega), zb_some, e2, zI_mul, zI_add, zI_sub, zI_add, zk_bnd, zk_bnd, zk_some]
        refine hQ _ ⟨by rw [zm_Is]; exact zI_inj (by omega), ?_, fun l h1 h2 => ?_, zP_I e4 rfl⟩
        · show (if zI (((min 32 (y4V t i j) : Nat) : Int) * 10 + zch t (i + j) - 48) < zI 32 then zI (((min 32 (y4V t i j) : Nat) : Int) * 10 + zch t (i + j) - 48) else zI 32) = zI ((min 32 (y4V t i (j + 1)) : Nat) : Int)
          rw [hV]
          by_cases c3 : ((min 32 (y4V t i j) : Nat) : Int) * 10 + zch t (i + j) - 48 < 32
          · rw [if_pos (by simp (disch := omega) only [zk_bind, zk_chk, zk_bnd, zk_some, zlp_l, zlp_r, zb_some, zb_bnd, zI_add, zI_sub, zI_mul, zI_neg, zI_le, zI_lt, zI_eq, zI_ix, zI_inI, Int.toNat_natCast, Int.toNat_add, Int.toNat_mul, true_and, and_true]; omega)]
            exact zI_inj (by omega)
          · rw [if_neg (by simp (disch := omega) only [zk_bind, zk_chk, zk_bnd, zk_some, zlp_l, zlp_r, zb_some, zb_bnd, zI_add, zI_sub, zI_mul, zI_neg, zI_le, zI_lt, zI_eq, zI_ix, zI_inI, Int.toNat_natCast, Int.toNat_add, Int.toNat_mul, true_and, and_true]; omega)]
            exact zI_inj (by omega)
        · by_cases hl : l = i + j
          · rw [hl]; omega
          · exact e3 l h1 (by omega)
  · rintro ⟨s, v⟩ ⟨e1, e2, e3, e4⟩
    dsimp only at e1 e2 e4
    refine ⟨(s, v), ?_, ?_⟩
    · unfold f_X0_takeNumber_L2
      dsimp only
      rw [e1, if_pos (by simp (disch := omega) only [zk_bind, zk_chk, zk_bnd, zk_some, zlp_l, zlp_r, zb_some, zb_bnd, zI_add, zI_sub, zI_mul, zI_neg, zI_le, zI_lt, zI_eq, zI_ix, zI_inI, Int.toNat_natCast, Int.toNat_add, Int.toNat_mul, true_and, and_true]; omega)]
    · rw [zk_some, y4D_of (n := i + (300 - i)) (by omega) (by omega) e3 (Or.inl (by omega)), Nat.add_sub_cancel_left]
      exact ⟨e1, e2, e4⟩
def y4h (v : Nat → Nat) : Nat → Nat
  | 0 => 0
  | k + 1 => y4h v k * 32 + v k
theorem zform_inj {f g : Nat → Nat} {m : Nat} (h1 : ∀ r, r < 5 → f (5 * m + r) < 32) (h2 : ∀ r, r < 5 → g r < 32) : zform f m = y4h g 5 ↔ ∀ r, r < 5 → f (5 * m + r) = g r := by
  have a0 := h1 0 (by omega)
  have a1 := h1 1 (by omega)
  have a2 := h1 2 (by omega)
  have a3 := h1 3 (by omega)
  have a4 := h1 4 (by omega)
  have b0 := h2 0 (by omega)
  have b1 := h2 1 (by omega)
  have b2 := h2 2 (by omega)
  have b3 := h2 3 (by omega)
  have b4 := h2 4 (by omega)
  rw [Nat.add_zero] at a0
  show f (5 * m + 4) + 32 * (f (5 * m + 3) + 32 * (f (5 * m + 2) + 32 * (f (5 * m + 1) + 32 * f (5 * m)))) = ((((0 * 32 + g 0) * 32 + g 1) * 32 + g 2) * 32 + g 3) * 32 + g 4 ↔ _
  constructor
  · intro h r hr
    have : r = 0 ∨ r = 1 ∨ r = 2 ∨ r = 3 ∨ r = 4 := by omega
    rcases this with rfl | rfl | rfl | rfl | rfl
    · rw [Nat.add_zero]; omega
    · omega
    · omega
    · omega
    · omega
  · intro h
    have c0 := h 0 (by omega)
    have c1 := h 1 (by omega)
    have c2 := h 2 (by omega)
    have c3 := h 3 (by omega)
    have c4 := h 4 (by omega)
    rw [Nat.add_zero] at c0
    omega
