/-! ===== the lexicon of the reference ===== deps: 97.g.rank -/
def wR (R : ZMem) (i : Nat) (x : Nat × Nat) : Prop := R.1 16 i = zI (zkl x.1) ∧ R.1 18 i = zI x.2 ∧ ∀ k, k < 7 → R.1 17 (7 * i + k) = zI (zks x.1 k)
def lexR (l : List (Nat × Nat)) (R : ZMem) : Prop := R.1 0 25 = zI l.length ∧ ∀ i, i < l.length → wR R i (zE l i)
theorem wR_x {M0 M : ZMem} {i : Nat} {x : Nat × Nat} (h1 : M.1 16 i = M0.1 16 i) (h2 : M.1 18 i = M0.1 18 i) (h3 : ∀ k, k < 7 → M.1 17 (7 * i + k) = M0.1 17 (7 * i + k)) (h : wR M0 i x) : wR M i x := ⟨by rw [h1]; exact h.1, by rw [h2]; exact h.2.1, fun k hk => by rw [h3 k hk]; exact h.2.2 k hk⟩
theorem r_against {M : ZMem} {pc : Nat → Nat} {n i m : Nat} {x : Nat × Nat} (hn1 : 1 ≤ n) (hn : n ≤ 7) (hp : pcR pc n M) (hp2 : ∀ k, k < n → pc k < 20) (hi : i < 241) (hx : wR M i x) (hw : zisW x.1 m) : ∃ v : Int, f_X12_against M (zI n) (zI i) = some (zI v) ∧ -30 ≤ v ∧ v ≤ 30 ∧ (v < 0 ↔ zkey pc n < x.1) ∧ (0 < v ↔ x.1 < zkey pc n) := by
  have hm := zisW_len hw
  obtain ⟨w1, w2, w3, w4⟩ := hw
  obtain ⟨k1, k2, k3, k4⟩ := zkey_isW hn hp2
  have x1 := hx.1
  rw [hm] at x1
  suffices h : zOk (f_X12_against M (zI n) (zI i)) (fun r => ∃ v : Int, r = zI v ∧ -30 ≤ v ∧ v ≤ 30 ∧ (v < 0 ↔ zkey pc n < x.1) ∧ (0 < v ↔ x.1 < zkey pc n)) by
    obtain ⟨r, h1, v, h2, h3⟩ := h
    exact ⟨v, by rw [h1, h2], h3⟩
  unfold f_X12_against
  rw [zk_bind]
  have hend : ∀ j, j ≤ n → j ≤ m → (j = n ∨ j = m) → (∀ t, t < j → zdg (zkey pc n) t = zdg x.1 t) → (((n : Int) - m < 0 ↔ zkey pc n < x.1) ∧ (0 < (n : Int) - m ↔ x.1 < zkey pc n)) := by
    intro j j1 j2 j3 j4
    rcases Nat.lt_trichotomy n m with hlt | heq | hgt
    · have : zkey pc n < x.1 := zdg_cmp k1 w1 (k := n) (by omega) (fun t ht => j4 t (by omega)) (by rw [k4 n (Nat.le_refl n) (by omega)]; have := w3 n hlt; omega)
      omega
    · have : zkey pc n = x.1 := zdg_ext k1 w1 (fun t ht => by
        by_cases hc : t < j
        · exact j4 t hc
        · rw [k4 t (by omega) ht, w4 t (by omega) ht])
      omega
    · have : x.1 < zkey pc n := zdg_cmp w1 k1 (k := m) (by omega) (fun t ht => (j4 t (by omega)).symm) (by rw [w4 m (Nat.le_refl m) (by omega)]; have := k3 m hgt; omega)
      omega
  refine zOk_forQ (fun j y => y = zI j ∧ ∀ t, t < j → zdg (zkey pc n) t = zdg x.1 t) (min n m) ?_ ?_ ⟨rfl, fun t ht => absurd ht (Nat.not_lt_zero t)⟩
  · rintro j y hj ⟨rfl, e1⟩ Q hQ hR
    have d1 := zkey_dg hn hp2 (k := j) (by omega)
    have d2 := w3 j (by omega)
    have d3 := hp2 j (by omega)
    unfold f_X12_against_L2
    rw [if_neg (by simp (disch := omega) only [zk_bind, zk_chk, zk_bnd, zk_some, zlp_l, zlp_r, zb_some, zb_bnd, zI_add, zI_sub, zI_mul, zI_neg, zI_le, zI_lt, zI_eq, zI_ix, zI_inI, Int.toNat_natCast, Int.toNat_add, Int.toNat_mul, true_and, and_true]; omega), zI_inI (by omega) (by omega) (by omega), zb_chk, zI_ix (by omega) (by omega), Int.toNat_natCast, x1, if_neg (by simp (disch := omega) only [zk_bind, zk_chk, zk_bnd, zk_some, zlp_l, zlp_r, zb_some, zb_bnd, zI_add, zI_sub, zI_mul, zI_neg, zI_le, zI_lt, zI_eq, zI_ix, zI_inI, Int.toNat_natCast, Int.toNat_add, Int.toNat_mul, true_and, and_true]; omega), zI_inI (by omega) (by omega) (by omega), zb_chk, zI_mul, zI_add, zI_inI (by omega) (by omega) (by omega), zb_chk, zI_ix (by omega) (by omega), zI_ix (by omega) (by omega), Int.toNat_natCast, hp j (by omega), show (7 * (i : Int) + j).toNat = 7 * i + j by omega, hx.2.2 j (by omega), zks_lt (by omega)]
    by_cases hc : zdg (zkey pc n) j = zdg x.1 j
    · rw [if_pos (zI_inj (by omega)), zk_bnd, zk_some, zI_add]
      refine hQ _ ⟨zI_inj (by omega), fun t ht => ?_⟩
      by_cases he : t = j
      · rw [he]; exact hc
      · exact e1 t (by omega)
    · rw [if_neg (by simp (disch := omega) only [zk_bind, zk_chk, zk_bnd, zk_some, zlp_l, zlp_r, zb_some, zb_bnd, zI_add, zI_sub, zI_mul, zI_neg, zI_le, zI_lt, zI_eq, zI_ix, zI_inI, Int.toNat_natCast, Int.toNat_add, Int.toNat_mul, true_and, and_true]; omega), zb_chk, zb_chk, zk_some, zI_sub]
      refine hR _ ?_
      show zOk (some _) _
      rw [zk_some]
      refine ⟨_, rfl, by omega, by omega, ?_⟩
      rcases Nat.lt_or_gt_of_ne hc with hlt | hgt
      · have : zkey pc n < x.1 := zdg_cmp k1 w1 (by omega) e1 hlt
        omega
      · have : x.1 < zkey pc n := zdg_cmp w1 k1 (by omega) (fun t ht => (e1 t ht).symm) hgt
        omega
  · rintro y ⟨rfl, e1⟩
    refine ⟨.inl (), ?_, ?_⟩
    · unfold f_X12_against_L2
      by_cases hc : n ≤ m
      · rw [if_pos (by simp (disch := omega) only [zk_bind, zk_chk, zk_bnd, zk_some, zlp_l, zlp_r, zb_some, zb_bnd, zI_add, zI_sub, zI_mul, zI_neg, zI_le, zI_lt, zI_eq, zI_ix, zI_inI, Int.toNat_natCast, Int.toNat_add, Int.toNat_mul, true_and, and_true]; omega)]
      · rw [if_neg (by simp (disch := omega) only [zk_bind, zk_chk, zk_bnd, zk_some, zlp_l, zlp_r, zb_some, zb_bnd, zI_add, zI_sub, zI_mul, zI_neg, zI_le, zI_lt, zI_eq, zI_ix, zI_inI, Int.toNat_natCast, Int.toNat_add, Int.toNat_mul, true_and, and_true]; omega), zI_inI (by omega) (by omega) (by omega), zb_chk, zI_ix (by omega) (by omega), Int.toNat_natCast, x1, if_pos (by simp (disch := omega) only [zk_bind, zk_chk, zk_bnd, zk_some, zlp_l, zlp_r, zb_some, zb_bnd, zI_add, zI_sub, zI_mul, zI_neg, zI_le, zI_lt, zI_eq, zI_ix, zI_inI, Int.toNat_natCast, Int.toNat_add, Int.toNat_mul, true_and, and_true]; omega)]
    · show zOk (zchk (zin (zI i) 241) (some (zI n - M.1 16 (zix (zI i))))) _
      rw [zI_inI (by omega) (by omega) (by omega), zb_chk, zI_ix (by omega) (by omega), Int.toNat_natCast, x1, zI_sub, zk_some]
      have := hend (min n m) (by omega) (by omega) (by omega) e1
      exact ⟨_, rfl, by omega, by omega, this⟩
def zWwd (b : Nat) (a k : Nat) : Bool := (a == 16 && k == b) || (a == 18 && k == b) || (a == 17 && (7 * b ≤ k && k < 7 * b + 7))
theorem r_copiesWord {M : ZMem} {a b : Nat} {x : Nat × Nat} (ha : a < 241) (hb : b < 241) (hab : a ≠ b) (h : wR M a x) : zOk (f_X12_copiesWord M (zI a) (zI b)) (fun M' => wR M' b x ∧ zP (zWwd b) M M') := by
  unfold f_X12_copiesWord
  rw [zI_inI (by omega) (by omega) (by omega), zI_inI (by omega) (by omega) (by omega), zb_chk, zb_chk, zk_bnd, zb_chk, zb_chk, zk_bnd, zI_ix (by omega) (by omega), zI_ix (by omega) (by omega), Int.toNat_natCast, Int.toNat_natCast, zk_bind, zm_Iq _ _ _ _ (by decide), h.1, h.2.1]
  refine zOk_for0 (fun k y => y.2 = zI k ∧ zP (zWwd b) M y.1 ∧ y.1.1 16 b = zI (zkl x.1) ∧ y.1.1 18 b = zI x.2 ∧ ∀ j, j < k → y.1.1 17 (7 * b + j) = zI (zks x.1 j)) 7 ?_ ?_ ⟨rfl, zP_I (zP_I zP_rf (by unfold zWwd; simp)) (by unfold zWwd; simp), by rw [zm_Iq _ _ _ _ (by decide), zm_Is], by rw [zm_Is], fun j hj => absurd hj (Nat.not_lt_zero j)⟩
  · rintro k ⟨y1, y2⟩ hk ⟨e1, e2, e3, e4, e5⟩
    dsimp only at e1 e2 e3 e4 e5
    unfold f_X12_copiesWord_L26
    dsimp only
    rw [e1, if_neg (by simp (disch := omega) only [zk_bind, zk_chk, zk_bnd, zk_some, zlp_l, zlp_r, zb_some, zb_bnd, zI_add, zI_sub, zI_mul, zI_neg, zI_le, zI_lt, zI_eq, zI_ix, zI_inI, Int.toNat_natCast, Int.toNat_add, Int.toNat_mul, true_and, and_true]; omega), zI_mul, zI_add, zI_inI (by omega) (by omega) (by omega), zb_chk, zI_mul, zI_add, zI_inI (by omega) (by omega) (by omega), zb_chk, zI_ix (by omega) (by omega), zI_ix (by omega) (by omega), show (7 * (a : Int) + k).toNat = 7 * a + k by omega, show (7 * (b : Int) + k).toNat = 7 * b + k by omega, e2.1 17 (7 * a + k) (by unfold zWwd; simp; omega), h.2.2 k hk, zk_bnd, zk_bnd, zk_some, zlp_l, zI_add]
    refine ⟨zI_inj (by omega), zP_I e2 (by unfold zWwd; simp; omega), by rw [zm_Iq _ _ _ _ (by decide)]; exact e3, by rw [zm_Iq _ _ _ _ (by decide)]; exact e4, fun j hj => ?_⟩
    by_cases he : j = k
    · rw [he, zm_Is]
    · rw [zm_In _ _ _ _ (by omega)]
      exact e5 j (by omega)
  · rintro ⟨y1, y2⟩ ⟨e1, e2, e3, e4, e5⟩
    dsimp only at e1 e2 e3 e4 e5
    unfold f_X12_copiesWord_L26
    dsimp only
    rw [e1, if_pos (by simp (disch := omega) only [zk_bind, zk_chk, zk_bnd, zk_some, zlp_l, zlp_r, zb_some, zb_bnd, zI_add, zI_sub, zI_mul, zI_neg, zI_le, zI_lt, zI_eq, zI_ix, zI_inI, Int.toNat_natCast, Int.toNat_add, Int.toNat_mul, true_and, and_true]; omega), zk_some, zlp_r, zk_some]
    exact ⟨⟨e3, e4, e5⟩, e2⟩
def zWwds (a k : Nat) : Bool := a == 16 || a == 17 || a == 18 || (a == 0 && k == 25)
theorem zWwd_s {b a k : Nat} (h : zWwds a k = false) : zWwd b a k = false := by
  unfold zWwds at h
  unfold zWwd
  simp at h ⊢
  omega
theorem r_comesWord {M : ZMem} {l : List (Nat × Nat)} {pc : Nat → Nat} {n : Nat} (hs : zsrt l) (hw : zwords l) (hl : l.length < 240) (h : lexR l M) (hn1 : 1 ≤ n) (hn : n ≤ 7) (hp : pcR pc n M) (hp2 : ∀ k, k < n → pc k < 20) : zOk (f_X12_comesWord M (zI n)) (fun M' => lexR (zins (zkey pc n) l) M' ∧ zP zWwds M M') := by
  obtain ⟨p, h1, h2, h3⟩ := zfind l hs (zkey pc n)
  obtain ⟨g1, g2⟩ := zins_get (zkey pc n) l p h1 h2 h3
  have hW := zkey_isW hn hp2
  unfold f_X12_comesWord
  rw [zk_bind]
  refine zOk_for0 (fun i x => x = zI i) p ?_ ?_ rfl
  · rintro i x hi rfl
    obtain ⟨m, m1, m2⟩ := hw i (by omega)
    obtain ⟨v, v1, v2, v3, v4, v5⟩ := r_against hn1 hn hp hp2 (by omega) (h.2 i (by omega)) m2
    have := h2 i hi
    unfold f_X12_comesWord_L2
    rw [h.1, if_neg (by simp (disch := omega) only [zk_bind, zk_chk, zk_bnd, zk_some, zlp_l, zlp_r, zb_some, zb_bnd, zI_add, zI_sub, zI_mul, zI_neg, zI_le, zI_lt, zI_eq, zI_ix, zI_inI, Int.toNat_natCast, Int.toNat_add, Int.toNat_mul, true_and, and_true]; omega), v1, zb_some, if_neg (by simp (disch := omega) only [zk_bind, zk_chk, zk_bnd, zk_some, zlp_l, zlp_r, zb_some, zb_bnd, zI_add, zI_sub, zI_mul, zI_neg, zI_le, zI_lt, zI_eq, zI_ix, zI_inI, Int.toNat_natCast, Int.toNat_add, Int.toNat_mul, true_and, and_true]; omega), zk_bnd, zk_some, zlp_l, zI_add]
    exact zI_inj (by omega)
  rintro x rfl
  -- one more time
  have again : p < l.length → (zE l p).1 = zkey pc n → zOk (f_X12_comesWord_130 M (zI p)) (fun M' => lexR (zins (zkey pc n) l) M' ∧ zP zWwds M M') := by
    intro hpl he
    obtain ⟨g3, g4⟩ := g1 ⟨hpl, he⟩
    unfold f_X12_comesWord_130
    rw [zI_inI (by omega) (by omega) (by omega), zb_chk, zb_chk, zI_ix (by omega) (by omega), Int.toNat_natCast, (h.2 p hpl).2.1, zI_add, zk_bnd, zk_some]
    refine ⟨⟨by rw [zm_Iq _ _ _ _ (by decide), g3]; exact h.1, fun i hi => ?_⟩, zP_I zP_rf rfl⟩
    rw [g4 i]
    by_cases c : i = p
    · rw [if_pos c, c]
      have := h.2 p hpl
      rw [← he]
      exact ⟨by rw [zm_Iq _ _ _ _ (by decide)]; exact this.1, by rw [zm_Is]; exact zI_inj (by omega), fun k hk => by rw [zm_Iq _ _ _ _ (by decide)]; exact this.2.2 k hk⟩
    · rw [if_neg c]
      exact wR_x (by rw [zm_Iq _ _ _ _ (by decide)]) (by rw [zm_In _ _ _ _ c]) (fun k _ => by rw [zm_Iq _ _ _ _ (by decide)]) (h.2 i (by omega))
  -- a new word
  have fresh : ¬ (p < l.length ∧ (zE l p).1 = zkey pc n) → zOk (f_X12_comesWord_42 M (zI n) (zI p)) (fun M' => lexR (zins (zkey pc n) l) M' ∧ zP zWwds M M') := by
    intro hne
    obtain ⟨g3, g4⟩ := g2 hne
    unfold f_X12_comesWord_42
    rw [zk_bnd, h.1, zk_bind]
    refine zOk_for0 (fun i x => x.2 = zI ((l.length - i : Nat) : Int) ∧ zP zWwds M x.1 ∧ x.1.1 0 25 = zI l.length ∧ (∀ j, j < l.length - i → wR x.1 j (zE l j)) ∧ ∀ j, l.length - i < j → j ≤ l.length → wR x.1 j (zE l (j - 1))) (l.length - p) ?_ ?_ ⟨rfl, zP_rf, h.1, fun j hj => h.2 j (by omega), fun j hj1 hj2 => by omega⟩
    · rintro i ⟨x1, x2⟩ hi ⟨e1, e2, e3, e4, e5⟩
      dsimp only at e1 e2 e3 e4 e5
      unfold f_X12_comesWord_L47
      dsimp only
      rw [e1, if_neg (by simp (disch := omega) only [zk_bind, zk_chk, zk_bnd, zk_some, zlp_l, zlp_r, zb_some, zb_bnd, zI_add, zI_sub, zI_mul, zI_neg, zI_le, zI_lt, zI_eq, zI_ix, zI_inI, Int.toNat_natCast, Int.toNat_add, Int.toNat_mul, true_and, and_true]; omega), zI_sub, show (((l.length - i : Nat) : Int) - 1) = ((l.length - i - 1 : Nat) : Int) by omega, zk_bind]
      refine zOk_mono (r_copiesWord (by omega) (by omega) (by omega) (e4 (l.length - i - 1) (by omega))) (fun M2 h2' => ?_)
      obtain ⟨a1, a2⟩ := h2'
      rw [zk_bnd, zk_some, zlp_l, zI_add]
      have hoth : ∀ j y, j ≠ l.length - i → wR x1 j y → wR M2 j y := fun j y hj hy => wR_x (a2.1 16 j (by unfold zWwd; simp; omega)) (a2.1 18 j (by unfold zWwd; simp; omega)) (fun k hk => a2.1 17 _ (by unfold zWwd; simp; omega)) hy
      refine ⟨zI_inj (by omega), zP_tr e2 (zP_mono a2 (fun a k ha => zWwd_s ha)), by rw [a2.1 0 25 (by unfold zWwd; simp)]; exact e3, fun j hj => hoth j _ (by omega) (e4 j (by omega)), fun j hj1 hj2 => ?_⟩
      by_cases he : j = l.length - i
      · rw [he]; exact a1
      · exact hoth j _ he (e5 j (by omega) hj2)
    · rintro ⟨x1, x2⟩ ⟨e1, e2, e3, e4, e5⟩
      dsimp only at e1 e2 e3 e4 e5
      rw [show l.length - (l.length - p) = p by omega] at e1 e4 e5
      unfold f_X12_comesWord_L47
      dsimp only
      rw [e1, if_pos (by simp (disch := omega) only [zk_bind, zk_chk, zk_bnd, zk_some, zlp_l, zlp_r, zb_some, zb_bnd, zI_add, zI_sub, zI_mul, zI_neg, zI_le, zI_lt, zI_eq, zI_ix, zI_inI, Int.toNat_natCast, Int.toNat_add, Int.toNat_mul, true_and, and_true]; omega), zk_some, zlp_r, zk_bnd, e3, zI_add, zI_inI (by omega) (by omega) (by omega), zb_chk, zk_bnd, zb_chk, zk_bnd, zI_ix (by omega) (by omega), Int.toNat_natCast, zk_bind]
      have q0 : zP zWwds M (zstI (zstI (zstI x1 0 25 (zI ((l.length : Int) + 1))) 16 p (zI n)) 18 p (zI 0)) := zP_I (zP_I (zP_I e2 rfl) rfl) rfl
      have q1 : ∀ j y, j ≠ p → wR x1 j y → wR (zstI (zstI (zstI x1 0 25 (zI ((l.length : Int) + 1))) 16 p (zI n)) 18 p (zI 0)) j y := fun j y hj hy => wR_x (by rw [zm_Iq _ _ _ _ (by decide), zm_In _ _ _ _ hj, zm_Iq _ _ _ _ (by decide)]) (by rw [zm_In _ _ _ _ hj, zm_Iq _ _ _ _ (by decide), zm_Iq _ _ _ _ (by decide)]) (fun k _ => by rw [zm_Iq _ _ _ _ (by decide), zm_Iq _ _ _ _ (by decide), zm_Iq _ _ _ _ (by decide)]) hy
      have q2 : (zstI (zstI (zstI x1 0 25 (zI ((l.length : Int) + 1))) 16 p (zI n)) 18 p (zI 0)).1 16 p = zI n := by rw [zm_Iq _ _ _ _ (by decide), zm_Is]
      have q3 : (zstI (zstI (zstI x1 0 25 (zI ((l.length : Int) + 1))) 16 p (zI n)) 18 p (zI 0)).1 18 p = zI 0 := by rw [zm_Is]
      have q4 : (zstI (zstI (zstI x1 0 25 (zI ((l.length : Int) + 1))) 16 p (zI n)) 18 p (zI 0)).1 0 25 = zI ((l.length + 1 : Nat) : Int) := by rw [zm_Iq _ _ _ _ (by decide), zm_Iq _ _ _ _ (by decide), zm_Is]; exact zI_inj (by omega)
      generalize zstI (zstI (zstI x1 0 25 (zI ((l.length : Int) + 1))) 16 p (zI n)) 18 p (zI 0) = N at q0 q1 q2 q3 q4 ⊢
      refine zOk_forQ (fun k y => y.2 = zI k ∧ zP (fun a k => a == 17 && (7 * p ≤ k && k < 7 * p + 7)) N y.1 ∧ ∀ j, j < k → y.1.1 17 (7 * p + j) = zI (zks (zkey pc n) j)) 7 ?_ ?_ ⟨rfl, zP_rf, fun j hj => absurd hj (Nat.not_lt_zero j)⟩
      · rintro k ⟨y1, y2⟩ hk ⟨d1, d2, d3⟩ Q hQ _
        dsimp only at d1 d2 d3
        have key : ∀ v : Int, v = zks (zkey pc n) k → zOk (f_X12_comesWord_123_L92 y1 (zI n) (zI p) (zI k) (zI 7 * zI p + zI k) (zI v)) Q := by
          intro v hv
          unfold f_X12_comesWord_123_L92
          rw [zI_mul, zI_add, zI_inI (by omega) (by omega) (by omega), zb_chk, zI_ix (by omega) (by omega), show (7 * (p : Int) + k).toNat = 7 * p + k by omega, zk_bnd, zk_bnd, zk_some, zI_add]
          refine hQ _ ⟨zI_inj (by omega), zP_I d2 (by simp; omega), fun j hj => ?_⟩
          by_cases he : j = k
          · rw [he, zm_Is, hv]
          · rw [zm_In _ _ _ _ (by omega)]
            exact d3 j (by omega)
        unfold f_X12_comesWord_L92
        dsimp only
        rw [d1, if_neg (by simp (disch := omega) only [zk_bind, zk_chk, zk_bnd, zk_some, zlp_l, zlp_r, zb_some, zb_bnd, zI_add, zI_sub, zI_mul, zI_neg, zI_le, zI_lt, zI_eq, zI_ix, zI_inI, Int.toNat_natCast, Int.toNat_add, Int.toNat_mul, true_and, and_true]; omega)]
        by_cases hc : k < n
        · rw [if_neg (by simp (disch := omega) only [zk_bind, zk_chk, zk_bnd, zk_some, zlp_l, zlp_r, zb_some, zb_bnd, zI_add, zI_sub, zI_mul, zI_neg, zI_le, zI_lt, zI_eq, zI_ix, zI_inI, Int.toNat_natCast, Int.toNat_add, Int.toNat_mul, true_and, and_true]; omega), zI_inI (by omega) (by omega) (by omega), zb_chk, zI_ix (by omega) (by omega), Int.toNat_natCast, d2.1 15 k (by simp), q0.1 15 k rfl, hp k hc]
          exact key (pc k) (by rw [zks_lt hk, zkey_dg hn hp2 hc]; omega)
        · rw [if_pos (by simp (disch := omega) only [zk_bind, zk_chk, zk_bnd, zk_some, zlp_l, zlp_r, zb_some, zb_bnd, zI_add, zI_sub, zI_mul, zI_neg, zI_le, zI_lt, zI_eq, zI_ix, zI_inI, Int.toNat_natCast, Int.toNat_add, Int.toNat_mul, true_and, and_true]; omega)]
          exact key (-1) (by rw [zks_lt hk, hW.2.2.2 k (by omega) hk]; omega)
      · rintro ⟨y1, y2⟩ ⟨d1, d2, d3⟩
        dsimp only at d1 d2 d3
        refine ⟨y1, ?_, ?_⟩
        · unfold f_X12_comesWord_L92
          dsimp only
          rw [d1, if_pos (by simp (disch := omega) only [zk_bind, zk_chk, zk_bnd, zk_some, zlp_l, zlp_r, zb_some, zb_bnd, zI_add, zI_sub, zI_mul, zI_neg, zI_le, zI_lt, zI_eq, zI_ix, zI_inI, Int.toNat_natCast, Int.toNat_add, Int.toNat_mul, true_and, and_true]; omega)]
        · unfold f_X12_comesWord_130
          rw [zI_inI (by omega) (by omega) (by omega), zb_chk, zb_chk, zI_ix (by omega) (by omega), Int.toNat_natCast, d2.1 18 p (by simp), q3, zI_add, zk_bnd, zk_some]
          have hoth : ∀ j y, j ≠ p → wR x1 j y → wR (zstI y1 18 p (zI (0 + 1))) j y := fun j y hj hy => wR_x (by rw [zm_Iq _ _ _ _ (by decide), d2.1 16 j (by simp)]) (by rw [zm_In _ _ _ _ hj, d2.1 18 j (by simp)]) (fun k hk => by rw [zm_Iq _ _ _ _ (by decide), d2.1 17 _ (by simp; omega)]) (q1 j y hj hy)
          refine ⟨⟨by rw [zm_Iq _ _ _ _ (by decide), d2.1 0 25 (by simp), q4, g3], fun i hi => ?_⟩, zP_I (zP_tr q0 (zP_mono d2 (fun a k ha => by unfold zWwds at ha; simp at ha ⊢; omega))) rfl⟩
          rw [g4 i (by omega)]
          by_cases c1 : i < p
          · rw [if_pos c1]
            exact hoth i _ (by omega) (e4 i c1)
          · rw [if_neg c1]
            by_cases c2 : i = p
            · rw [if_pos c2, c2]
              refine ⟨?_, by rw [zm_Is]; rfl, fun k hk => by rw [zm_Iq _ _ _ _ (by decide)]; exact d3 k hk⟩
              rw [zm_Iq _ _ _ _ (by decide), d2.1 16 p (by simp), q2, zisW_len hW]
            · rw [if_neg c2]
              exact hoth i _ c2 (e5 i (by omega) (by omega))
  unfold f_X12_comesWord_L2
  rw [h.1]
  by_cases hpl : p < l.length
  · obtain ⟨m, m1, m2⟩ := hw p hpl
    obtain ⟨v, v1, v2, v3, v4, v5⟩ := r_against hn1 hn hp hp2 (by omega) (h.2 p hpl) m2
    have := h3 hpl
    rw [if_neg (by simp (disch := omega) only [zk_bind, zk_chk, zk_bnd, zk_some, zlp_l, zlp_r, zb_some, zb_bnd, zI_add, zI_sub, zI_mul, zI_neg, zI_le, zI_lt, zI_eq, zI_ix, zI_inI, Int.toNat_natCast, Int.toNat_add, Int.toNat_mul, true_and, and_true]; omega), v1, zb_some, if_pos (by simp (disch := omega) only [zk_bind, zk_chk, zk_bnd, zk_some, zlp_l, zlp_r, zb_some, zb_bnd, zI_add, zI_sub, zI_mul, zI_neg, zI_le, zI_lt, zI_eq, zI_ix, zI_inI, Int.toNat_natCast, Int.toNat_add, Int.toNat_mul, true_and, and_true]; omega), zk_some, zlp_r, if_neg (by simp (disch := omega) only [zk_bind, zk_chk, zk_bnd, zk_some, zlp_l, zlp_r, zb_some, zb_bnd, zI_add, zI_sub, zI_mul, zI_neg, zI_le, zI_lt, zI_eq, zI_ix, zI_inI, Int.toNat_natCast, Int.toNat_add, Int.toNat_mul, true_and, and_true]; omega), v1, zb_some]
    by_cases he : (zE l p).1 = zkey pc n
    · rw [if_pos (by simp (disch := omega) only [zk_bind, zk_chk, zk_bnd, zk_some, zlp_l, zlp_r, zb_some, zb_bnd, zI_add, zI_sub, zI_mul, zI_neg, zI_le, zI_lt, zI_eq, zI_ix, zI_inI, Int.toNat_natCast, Int.toNat_add, Int.toNat_mul, true_and, and_true]; omega)]
      exact again hpl he
    · rw [if_neg (by simp (disch := omega) only [zk_bind, zk_chk, zk_bnd, zk_some, zlp_l, zlp_r, zb_some, zb_bnd, zI_add, zI_sub, zI_mul, zI_neg, zI_le, zI_lt, zI_eq, zI_ix, zI_inI, Int.toNat_natCast, Int.toNat_add, Int.toNat_mul, true_and, and_true]; omega)]
      exact fresh (fun hh => he hh.2)
  · rw [if_pos (by simp (disch := omega) only [zk_bind, zk_chk, zk_bnd, zk_some, zlp_l, zlp_r, zb_some, zb_bnd, zI_add, zI_sub, zI_mul, zI_neg, zI_le, zI_lt, zI_eq, zI_ix, zI_inI, Int.toNat_natCast, Int.toNat_add, Int.toNat_mul, true_and, and_true]; omega), zk_some, zlp_r, if_pos (by simp (disch := omega) only [zk_bind, zk_chk, zk_bnd, zk_some, zlp_l, zlp_r, zb_some, zb_bnd, zI_add, zI_sub, zI_mul, zI_neg, zI_le, zI_lt, zI_eq, zI_ix, zI_inI, Int.toNat_natCast, Int.toNat_add, Int.toNat_mul, true_and, and_true]; omega)]
    exact fresh (fun hh => hpl hh.1)
