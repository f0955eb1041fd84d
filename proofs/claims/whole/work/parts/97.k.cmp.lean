/-! ===== the class compares its words ===== deps: 97.j.clr -/
def zcwD (l : List (Nat × Nat)) (D : Nat → Nat → Prop) (kind a b : Nat) : Prop := ∃ i j, D i j ∧ zdif l kind i j ∧ ((a = zS l kind i ∧ b = zS l kind j) ∨ (a = zS l kind j ∧ b = zS l kind i))
def zstD (l : List (Nat × Nat)) (D : Nat → Nat → Prop) (x : Nat) : Prop := ∃ i j, D i j ∧ zdif l 0 i j ∧ 3 ≤ zN l i ∧ x = zclr (zK l i) (zN l i - 1)
def zseD (l : List (Nat × Nat)) (D : Nat → Nat → Prop) (x b : Nat) : Prop := ∃ i j, D i j ∧ zdif l 0 i j ∧ 3 ≤ zN l i ∧ x = zclr (zK l i) (zN l i - 1) ∧ (b = zS l 0 i ∨ b = zS l 0 j)
def zinc (m : Nat) (st : Nat → Nat) : Prop := ∀ i j, i < j → j < m → st i < st j
def stmC (m : Nat) (st : Nat → Nat) (E : Nat → Nat → Prop) (C : ZMem) : Prop := zinc m st ∧ m ≤ 60 ∧ (∀ i, i < m → st i < 34359738368) ∧ C.1 34 8 = zI m ∧ ∀ i, i < m → C.2 39 i = zJ (st i) ∧ zMk (C.1 40 i) 20 (E (st i))
theorem zinc_ne {m : Nat} {st : Nat → Nat} (h : zinc m st) {i j : Nat} (hi : i < m) (hj : j < m) (hij : i ≠ j) : st i ≠ st j := by
  rcases Nat.lt_or_gt_of_ne hij with hc | hc
  · have := h i j hc hj
    omega
  · have := h j i hc hi
    omega
theorem zsum_one {n : Nat} {P : Nat → Prop} (h : ∀ i j, i < n → j < n → P i → P j → i = j) : zsum n (fun i => zb (P i)) ≤ 1 := by
  induction n with
  | zero => exact Nat.zero_le 1
  | succ n ih =>
    rw [zsum_s]
    by_cases hp : P n
    · have : zsum n (fun i => zb (P i)) = 0 := zsum_zero (fun i hi => zb_f (fun hpi => by have := h i n (by omega) (by omega) hpi hp; omega))
      have := zb_le (P n)
      omega
    · have := ih (fun i j hi hj => h i j (by omega) (by omega))
      rw [zb_f hp]
      omega
theorem zsum_two {n : Nat} {P : Nat → Prop} {i j : Nat} (hij : i < j) (hj : j < n) (hi : P i) (hpj : P j) : 2 ≤ zsum n (fun i => zb (P i)) := by
  have h1 : zsum n (fun k => zb (P k)) = zsum j (fun k => zb (P k)) + zsum (n - j) (fun k => zb (P (j + k))) := by
    have := zsum_app j (n - j) (fun k => zb (P k))
    rwa [show j + (n - j) = n by omega] at this
  have h2 := zsum_pos (f := fun k => zb (P k)) hij
  have h3 := zsum_pos (n := n - j) (f := fun k => zb (P (j + k))) (i := 0) (by omega)
  rw [zb_t hi] at h2
  rw [Nat.add_zero, zb_t hpj] at h3
  omega
/-- stems are no more than half as many as words -/
theorem zstem_many {l : List (Nat × Nat)} (h : okL l) {n : Nat} {st : Nat → Nat} (hs : ∀ i j, i < n → j < n → st i = st j → i = j) (hst : ∀ i, i < n → zstem l (st i)) : n ≤ 60 := by
  have h1 : ∀ i, i < n → 2 ≤ zsum l.length (fun w => zb (3 ≤ zN l w ∧ zclr (zK l w) (zN l w - 1) = st i)) := by
    intro i hi
    obtain ⟨a, b, a1, a2, a3, a4, a5⟩ := hst i hi
    refine zsum_two a1 a2 ⟨a4, a5.symm⟩ ⟨by rw [← a3.1]; exact a4, ?_⟩
    have h3 := a3.2.2
    unfold zpos at h3
    rw [if_pos rfl] at h3
    rw [← a3.1, ← h3, a5]
  have h2 : n * 2 ≤ zsum n (fun i => zsum l.length (fun w => zb (3 ≤ zN l w ∧ zclr (zK l w) (zN l w - 1) = st i))) := by
    have : ∀ m, m ≤ n → m * 2 ≤ zsum m (fun i => zsum l.length (fun w => zb (3 ≤ zN l w ∧ zclr (zK l w) (zN l w - 1) = st i))) := by
      intro m
      induction m with
      | zero => intro _; exact Nat.zero_le _
      | succ m ih =>
        intro hm
        have g1 := ih (by omega)
        have g2 := h1 m (by omega)
        rw [zsum_s]
        omega
    exact this n (Nat.le_refl n)
  rw [zsum_swap] at h2
  have h3 : zsum l.length (fun w => zsum n (fun i => zb (3 ≤ zN l w ∧ zclr (zK l w) (zN l w - 1) = st i))) ≤ l.length * 1 := zsum_le (fun w _ => zsum_one (fun i j hi hj p1 p2 => hs i j hi hj (p1.2.symm.trans p2.2)))
  have := h.1
  omega
theorem c_link {c : Nat} {M : ZMem} {P : Nat → Nat → Prop} (h : ∀ a, a < 20 → zMk (M.1 c a) 20 (P a)) {x y : Nat} (hx : x < 20) (hy : y < 20) : zOk (f_X5_link c 20 M (zI x) (zI y)) (fun M' => (∀ a, a < 20 → zMk (M'.1 c a) 20 (fun b => P a b ∨ (x ≠ y ∧ ((a = x ∧ b = y) ∨ (a = y ∧ b = x))))) ∧ zP (fun a _ => a == c) M M') := by
  have pl : ∀ (v : Nat), v < 20 → f_X5_isPlace M (zI v) = some (zI 1) := by
    intro v hv
    unfold f_X5_isPlace
    rw [if_neg (by simp (disch := omega) only [zk_bind, zk_chk, zk_bnd, zk_some, zlp_l, zlp_r, zb_some, zb_bnd, zI_add, zI_sub, zI_mul, zI_neg, zI_le, zI_lt, zI_eq, zI_ix, zI_inI, Int.toNat_natCast, Int.toNat_add, Int.toNat_mul, true_and, and_true]; omega), if_neg (by simp (disch := omega) only [zk_bind, zk_chk, zk_bnd, zk_some, zlp_l, zlp_r, zb_some, zb_bnd, zI_add, zI_sub, zI_mul, zI_neg, zI_le, zI_lt, zI_eq, zI_ix, zI_inI, Int.toNat_natCast, Int.toNat_add, Int.toNat_mul, true_and, and_true]; omega)]
  unfold f_X5_link
  rw [pl x hx, pl y hy, zb_some, if_neg (by decide), zb_some, if_neg (by decide)]
  by_cases he : x = y
  · rw [if_pos (by rw [he]), zk_some]
    exact ⟨fun a ha => zMk_cg (h a ha) (fun b => ⟨Or.inl, fun hh => hh.elim id (fun hh => absurd he hh.1)⟩), zP_rf⟩
  · rw [if_neg (by simp (disch := omega) only [zk_bind, zk_chk, zk_bnd, zk_some, zlp_l, zlp_r, zb_some, zb_bnd, zI_add, zI_sub, zI_mul, zI_neg, zI_le, zI_lt, zI_eq, zI_ix, zI_inI, Int.toNat_natCast, Int.toNat_add, Int.toNat_mul, true_and, and_true]; omega), zI_inI (by omega) (by omega) (by omega), zb_chk, zb_chk, zk_bnd, zI_inI (by omega) (by omega) (by omega), zb_chk, zb_chk, zk_bnd, zk_some, zI_ix (by omega) (by omega), zI_ix (by omega) (by omega), Int.toNat_natCast, Int.toNat_natCast]
    refine ⟨fun a ha => ?_, zP_I (zP_I zP_rf (by simp)) (by simp)⟩
    by_cases c1 : a = y
    · rw [c1, zm_Is, zm_In _ _ _ _ (Ne.symm he)]
      refine zMk_cg (zMk_or (by decide) (h y hy) hx) (fun b => ⟨?_, ?_⟩)
      · rintro (hh | hh)
        · exact Or.inl hh
        · exact Or.inr ⟨he, Or.inr ⟨rfl, hh⟩⟩
      · rintro (hh | ⟨_, ⟨h1, h2⟩ | ⟨_, h2⟩⟩)
        · exact Or.inl hh
        · exact absurd h1.symm he
        · exact Or.inr h2
    · rw [zm_In _ _ _ _ c1]
      by_cases c2 : a = x
      · rw [c2, zm_Is]
        refine zMk_cg (zMk_or (by decide) (h x hx) hy) (fun b => ⟨?_, ?_⟩)
        · rintro (hh | hh)
          · exact Or.inl hh
          · exact Or.inr ⟨he, Or.inl ⟨rfl, hh⟩⟩
        · rintro (hh | ⟨_, ⟨_, h2⟩ | ⟨h1, _⟩⟩)
          · exact Or.inl hh
          · exact Or.inr h2
          · exact absurd h1 he
      · rw [zm_In _ _ _ _ c2]
        refine zMk_cg (h a ha) (fun b => ⟨Or.inl, ?_⟩)
        rintro (hh | ⟨_, ⟨h1, _⟩ | ⟨h1, _⟩⟩)
        · exact hh
        · exact absurd h1 c2
        · exact absurd h1 c1
def zWadd (a k : Nat) : Bool := a == 40 || (a == 34 && k == 8)
theorem c_addEndings {M : ZMem} {m : Nat} {st : Nat → Nat} {E : Nat → Nat → Prop} (h : stmC m st E M) {x : Nat} (hx : x < 34359738368) {bits : Int32} {B : Nat → Prop} (hb : zMk bits 20 B) (hnew : (∀ i, i < m → st i ≠ x) → m < 60) : zOk (f_X2_addEndings M (zJ x) bits) (fun M' => ∃ m' st', stmC m' st' (fun y b => ((∃ i, i < m ∧ st i = y) ∧ E y b) ∨ (y = x ∧ B b)) M' ∧ (∀ y, (∃ i, i < m' ∧ st' i = y) ↔ (∃ i, i < m ∧ st i = y) ∨ y = x) ∧ zP2 zWadd (fun a => a == 39) M M') := by
  obtain ⟨h1, h2, h3, h4, h5⟩ := h
  have hf : ∃ p, p ≤ m ∧ (∀ i, i < p → st i < x) ∧ (p < m → x ≤ st p) := by
    have : ∀ d p, p + d = m → (∀ i, i < p → st i < x) → ∃ p, p ≤ m ∧ (∀ i, i < p → st i < x) ∧ (p < m → x ≤ st p) := by
      intro d
      induction d with
      | zero => exact fun p hp h => ⟨p, by omega, h, fun hl => by omega⟩
      | succ d ih =>
        intro p hp h
        by_cases hc : st p < x
        · refine ih (p + 1) (by omega) (fun i hi => ?_)
          by_cases he : i = p
          · rw [he]; exact hc
          · exact h i (by omega)
        · exact ⟨p, by omega, h, fun _ => by omega⟩
    exact this m 0 (by omega) (fun i hi => absurd hi (Nat.not_lt_zero i))
  obtain ⟨p, p1, p2, p3⟩ := hf
  unfold f_X2_addEndings
  rw [zk_bind]
  refine zOk_for0 (fun i y => y = zI i) p ?_ ?_ rfl
  · rintro i y hi rfl
    have hb1 := h3 i (by omega)
    have := p2 i hi
    unfold f_X2_addEndings_L3
    rw [h4, if_neg (by simp (disch := omega) only [zk_bind, zk_chk, zk_bnd, zk_some, zlp_l, zlp_r, zb_some, zb_bnd, zI_add, zI_sub, zI_mul, zI_neg, zI_le, zI_lt, zI_eq, zI_ix, zI_inI, Int.toNat_natCast, Int.toNat_add, Int.toNat_mul, true_and, and_true]; omega), zI_inI (by omega) (by omega) (by omega), zb_chk, zI_ix (by omega) (by omega), Int.toNat_natCast, (h5 i (by omega)).1, zcmp (by omega) (by omega), if_neg (c := x < st i) (by omega), if_neg (c := st i = x) (by omega), if_neg (by decide)]
    simp (disch := omega) only [zk_bind, zk_chk, zk_bnd, zk_some, zlp_l, zlp_r, zb_some, zb_bnd, zI_add, zI_sub, zI_mul, zI_neg, zI_le, zI_lt, zI_eq, zI_ix, zI_inI, Int.toNat_natCast, Int.toNat_add, Int.toNat_mul, true_and, and_true]
    exact (by first | omega | exact zI_inj (by omega))
  rintro y rfl
  have fresh : ¬ (p < m ∧ st p = x) → zOk (f_X2_addEndings_65 M (zJ x) bits (zI p)) (fun M' => ∃ m' st', stmC m' st' (fun y b => ((∃ i, i < m ∧ st i = y) ∧ E y b) ∨ (y = x ∧ B b)) M' ∧ (∀ y, (∃ i, i < m' ∧ st' i = y) ↔ (∃ i, i < m ∧ st i = y) ∨ y = x) ∧ zP2 zWadd (fun a => a == 39) M M') := by
    intro hn
    have hne : ∀ i, i < m → st i ≠ x := by
      intro i hi he
      by_cases c1 : i < p
      · have := p2 i c1; omega
      · by_cases c2 : i = p
        · exact hn ⟨by omega, by rw [← c2]; exact he⟩
        · have a1 := p3 (by omega)
          have a2 := h1 p i (by omega) hi
          omega
    have hm60 := hnew hne
    have hgt : p < m → x < st p := fun hp => by have := p3 hp; have := hne p hp; omega
    unfold f_X2_addEndings_65
    rw [h4, if_neg (by simp (disch := omega) only [zk_bind, zk_chk, zk_bnd, zk_some, zlp_l, zlp_r, zb_some, zb_bnd, zI_add, zI_sub, zI_mul, zI_neg, zI_le, zI_lt, zI_eq, zI_ix, zI_inI, Int.toNat_natCast, Int.toNat_add, Int.toNat_mul, true_and, and_true]; omega), zI_add, zI_sub, zcpI (by omega) (by omega) (by omega) (by omega) (by omega) (by omega) (by omega), zb_chk, zk_bnd, zm_G1, h4, zI_sub, zcpI (by omega) (by omega) (by omega) (by omega) (by omega) (by omega) (by omega), zb_chk, zk_bnd, zI_inI (by omega) (by omega) (by omega), zb_chk, zk_bnd, zb_chk, zk_bnd, zk_bnd, zk_some, zI_ix (by omega) (by omega), zI_ix (by omega) (by omega), zI_ix (by omega) (by omega), Int.toNat_natCast, show ((p : Int) + 1).toNat = p + 1 by omega, show ((m : Int) - p).toNat = m - p by omega]
    refine ⟨m + 1, fun i => if i < p then st i else if i = p then x else st (i - 1), ⟨?_, by omega, ?_, ?_, ?_⟩, ?_, ?_⟩
    · intro i j hij hj
      dsimp only
      by_cases c1 : j < p
      · rw [if_pos c1, if_pos (by omega)]
        exact h1 i j hij (by omega)
      · rw [if_neg c1]
        by_cases c2 : j = p
        · rw [if_pos c2, if_pos (by omega)]
          exact p2 i (by omega)
        · have hk : x < st (j - 1) := by
            by_cases c3 : j - 1 = p
            · rw [c3]; exact hgt (by omega)
            · have a1 := hgt (by omega)
              have a2 := h1 p (j - 1) (by omega) (by omega)
              omega
          rw [if_neg c2]
          by_cases c4 : i < p
          · rw [if_pos c4]
            have := p2 i c4
            omega
          · rw [if_neg c4]
            by_cases c5 : i = p
            · rw [if_pos c5]; exact hk
            · rw [if_neg c5]
              exact h1 (i - 1) (j - 1) (by omega) (by omega)
    · intro i hi
      dsimp only
      split
      · exact h3 i (by omega)
      · split
        · exact hx
        · exact h3 (i - 1) (by omega)
    · rw [zm_Is, zm_Iq _ _ _ _ (by decide), zm_L1, zm_Fq _ _ _ (by decide), zm_G1, h4, zI_add]
      exact zI_inj (by omega)
    · intro i hi
      dsimp only
      have old : ∀ k, k < m → zMk (M.1 40 k) 20 (fun b => ((∃ i, i < m ∧ st i = st k) ∧ E (st k) b) ∨ (st k = x ∧ B b)) := fun k hk => zMk_cg (h5 k hk).2 (fun b => ⟨fun hh => Or.inl ⟨⟨k, hk, rfl⟩, hh⟩, fun hh => hh.elim (fun hh => hh.2) (fun hh => absurd hh.1 (hne k hk))⟩)
      constructor
      · rw [zm_I2, zm_I2, zm_L]
        by_cases c1 : i = p
        · rw [if_pos ⟨rfl, c1⟩, if_neg (by omega), if_pos c1]
        · rw [if_neg (fun hh => c1 hh.2), zm_F2, zm_Gs]
          unfold va_cpy
          by_cases c2 : i < p
          · rw [if_pos c2, if_neg (by omega)]
            exact (h5 i (by omega)).1
          · rw [if_neg c2, if_neg c1, if_pos (by omega), show p + (i - (p + 1)) = i - 1 by omega]
            exact (h5 (i - 1) (by omega)).1
      · rw [zm_Iq _ _ _ _ (by decide)]
        by_cases c1 : i = p
        · rw [c1, zm_Is, if_neg (by omega), if_pos rfl]
          refine zMk_cg hb (fun b => ⟨fun hh => Or.inr ⟨rfl, hh⟩, fun hh => hh.elim (fun hh => ?_) (fun hh => hh.2)⟩)
          obtain ⟨⟨k, k1, k2⟩, _⟩ := hh
          exact absurd k2 (hne k k1)
        · rw [zm_In _ _ _ _ c1, zm_L1, zm_Fs]
          unfold va_cpy
          by_cases c2 : i < p
          · rw [if_pos c2, if_neg (by omega)]
            exact old i (by omega)
          · rw [if_neg c2, if_neg c1, if_pos (by omega), show p + (i - (p + 1)) = i - 1 by omega]
            exact old (i - 1) (by omega)
    · intro y
      constructor
      · rintro ⟨i, i1, i2⟩
        dsimp only at i2
        by_cases c1 : i < p
        · rw [if_pos c1] at i2
          exact Or.inl ⟨i, by omega, i2⟩
        · rw [if_neg c1] at i2
          by_cases c2 : i = p
          · rw [if_pos c2] at i2
            exact Or.inr i2.symm
          · rw [if_neg c2] at i2
            exact Or.inl ⟨i - 1, by omega, i2⟩
      · rintro (⟨i, i1, i2⟩ | hy)
        · by_cases c1 : i < p
          · exact ⟨i, by omega, by dsimp only; rw [if_pos c1]; exact i2⟩
          · exact ⟨i + 1, by omega, by dsimp only; rw [if_neg (by omega), if_neg (by omega), Nat.add_sub_cancel]; exact i2⟩
        · exact ⟨p, by omega, by dsimp only; rw [if_neg (by omega), if_pos rfl]; exact hy.symm⟩
    · exact zP2_I (zP2_I (zP2_L (zP2_F (zP2_G zP2_rf rfl) (fun k => rfl)) rfl) rfl) rfl
  unfold f_X2_addEndings_L3
  rw [h4]
  by_cases hp : p < m
  · have hb1 := h3 p hp
    have h6 := p3 hp
    rw [if_neg (by simp (disch := omega) only [zk_bind, zk_chk, zk_bnd, zk_some, zlp_l, zlp_r, zb_some, zb_bnd, zI_add, zI_sub, zI_mul, zI_neg, zI_le, zI_lt, zI_eq, zI_ix, zI_inI, Int.toNat_natCast, Int.toNat_add, Int.toNat_mul, true_and, and_true]; omega), zI_inI (by omega) (by omega) (by omega), zb_chk, zI_ix (by omega) (by omega), Int.toNat_natCast, (h5 p hp).1, zcmp (by omega) (by omega), if_pos (by split <;> (try split) <;> first | decide | omega), zk_some, zlp_r, if_neg (by simp (disch := omega) only [zk_bind, zk_chk, zk_bnd, zk_some, zlp_l, zlp_r, zb_some, zb_bnd, zI_add, zI_sub, zI_mul, zI_neg, zI_le, zI_lt, zI_eq, zI_ix, zI_inI, Int.toNat_natCast, Int.toNat_add, Int.toNat_mul, true_and, and_true]; omega), zI_inI (by omega) (by omega) (by omega), zb_chk, zb_chk, zb_chk, zI_ix (by omega) (by omega), Int.toNat_natCast, (h5 p hp).1, zcmp (by omega) (by omega)]
    by_cases he : st p = x
    · rw [if_neg (c := x < st p) (by omega), if_pos he, if_pos (by decide), zk_bnd, zk_some]
      refine ⟨m, st, ⟨h1, h2, h3, by rw [zm_Iq _ _ _ _ (by decide)]; exact h4, fun i hi => ⟨by rw [zm_I2]; exact (h5 i hi).1, ?_⟩⟩, fun y => ⟨Or.inl, fun hh => hh.elim id (fun hh => ⟨p, hp, by rw [he, hh]⟩)⟩, zP2_I zP2_rf rfl⟩
      by_cases c1 : i = p
      · rw [c1, zm_Is]
        refine zMk_cg (zMk_oo (by decide) (h5 p hp).2 hb) (fun b => ⟨?_, ?_⟩)
        · rintro (hh | hh)
          · exact Or.inl ⟨⟨p, hp, rfl⟩, hh⟩
          · exact Or.inr ⟨he, hh⟩
        · rintro (hh | hh)
          · exact Or.inl hh.2
          · exact Or.inr hh.2
      · rw [zm_In _ _ _ _ c1]
        exact zMk_cg (h5 i hi).2 (fun b => ⟨fun hh => Or.inl ⟨⟨i, hi, rfl⟩, hh⟩, fun hh => hh.elim (fun hh => hh.2) (fun hh => absurd (hh.1.trans he.symm) (zinc_ne h1 hi hp c1))⟩)
    · rw [if_pos (c := x < st p) (by omega), if_neg (by decide)]
      exact fresh (fun hh => he hh.2)
  · rw [if_pos (by simp (disch := omega) only [zk_bind, zk_chk, zk_bnd, zk_some, zlp_l, zlp_r, zb_some, zb_bnd, zI_add, zI_sub, zI_mul, zI_neg, zI_le, zI_lt, zI_eq, zI_ix, zI_inI, Int.toNat_natCast, Int.toNat_add, Int.toNat_mul, true_and, and_true]; omega), zk_some, zlp_r, if_pos (by simp (disch := omega) only [zk_bind, zk_chk, zk_bnd, zk_some, zlp_l, zlp_r, zb_some, zb_bnd, zI_add, zI_sub, zI_mul, zI_neg, zI_le, zI_lt, zI_eq, zI_ix, zI_inI, Int.toNat_natCast, Int.toNat_add, Int.toNat_mul, true_and, and_true]; omega)]
    exact fresh (fun hh => hp hh.1)
