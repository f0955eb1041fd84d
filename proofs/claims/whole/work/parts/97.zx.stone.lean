/-! ===== stones told ===== deps: 97.zw.name -/
abbrev ZQ := (Nat × Nat × Nat × Nat) × (Nat → Nat) × (Nat → Nat) × (Nat → Nat) × (Nat → Nat)
abbrev qr (z : ZQ) : Nat := z.1.1
abbrev ql (z : ZQ) : Nat := z.1.2.1
abbrev qn (z : ZQ) : Nat := z.1.2.2.1
abbrev qe (z : ZQ) : Nat := z.1.2.2.2
abbrev qL (z : ZQ) : Nat → Nat := z.2.1
abbrev qN (z : ZQ) : Nat → Nat := z.2.2.1
abbrev qE (z : ZQ) : Nat → Nat := z.2.2.2.1
abbrev qX (z : ZQ) : Nat → Nat := z.2.2.2.2
def zup (f : Nat → Nat) (i v : Nat) : Nat → Nat := fun j => if j = i then v else f j
theorem zup_s (f : Nat → Nat) (i v : Nat) : zup f i v i = v := if_pos rfl
theorem zup_n {f : Nat → Nat} {i v j : Nat} (h : j ≠ i) : zup f i v j = f j := if_neg h
/-- the row is closed -/
def zqc (S : Nat) (z : ZQ) : ZQ := ((qr z + 1, 0, 0, 0), zup (qL z) (4 * S + qr z) (ql z), zup (qN z) (4 * S + qr z) (qn z), zup (qE z) (4 * S + qr z) (qe z), qX z)
def zq1 (S : Nat) (b : Int) (z : ZQ) : ZQ := if b = 47 then zqc S z else if b = 46 then (if qn z = 0 then ((qr z, ql z + 1, qn z, qe z), z.2) else ((qr z, ql z, qn z, qe z + 1), z.2)) else ((qr z, ql z, qn z + 1, qe z), qL z, qN z, qE z, zup (qX z) (10 * (4 * S + qr z) + qn z) (b - 97).toNat)
def zqs (S : Nat) (t : List Nat) (z0 : ZQ) : Nat → ZQ
  | 0 => z0
  | i + 1 => zq1 S (zch t i) (zqs S t z0 i)
def zqm (z : ZQ) : Prop := 4 ≤ qr z ∨ 10 ≤ ql z + qn z + qe z
def zqf (F : Nat) (b : Int) (z : ZQ) (k : Nat) : Prop := ((b = -1 ∨ b = 47) ∧ k = if qn z = 0 then 1 else 0) ∨ (b = 46 ∧ ((zqm z ∧ k = 3) ∨ (¬ zqm z ∧ k = 0))) ∨ ((b ≠ -1 ∧ b ≠ 47 ∧ b ≠ 46) ∧ ((¬ ((97 ≤ b ∧ b ≤ 122) ∧ qe z = 0) ∧ k = 1) ∨ (((97 ≤ b ∧ b ≤ 122) ∧ qe z = 0) ∧ ((97 + (F : Int) ≤ b ∧ k = 2) ∨ (b < 97 + F ∧ ((zqm z ∧ k = 3) ∨ (¬ zqm z ∧ k = 0)))))))
theorem zqf_one {F : Nat} {b : Int} {z : ZQ} {k k' : Nat} (h : zqf F b z k) (h' : zqf F b z k') : k = k' := by
  unfold zqf at h h'
  rcases h with ⟨a, h⟩ | ⟨a, h⟩ | ⟨a, h⟩ <;> rcases h' with ⟨a', h'⟩ | ⟨a', h'⟩ | ⟨a', h'⟩
  · rw [h, h']
  · omega
  · omega
  · omega
  · rcases h with h | h <;> rcases h' with h' | h'
    · omega
    · exact absurd h.1 h'.1
    · exact absurd h'.1 h.1
    · omega
  · omega
  · omega
  · omega
  · rcases h with h | ⟨c, h⟩ <;> rcases h' with h' | ⟨c', h'⟩
    · omega
    · exact absurd c' h.1
    · exact absurd c h'.1
    · rcases h with h | ⟨d, h⟩ <;> rcases h' with h' | ⟨d', h'⟩
      · omega
      · omega
      · omega
      · rcases h with h | h <;> rcases h' with h' | h'
        · omega
        · exact absurd h.1 h'.1
        · exact absurd h'.1 h.1
        · omega
theorem zqf_le {F : Nat} {b : Int} {z : ZQ} {k : Nat} (h : zqf F b z k) : k ≤ 3 := by
  unfold zqf at h
  rcases h with ⟨_, h⟩ | ⟨_, h⟩ | ⟨_, h⟩
  · rw [h]; split <;> omega
  · omega
  · omega
/-- all went well so far -/
def zqw (F S : Nat) (t : List Nat) (z0 : ZQ) (i : Nat) : Prop := i ≤ t.length ∧ ∀ j, j < i → zqf F (zch t j) (zqs S t z0 j) 0
def zqft (F S : Nat) (t : List Nat) (z0 : ZQ) (f : Nat) : Prop := ∃ i k, zqw F S t z0 i ∧ k ≠ 0 ∧ zqf F (zch t i) (zqs S t z0 i) k ∧ f = 8 * i + k
def zqok (F S : Nat) (t : List Nat) (z0 : ZQ) : Prop := zqw F S t z0 t.length ∧ zqf F (-1) (zqs S t z0 t.length) 0
theorem zqft_one {F S : Nat} {t : List Nat} {z0 : ZQ} {f f' : Nat} (h : zqft F S t z0 f) (h' : zqft F S t z0 f') : f = f' := by
  obtain ⟨i, k, h1, h2, h3, h4⟩ := h
  obtain ⟨j, m, g1, g2, g3, g4⟩ := h'
  rcases Nat.lt_trichotomy i j with hc | hc | hc
  · exact absurd (zqf_one h3 (g1.2 i hc)) h2
  · subst hc
    rw [h4, g4, zqf_one h3 g3]
  · exact absurd (zqf_one g3 (h1.2 j hc)) g2
theorem zqft_ok {F S : Nat} {t : List Nat} {z0 : ZQ} {f : Nat} (h : zqft F S t z0 f) (h' : zqok F S t z0) : False := by
  obtain ⟨i, k, h1, h2, h3, h4⟩ := h
  by_cases hi : i = t.length
  · rw [hi, zch_e (Nat.le_refl _)] at h3
    exact h2 (zqf_one h3 h'.2)
  · exact h2 (zqf_one h3 (h'.1.2 i (by have := h1.1; omega)))
theorem zqft_lt {F S : Nat} {t : List Nat} {z0 : ZQ} {f : Nat} (hl : t.length ≤ 300) (h : zqft F S t z0 f) : f < 2500 := by
  obtain ⟨i, k, h1, h2, h3, h4⟩ := h
  have := zqf_le h3
  have := h1.1
  omega
/-- a row is at most ten places, rows at most four -/
def zqb (F S : Nat) (z : ZQ) : Prop := qr z ≤ 4 ∧ ql z + qn z + qe z ≤ 10 ∧ (qr z = 4 → ql z + qn z + qe z = 0) ∧ (qn z = 0 → qe z = 0) ∧ (∀ r, r < qr z → 1 ≤ qN z (4 * S + r) ∧ qL z (4 * S + r) + qN z (4 * S + r) + qE z (4 * S + r) ≤ 10 ∧ ∀ k, k < qN z (4 * S + r) → qX z (10 * (4 * S + r) + k) < F) ∧ ∀ k, k < qn z → qX z (10 * (4 * S + qr z) + k) < F
theorem zqb_s {F S : Nat} {b : Int} {z : ZQ} (h : zqb F S z) (hf : zqf F b z 0) (hb : b ≠ -1) : zqb F S (zq1 S b z) := by
  obtain ⟨h1, h2, h3, h4, h5, h6⟩ := h
  unfold zqf at hf
  unfold zq1
  by_cases c1 : b = 47
  · rw [if_pos c1]
    have hn : qn z ≠ 0 := by
      rcases hf with ⟨_, hf⟩ | ⟨_, _⟩ | ⟨_, _⟩
      · intro hh
        rw [if_pos hh] at hf
        omega
      · omega
      · omega
    have hr : qr z ≠ 4 := fun hh => by have := h3 hh; omega
    refine ⟨show qr z + 1 ≤ 4 by omega, show 0 + 0 + 0 ≤ 10 by omega, fun _ => rfl, fun _ => rfl, fun r hr' => ?_, fun k hk => absurd hk (Nat.not_lt_zero k)⟩
    have hr2 : r < qr z + 1 := hr'
    show 1 ≤ zup (qN z) (4 * S + qr z) (qn z) (4 * S + r) ∧ zup (qL z) (4 * S + qr z) (ql z) (4 * S + r) + zup (qN z) (4 * S + qr z) (qn z) (4 * S + r) + zup (qE z) (4 * S + qr z) (qe z) (4 * S + r) ≤ 10 ∧ ∀ k, k < zup (qN z) (4 * S + qr z) (qn z) (4 * S + r) → qX z (10 * (4 * S + r) + k) < F
    by_cases hrr : r = qr z
    · rw [hrr, zup_s, zup_s, zup_s]
      exact ⟨by omega, h2, h6⟩
    · rw [zup_n (by omega), zup_n (by omega), zup_n (by omega)]
      exact h5 r (by omega)
  · rw [if_neg c1]
    by_cases c2 : b = 46
    · have hm : ¬ zqm z := by
        rcases hf with ⟨_, _⟩ | ⟨_, hf⟩ | ⟨_, _⟩
        · omega
        · rcases hf with hf | hf
          · omega
          · exact hf.1
        · omega
      unfold zqm at hm
      rw [if_pos c2]
      by_cases c3 : qn z = 0
      · rw [if_pos c3]
        exact ⟨h1, show ql z + 1 + qn z + qe z ≤ 10 by omega, fun hh => by have : qr z = 4 := hh; omega, h4, h5, h6⟩
      · rw [if_neg c3]
        exact ⟨h1, show ql z + qn z + (qe z + 1) ≤ 10 by omega, fun hh => by have : qr z = 4 := hh; omega, fun hh => absurd hh c3, h5, h6⟩
    · rw [if_neg c2]
      have hm : (97 ≤ b ∧ qe z = 0 ∧ b < 97 + (F : Int)) ∧ ¬ zqm z := by
        rcases hf with ⟨_, _⟩ | ⟨_, _⟩ | ⟨_, hf⟩
        · omega
        · omega
        · rcases hf with hf | ⟨hf1, hf⟩
          · omega
          · rcases hf with hf | ⟨hf2, hf⟩
            · omega
            · rcases hf with hf | hf
              · omega
              · exact ⟨by omega, hf.1⟩
      obtain ⟨⟨m1, m2, m3⟩, hm⟩ := hm
      unfold zqm at hm
      refine ⟨h1, show ql z + (qn z + 1) + qe z ≤ 10 by omega, fun hh => by have : qr z = 4 := hh; omega, fun hh => absurd hh (Nat.succ_ne_zero _), fun r hr' => ?_, fun k hk => ?_⟩
      · have hr2 : r < qr z := hr'
        obtain ⟨g1, g2, g3⟩ := h5 r hr2
        refine ⟨g1, g2, fun k hk => ?_⟩
        have hk2 : k < qN z (4 * S + r) := hk
        show zup (qX z) (10 * (4 * S + qr z) + qn z) (b - 97).toNat (10 * (4 * S + r) + k) < F
        rw [zup_n (by omega)]
        exact g3 k hk2
      · have hk2 : k < qn z + 1 := hk
        show zup (qX z) (10 * (4 * S + qr z) + qn z) (b - 97).toNat (10 * (4 * S + qr z) + k) < F
        by_cases hkn : k = qn z
        · rw [hkn, zup_s]
          omega
        · rw [zup_n (by omega)]
          exact h6 k (by omega)
theorem zqb_i {F S : Nat} {t : List Nat} {z0 : ZQ} (h0 : zqb F S z0) : ∀ i, zqw F S t z0 i → zqb F S (zqs S t z0 i) := by
  intro i
  induction i with
  | zero => intro _; exact h0
  | succ i ih =>
    intro h
    refine zqb_s (ih ⟨by have := h.1; omega, fun j hj => h.2 j (by omega)⟩) (h.2 i (by omega)) ?_
    rw [zch_l (by have := h.1; omega)]
    omega
-- the class
def zWsn (S : Nat) (a k : Nat) : Bool := (a == 11 && (k == 5 || k == 6 || k == 7 || k == 8 || k == 9)) || (a == 12 && 40 * S ≤ k) || ((a == 13 || a == 14 || a == 15) && 4 * S ≤ k) || (a == 16 && k == S)
def zqR (S : Nat) (z : ZQ) (M : ZMem) : Prop := ∀ r, r < qr z → M.1 13 (4 * S + r) = zI (qN z (4 * S + r)) ∧ M.1 14 (4 * S + r) = zI (qL z (4 * S + r)) ∧ M.1 15 (4 * S + r) = zI (qE z (4 * S + r)) ∧ ∀ k, k < qN z (4 * S + r) → M.1 12 (10 * (4 * S + r) + k) = zI (qX z (10 * (4 * S + r) + k))
def zqC (S : Nat) (z : ZQ) (M : ZMem) : Prop := (M.1 11 5 = zI S ∧ M.1 11 6 = zI (qr z) ∧ M.1 11 7 = zI (qn z) ∧ M.1 11 8 = zI (ql z) ∧ M.1 11 9 = zI (qe z)) ∧ zqR S z M ∧ ∀ k, k < qn z → M.1 12 (10 * (4 * S + qr z) + k) = zI (qX z (10 * (4 * S + qr z) + k))
theorem c_faultOf {M : ZMem} {F S : Nat} {z : ZQ} (hF : F ≤ 20) (hz : zqb F S z) (h : zqC S z M) {b : Int} (b1 : -1 ≤ b) (b2 : b < 256) : ∃ k, f_X7_faultOf M (zI b) (zI F) = some (zI ((k : Nat) : Int)) ∧ zqf F b z k := by
  obtain ⟨⟨h5, h6, h7, h8, h9⟩, _, _⟩ := h
  obtain ⟨z1, z2, _, _, _, _⟩ := hz
  have f11 : (b = -1 ∨ b = 47) → ∃ k, f_X7_faultOf_11 M = some (zI ((k : Nat) : Int)) ∧ zqf F b z k := by
    intro hb
    unfold f_X7_faultOf_11
    rw [h7]
    refine ⟨if qn z = 0 then 1 else 0, ?_, Or.inl ⟨hb, rfl⟩⟩
    by_cases hn : qn z = 0
    · rw [if_pos (by rw [hn]; rfl), if_pos hn]; rfl
    · rw [if_neg (by simp (disch := omega) only [zk_bind, zk_chk, zk_bnd, zk_some, zlp_l, zlp_r, zb_some, zb_bnd, zI_add, zI_sub, zI_mul, zI_neg, zI_le, zI_lt, zI_eq, zI_ix, zI_inI, Int.toNat_natCast, Int.toNat_add, Int.toNat_mul, true_and, and_true]; omega), if_neg hn]; rfl
  have f56 : ∀ v : Prop, (v ↔ zqm z) → b ≠ -1 → b ≠ 47 → ∃ k, f_X7_faultOf_56 M (zI b) (zI F) (zI (zb v)) = some (zI ((k : Nat) : Int)) ∧ zqf F b z k := by
    intro v hv hb1 hb2
    unfold f_X7_faultOf_56
    by_cases h46 : b = 46
    · rw [if_pos (by rw [h46])]
      by_cases hvv : v
      · rw [if_neg (fun hh => zb_0.mp hh hvv)]
        exact ⟨3, rfl, Or.inr (Or.inl ⟨h46, Or.inl ⟨hv.mp hvv, rfl⟩⟩)⟩
      · rw [if_pos (zb_0.mpr hvv)]
        exact ⟨0, rfl, Or.inr (Or.inl ⟨h46, Or.inr ⟨fun hh => hvv (hv.mpr hh), rfl⟩⟩)⟩
    · rw [if_neg (by simp (disch := omega) only [zk_bind, zk_chk, zk_bnd, zk_some, zlp_l, zlp_r, zb_some, zb_bnd, zI_add, zI_sub, zI_mul, zI_neg, zI_le, zI_lt, zI_eq, zI_ix, zI_inI, Int.toNat_natCast, Int.toNat_add, Int.toNat_mul, true_and, and_true]; omega), c_letterOf b1 b2, zb_some, h9]
      have hne : b ≠ -1 ∧ b ≠ 47 ∧ b ≠ 46 := ⟨hb1, hb2, h46⟩
      by_cases hl : 97 ≤ b ∧ b ≤ 122
      · rw [if_pos hl, if_neg (by simp (disch := omega) only [zk_bind, zk_chk, zk_bnd, zk_some, zlp_l, zlp_r, zb_some, zb_bnd, zI_add, zI_sub, zI_mul, zI_neg, zI_le, zI_lt, zI_eq, zI_ix, zI_inI, Int.toNat_natCast, Int.toNat_add, Int.toNat_mul, true_and, and_true]; omega)]
        by_cases he : qe z = 0
        · rw [if_pos (by simp (disch := omega) only [zk_bind, zk_chk, zk_bnd, zk_some, zlp_l, zlp_r, zb_some, zb_bnd, zI_add, zI_sub, zI_mul, zI_neg, zI_le, zI_lt, zI_eq, zI_ix, zI_inI, Int.toNat_natCast, Int.toNat_add, Int.toNat_mul, true_and, and_true]; omega)]
          by_cases hF2 : b < 97 + (F : Int)
          · rw [if_pos (by simp (disch := omega) only [zk_bind, zk_chk, zk_bnd, zk_some, zlp_l, zlp_r, zb_some, zb_bnd, zI_add, zI_sub, zI_mul, zI_neg, zI_le, zI_lt, zI_eq, zI_ix, zI_inI, Int.toNat_natCast, Int.toNat_add, Int.toNat_mul, true_and, and_true]; omega)]
            by_cases hvv : v
            · rw [if_neg (fun hh => zb_0.mp hh hvv)]
              exact ⟨3, rfl, Or.inr (Or.inr ⟨hne, Or.inr ⟨⟨hl, he⟩, Or.inr ⟨hF2, Or.inl ⟨hv.mp hvv, rfl⟩⟩⟩⟩)⟩
            · rw [if_pos (zb_0.mpr hvv)]
              exact ⟨0, rfl, Or.inr (Or.inr ⟨hne, Or.inr ⟨⟨hl, he⟩, Or.inr ⟨hF2, Or.inr ⟨fun hh => hvv (hv.mpr hh), rfl⟩⟩⟩⟩)⟩
          · rw [if_neg (by simp (disch := omega) only [zk_bind, zk_chk, zk_bnd, zk_some, zlp_l, zlp_r, zb_some, zb_bnd, zI_add, zI_sub, zI_mul, zI_neg, zI_le, zI_lt, zI_eq, zI_ix, zI_inI, Int.toNat_natCast, Int.toNat_add, Int.toNat_mul, true_and, and_true]; omega)]
            exact ⟨2, rfl, Or.inr (Or.inr ⟨hne, Or.inr ⟨⟨hl, he⟩, Or.inl ⟨by omega, rfl⟩⟩⟩)⟩
        · rw [if_neg (by simp (disch := omega) only [zk_bind, zk_chk, zk_bnd, zk_some, zlp_l, zlp_r, zb_some, zb_bnd, zI_add, zI_sub, zI_mul, zI_neg, zI_le, zI_lt, zI_eq, zI_ix, zI_inI, Int.toNat_natCast, Int.toNat_add, Int.toNat_mul, true_and, and_true]; omega)]
          exact ⟨1, rfl, Or.inr (Or.inr ⟨hne, Or.inl ⟨fun hh => he hh.2, rfl⟩⟩)⟩
      · rw [if_neg hl, if_pos rfl]
        exact ⟨1, rfl, Or.inr (Or.inr ⟨hne, Or.inl ⟨fun hh => hl hh.1, rfl⟩⟩)⟩
  unfold f_X7_faultOf f_X7_faultOf_51
  by_cases c1 : b = -1
  · rw [if_pos (by rw [c1])]
    exact f11 (Or.inl c1)
  · rw [if_neg (by simp (disch := omega) only [zk_bind, zk_chk, zk_bnd, zk_some, zlp_l, zlp_r, zb_some, zb_bnd, zI_add, zI_sub, zI_mul, zI_neg, zI_le, zI_lt, zI_eq, zI_ix, zI_inI, Int.toNat_natCast, Int.toNat_add, Int.toNat_mul, true_and, and_true]; omega)]
    by_cases c2 : b = 47
    · rw [if_pos (by rw [c2])]
      exact f11 (Or.inr c2)
    · rw [if_neg (by simp (disch := omega) only [zk_bind, zk_chk, zk_bnd, zk_some, zlp_l, zlp_r, zb_some, zb_bnd, zI_add, zI_sub, zI_mul, zI_neg, zI_le, zI_lt, zI_eq, zI_ix, zI_inI, Int.toNat_natCast, Int.toNat_add, Int.toNat_mul, true_and, and_true]; omega), h6, h8, h7, h9, zI_add, zI_add]
      have t1 := f56 True
      have t0 := f56 False
      rw [zb_t trivial] at t1
      rw [zb_f (fun h => h)] at t0
      by_cases c3 : 4 ≤ qr z
      · rw [if_pos (by simp (disch := omega) only [zk_bind, zk_chk, zk_bnd, zk_some, zlp_l, zlp_r, zb_some, zb_bnd, zI_add, zI_sub, zI_mul, zI_neg, zI_le, zI_lt, zI_eq, zI_ix, zI_inI, Int.toNat_natCast, Int.toNat_add, Int.toNat_mul, true_and, and_true]; omega)]
        exact t1 ⟨fun _ => Or.inl c3, fun _ => trivial⟩ c1 c2
      · rw [if_neg (by simp (disch := omega) only [zk_bind, zk_chk, zk_bnd, zk_some, zlp_l, zlp_r, zb_some, zb_bnd, zI_add, zI_sub, zI_mul, zI_neg, zI_le, zI_lt, zI_eq, zI_ix, zI_inI, Int.toNat_natCast, Int.toNat_add, Int.toNat_mul, true_and, and_true]; omega)]
        by_cases c4 : ql z + qn z + qe z < 10
        · rw [if_pos (by simp (disch := omega) only [zk_bind, zk_chk, zk_bnd, zk_some, zlp_l, zlp_r, zb_some, zb_bnd, zI_add, zI_sub, zI_mul, zI_neg, zI_le, zI_lt, zI_eq, zI_ix, zI_inI, Int.toNat_natCast, Int.toNat_add, Int.toNat_mul, true_and, and_true]; omega)]
          exact t0 ⟨False.elim, fun hh => by unfold zqm at hh; omega⟩ c1 c2
        · rw [if_neg (by simp (disch := omega) only [zk_bind, zk_chk, zk_bnd, zk_some, zlp_l, zlp_r, zb_some, zb_bnd, zI_add, zI_sub, zI_mul, zI_neg, zI_le, zI_lt, zI_eq, zI_ix, zI_inI, Int.toNat_natCast, Int.toNat_add, Int.toNat_mul, true_and, and_true]; omega)]
          exact t1 ⟨fun _ => Or.inr (by omega), fun _ => trivial⟩ c1 c2
theorem c_closeRow {M : ZMem} {S : Nat} {z : ZQ} (hS : S < 6) (hr : qr z < 4) (h : zqC S z M) : zOk (f_X7_closeRow M) (fun M' => M'.1 11 6 = zI ((qr z + 1 : Nat) : Int) ∧ M'.1 11 5 = zI S ∧ zqR S (zqc S z) M' ∧ zP (zWsn S) M M') := by
  obtain ⟨⟨h5, h6, h7, h8, h9⟩, hR, hX⟩ := h
  unfold f_X7_closeRow f_X7_closeRow_48
  simp (disch := omega) only [zk_chk, zk_bnd, zk_some, zm_Iq, h5, h6, h7, h8, h9, zI_mul, zI_add]
  rw [if_neg (by simp (disch := omega) only [zk_bind, zk_chk, zk_bnd, zk_some, zlp_l, zlp_r, zb_some, zb_bnd, zI_add, zI_sub, zI_mul, zI_neg, zI_le, zI_lt, zI_eq, zI_ix, zI_inI, Int.toNat_natCast, Int.toNat_add, Int.toNat_mul, true_and, and_true]; omega)]
  simp (disch := omega) only [zk_chk, zk_bnd, zk_some, zm_Iq, h5, h6, h7, h8, h9, zI_ix, zI_inI, true_and, zI_add, show ((S : Int) * 4 + (qr z : Int)).toNat = 4 * S + qr z by omega]
  refine ⟨by rw [zm_Is]; exact zI_inj (by omega), by rw [zm_In _ _ _ _ (by decide), zm_Iq _ _ _ _ (by decide), zm_Iq _ _ _ _ (by decide), zm_Iq _ _ _ _ (by decide)]; exact h5, fun r hr' => ?_, zP_I (zP_I (zP_I (zP_I zP_rf (by unfold zWsn; simp)) (by unfold zWsn; simp)) (by unfold zWsn; simp)) (by unfold zWsn; simp)⟩
  have hr2 : r < qr z + 1 := hr'
  have v12 : ∀ k, (zstI (zstI (zstI (zstI M 13 (4 * S + qr z) (zI (qn z))) 14 (4 * S + qr z) (zI (ql z))) 15 (4 * S + qr z) (zI (qe z))) 11 6 (zI ((qr z : Int) + 1))).1 12 k = M.1 12 k := fun k => by rw [zm_Iq _ _ _ _ (by decide), zm_Iq _ _ _ _ (by decide), zm_Iq _ _ _ _ (by decide), zm_Iq _ _ _ _ (by decide)]
  have v13 : ∀ k, (zstI (zstI (zstI (zstI M 13 (4 * S + qr z) (zI (qn z))) 14 (4 * S + qr z) (zI (ql z))) 15 (4 * S + qr z) (zI (qe z))) 11 6 (zI ((qr z : Int) + 1))).1 13 k = (zstI M 13 (4 * S + qr z) (zI (qn z))).1 13 k := fun k => by rw [zm_Iq _ _ _ _ (by decide), zm_Iq _ _ _ _ (by decide), zm_Iq _ _ _ _ (by decide)]
  have v14 : ∀ k, (zstI (zstI (zstI (zstI M 13 (4 * S + qr z) (zI (qn z))) 14 (4 * S + qr z) (zI (ql z))) 15 (4 * S + qr z) (zI (qe z))) 11 6 (zI ((qr z : Int) + 1))).1 14 k = (zstI M 14 (4 * S + qr z) (zI (ql z))).1 14 k := fun k => by
    rw [zm_Iq _ _ _ _ (by decide), zm_Iq _ _ _ _ (by decide)]
    by_cases hk : k = 4 * S + qr z
    · rw [hk, zm_Is, zm_Is]
    · rw [zm_In _ _ _ _ hk, zm_Iq _ _ _ _ (by decide), zm_In _ _ _ _ hk]
  have v15 : ∀ k, (zstI (zstI (zstI (zstI M 13 (4 * S + qr z) (zI (qn z))) 14 (4 * S + qr z) (zI (ql z))) 15 (4 * S + qr z) (zI (qe z))) 11 6 (zI ((qr z : Int) + 1))).1 15 k = (zstI M 15 (4 * S + qr z) (zI (qe z))).1 15 k := fun k => by
    rw [zm_Iq _ _ _ _ (by decide)]
    by_cases hk : k = 4 * S + qr z
    · rw [hk, zm_Is, zm_Is]
    · rw [zm_In _ _ _ _ hk, zm_Iq _ _ _ _ (by decide), zm_Iq _ _ _ _ (by decide), zm_In _ _ _ _ hk]
  show _ = zI ((zup (qN z) (4 * S + qr z) (qn z) (4 * S + r) : Nat) : Int) ∧ _ = zI ((zup (qL z) (4 * S + qr z) (ql z) (4 * S + r) : Nat) : Int) ∧ _ = zI ((zup (qE z) (4 * S + qr z) (qe z) (4 * S + r) : Nat) : Int) ∧ ∀ k, k < zup (qN z) (4 * S + qr z) (qn z) (4 * S + r) → _ = zI ((qX z (10 * (4 * S + r) + k) : Nat) : Int)
  rw [v13, v14, v15]
  by_cases hrr : r = qr z
  · rw [hrr, zup_s, zup_s, zup_s, zm_Is, zm_Is, zm_Is]
    exact ⟨rfl, rfl, rfl, fun k hk => by rw [v12]; exact hX k hk⟩
  · rw [zup_n (by omega), zup_n (by omega), zup_n (by omega), zm_In _ _ _ _ (by omega), zm_In _ _ _ _ (by omega), zm_In _ _ _ _ (by omega)]
    obtain ⟨g1, g2, g3, g4⟩ := hR r (by omega)
    exact ⟨g1, g2, g3, fun k hk => by rw [v12]; exact g4 k hk⟩
theorem zqR_x {S : Nat} {z : ZQ} {M0 M : ZMem} (h : ∀ a k, a = 12 ∨ a = 13 ∨ a = 14 ∨ a = 15 → M.1 a k = M0.1 a k) (hr : zqR S z M0) : zqR S z M := fun r h' => by
  obtain ⟨g1, g2, g3, g4⟩ := hr r h'
  exact ⟨by rw [h 13 _ (by omega)]; exact g1, by rw [h 14 _ (by omega)]; exact g2, by rw [h 15 _ (by omega)]; exact g3, fun k hk => by rw [h 12 _ (by omega)]; exact g4 k hk⟩
theorem c_take {M : ZMem} {F S : Nat} {z : ZQ} (hS : S < 6) (hz : zqb F S z) (h : zqC S z M) {b : Int} (b1 : -1 ≤ b) (b2 : b < 256) (hb : b ≠ -1) (hf : zqf F b z 0) : zOk (f_X7_take M (zI b)) (fun M' => zqC S (zq1 S b z) M' ∧ zP (zWsn S) M M') := by
  have hz1 := zqb_s hz hf hb
  obtain ⟨⟨h5, h6, h7, h8, h9⟩, hR, hX⟩ := h
  obtain ⟨z1, z2, z3, z4, z5, z6⟩ := hz
  unfold zqf at hf
  unfold f_X7_take
  by_cases c1 : b = 47
  · have hn : qn z ≠ 0 := by
      rcases hf with ⟨_, hf⟩ | ⟨_, _⟩ | ⟨_, _⟩
      · intro hh
        rw [if_pos hh] at hf
        omega
      · omega
      · omega
    have hr : qr z ≠ 4 := fun hh => by have := z3 hh; omega
    rw [if_pos (by rw [c1]), zk_bind]
    refine zOk_mono (c_closeRow hS (by omega) ⟨⟨h5, h6, h7, h8, h9⟩, hR, hX⟩) (fun N k => ?_)
    obtain ⟨k1, k2, k3, k4⟩ := k
    unfold f_X7_openRow
    rw [zk_bind, zk_bnd, zk_bnd, zk_bnd, zk_some, zk_some]
    have e1 : zq1 S b z = zqc S z := if_pos c1
    rw [e1]
    have v : ∀ a k, a ≠ 11 → (zstI (zstI (zstI N 11 7 (zI 0)) 11 8 (zI 0)) 11 9 (zI 0)).1 a k = N.1 a k := fun a k ha => by rw [zm_Iq _ _ _ _ ha, zm_Iq _ _ _ _ ha, zm_Iq _ _ _ _ ha]
    refine ⟨⟨⟨?_, ?_, ?_, ?_, ?_⟩, zqR_x (fun a k ha => v a k (by omega)) k3, fun k hk => absurd hk (Nat.not_lt_zero k)⟩, zP_I (zP_I (zP_I k4 (by unfold zWsn; simp)) (by unfold zWsn; simp)) (by unfold zWsn; simp)⟩
    · rw [zm_In _ _ _ _ (by decide), zm_In _ _ _ _ (by decide), zm_In _ _ _ _ (by decide)]; exact k2
    · rw [zm_In _ _ _ _ (by decide), zm_In _ _ _ _ (by decide), zm_In _ _ _ _ (by decide)]; exact k1
    · rw [zm_In _ _ _ _ (by decide), zm_In _ _ _ _ (by decide), zm_Is]; rfl
    · rw [zm_In _ _ _ _ (by decide), zm_Is]; rfl
    · rw [zm_Is]; rfl
  · rw [if_neg (by simp (disch := omega) only [zk_bind, zk_chk, zk_bnd, zk_some, zlp_l, zlp_r, zb_some, zb_bnd, zI_add, zI_sub, zI_mul, zI_neg, zI_le, zI_lt, zI_eq, zI_ix, zI_inI, Int.toNat_natCast, Int.toNat_add, Int.toNat_mul, true_and, and_true]; omega)]
    by_cases c2 : b = 46
    · rw [if_pos (by rw [c2]), h7]
      by_cases c3 : qn z = 0
      · have e1 : zq1 S b z = ((qr z, ql z + 1, qn z, qe z), z.2) := by unfold zq1; rw [if_neg c1, if_pos c2, if_pos c3]
        rw [if_pos (by rw [c3]; rfl), zk_bnd, zk_some, h8, zI_add, e1]
        have v : ∀ a k, a ≠ 11 → (zstI M 11 8 (zI ((ql z : Int) + 1))).1 a k = M.1 a k := fun a k ha => by rw [zm_Iq _ _ _ _ ha]
        refine ⟨⟨⟨by rw [zm_In _ _ _ _ (by decide)]; exact h5, by rw [zm_In _ _ _ _ (by decide)]; exact h6, by rw [zm_In _ _ _ _ (by decide)]; exact h7, by rw [zm_Is]; exact zI_inj (show (ql z : Int) + 1 = ((ql z + 1 : Nat) : Int) by omega), by rw [zm_In _ _ _ _ (by decide)]; exact h9⟩, zqR_x (fun a k ha => v a k (by omega)) hR, fun k hk => by rw [v 12 _ (by decide)]; exact hX k hk⟩, zP_I zP_rf (by unfold zWsn; simp)⟩
      · have e1 : zq1 S b z = ((qr z, ql z, qn z, qe z + 1), z.2) := by unfold zq1; rw [if_neg c1, if_pos c2, if_neg c3]
        rw [if_neg (by simp (disch := omega) only [zk_bind, zk_chk, zk_bnd, zk_some, zlp_l, zlp_r, zb_some, zb_bnd, zI_add, zI_sub, zI_mul, zI_neg, zI_le, zI_lt, zI_eq, zI_ix, zI_inI, Int.toNat_natCast, Int.toNat_add, Int.toNat_mul, true_and, and_true]; omega), zk_bnd, zk_some, h9, zI_add, e1]
        have v : ∀ a k, a ≠ 11 → (zstI M 11 9 (zI ((qe z : Int) + 1))).1 a k = M.1 a k := fun a k ha => by rw [zm_Iq _ _ _ _ ha]
        refine ⟨⟨⟨by rw [zm_In _ _ _ _ (by decide)]; exact h5, by rw [zm_In _ _ _ _ (by decide)]; exact h6, by rw [zm_In _ _ _ _ (by decide)]; exact h7, by rw [zm_In _ _ _ _ (by decide)]; exact h8, by rw [zm_Is]; exact zI_inj (show (qe z : Int) + 1 = ((qe z + 1 : Nat) : Int) by omega)⟩, zqR_x (fun a k ha => v a k (by omega)) hR, fun k hk => by rw [v 12 _ (by decide)]; exact hX k hk⟩, zP_I zP_rf (by unfold zWsn; simp)⟩
    · have hm : (97 ≤ b ∧ b ≤ 122) ∧ ¬ zqm z := by
        rcases hf with ⟨_, _⟩ | ⟨_, _⟩ | ⟨_, hf⟩
        · omega
        · omega
        · rcases hf with hf | ⟨hf1, hf⟩
          · omega
          · rcases hf with hf | ⟨hf2, hf⟩
            · omega
            · rcases hf with hf | hf
              · omega
              · exact ⟨hf1.1, hf.1⟩
      obtain ⟨hl, hm⟩ := hm
      unfold zqm at hm
      have e1 : zq1 S b z = ((qr z, ql z, qn z + 1, qe z), qL z, qN z, qE z, zup (qX z) (10 * (4 * S + qr z) + qn z) (b - 97).toNat) := by unfold zq1; rw [if_neg c1, if_neg c2]
      unfold f_X7_take_62
      rw [if_neg (by simp (disch := omega) only [zk_bind, zk_chk, zk_bnd, zk_some, zlp_l, zlp_r, zb_some, zb_bnd, zI_add, zI_sub, zI_mul, zI_neg, zI_le, zI_lt, zI_eq, zI_ix, zI_inI, Int.toNat_natCast, Int.toNat_add, Int.toNat_mul, true_and, and_true]; omega), h5, h6, h7, zI_mul, zI_add, zI_mul, zI_add, zk_bnd, if_neg (by simp (disch := omega) only [zk_bind, zk_chk, zk_bnd, zk_some, zlp_l, zlp_r, zb_some, zb_bnd, zI_add, zI_sub, zI_mul, zI_neg, zI_le, zI_lt, zI_eq, zI_ix, zI_inI, Int.toNat_natCast, Int.toNat_add, Int.toNat_mul, true_and, and_true]; omega), c_letterOf b1 b2, zb_some, if_pos hl, zI_inI (by omega) (by omega) (by omega), zb_chk, zk_bnd, zI_ix (by omega) (by omega), show ((((S : Int) * 4 + (qr z : Int)) * 10 + (qn z : Int))).toNat = 10 * (4 * S + qr z) + qn z by omega, zm_Iq _ _ _ _ (by decide), h7, zI_add, zk_bnd, zk_some, e1]
      have v : ∀ a k, a ≠ 11 → a ≠ 12 → (zstI (zstI M 12 (10 * (4 * S + qr z) + qn z) (zI (b - 97))) 11 7 (zI ((qn z : Int) + 1))).1 a k = M.1 a k := fun a k ha hb => by rw [zm_Iq _ _ _ _ ha, zm_Iq _ _ _ _ hb]
      have w : ∀ k, k ≠ 7 → (zstI (zstI M 12 (10 * (4 * S + qr z) + qn z) (zI (b - 97))) 11 7 (zI ((qn z : Int) + 1))).1 11 k = M.1 11 k := fun k hk => by rw [zm_In _ _ _ _ hk, zm_Iq _ _ _ _ (by decide)]
      have u : ∀ k, k ≠ 10 * (4 * S + qr z) + qn z → (zstI (zstI M 12 (10 * (4 * S + qr z) + qn z) (zI (b - 97))) 11 7 (zI ((qn z : Int) + 1))).1 12 k = M.1 12 k := fun k hk => by rw [zm_Iq _ _ _ _ (by decide), zm_In _ _ _ _ hk]
      refine ⟨⟨⟨by rw [w 5 (by decide)]; exact h5, by rw [w 6 (by decide)]; exact h6, by rw [zm_Is]; exact zI_inj (show (qn z : Int) + 1 = ((qn z + 1 : Nat) : Int) by omega), by rw [w 8 (by decide)]; exact h8, by rw [w 9 (by decide)]; exact h9⟩, fun r hr' => ?_, fun k hk => ?_⟩, zP_I (zP_I zP_rf (by unfold zWsn; simp; omega)) (by unfold zWsn; simp)⟩
      · have hr2 : r < qr z := hr'
        obtain ⟨g1, g2, g3, g4⟩ := hR r hr2
        have g5 := (z5 r hr2).2.1
        refine ⟨by rw [v 13 _ (by decide) (by decide)]; exact g1, by rw [v 14 _ (by decide) (by decide)]; exact g2, by rw [v 15 _ (by decide) (by decide)]; exact g3, fun k hk => ?_⟩
        have hk2 : k < qN z (4 * S + r) := hk
        show _ = zI ((zup (qX z) (10 * (4 * S + qr z) + qn z) (b - 97).toNat (10 * (4 * S + r) + k) : Nat) : Int)
        rw [u _ (by omega), zup_n (by omega)]
        exact g4 k hk2
      · have hk2 : k < qn z + 1 := hk
        show (zstI (zstI M 12 (10 * (4 * S + qr z) + qn z) (zI (b - 97))) 11 7 (zI ((qn z : Int) + 1))).1 12 (10 * (4 * S + qr z) + k) = zI ((zup (qX z) (10 * (4 * S + qr z) + qn z) (b - 97).toNat (10 * (4 * S + qr z) + k) : Nat) : Int)
        by_cases hkn : k = qn z
        · rw [hkn, zup_s, zm_Iq _ _ _ _ (by decide), zm_Is]
          exact zI_inj (by omega)
        · rw [u _ (by omega), zup_n (by omega)]
          exact hX k (by omega)
abbrev zz0 (y : (Nat → Nat) × (Nat → Nat) × (Nat → Nat) × (Nat → Nat)) : ZQ := ((0, 0, 0, 0), y)
theorem zqb_0 (F S : Nat) (y : (Nat → Nat) × (Nat → Nat) × (Nat → Nat) × (Nat → Nat)) : zqb F S (zz0 y) := ⟨Nat.zero_le 4, Nat.zero_le 10, fun hh => absurd hh (show ¬ (0 = 4) by omega), fun _ => rfl, fun r hr => absurd hr (Nat.not_lt_zero r), fun k hk => absurd hk (Nat.not_lt_zero k)⟩
theorem c_takeStone {M : ZMem} {F S : Nat} {t : List Nat} {y : (Nat → Nat) × (Nat → Nat) × (Nat → Nat) × (Nat → Nat)} (hF : F ≤ 20) (hS : S < 6) (hb : okB t) (ht : tapeC t M) (hS5 : M.1 11 5 = zI S) : zOk (f_X7_takeFrom M (zI F)) (fun r => zP (zWsn S) M r.1 ∧ ((zqok F S t (zz0 y) ∧ r.2 = zI S ∧ r.1.1 11 5 = zI ((S + 1 : Nat) : Int) ∧ r.1.1 16 S = zI ((qr (zqs S t (zz0 y) t.length) + 1 : Nat) : Int) ∧ zqR S (zqc S (zqs S t (zz0 y) t.length)) r.1) ∨ ∃ f, zqft F S t (zz0 y) f ∧ r.2 = zI (-2 - (f : Int)) ∧ r.1.1 11 5 = zI S)) := by
  have hl := hb.1
  have hz0 : zqb F S (zz0 y) := zqb_0 F S y
  unfold f_X7_takeFrom f_X7_openRow
  rw [zk_bnd, zb_bnd, zb_bnd, zb_bnd, zb_some, zk_bind]
  have st : zqC S (zz0 y) (zstI (zstI (zstI (zstI M 11 6 (zI 0)) 11 7 (zI 0)) 11 8 (zI 0)) 11 9 (zI 0)) := by
    refine ⟨⟨?_, ?_, ?_, ?_, ?_⟩, fun r hr => ?_, fun k hk => ?_⟩
    · rw [zm_In _ _ _ _ (by decide), zm_In _ _ _ _ (by decide), zm_In _ _ _ _ (by decide), zm_In _ _ _ _ (by decide)]; exact hS5
    · rw [zm_In _ _ _ _ (by decide), zm_In _ _ _ _ (by decide), zm_In _ _ _ _ (by decide), zm_Is]; rfl
    · rw [zm_In _ _ _ _ (by decide), zm_In _ _ _ _ (by decide), zm_Is]; rfl
    · rw [zm_In _ _ _ _ (by decide), zm_Is]; rfl
    · rw [zm_Is]; rfl
    · exact absurd hr (Nat.not_lt_zero r)
    · exact absurd hk (Nat.not_lt_zero k)
  have sp : zP (zWsn S) M (zstI (zstI (zstI (zstI M 11 6 (zI 0)) 11 7 (zI 0)) 11 8 (zI 0)) 11 9 (zI 0)) := zP_I (zP_I (zP_I (zP_I zP_rf (by unfold zWsn; simp)) (by unfold zWsn; simp)) (by unfold zWsn; simp)) (by unfold zWsn; simp)
  refine zOk_forQ (fun i (s : ZMem × Int32) => zqw F S t (zz0 y) i ∧ s.2 = zI i ∧ zP (zWsn S) M s.1 ∧ zqC S (zqs S t (zz0 y) i) s.1) (t.length + 1) ?_ ?_ ⟨⟨Nat.zero_le _, fun j hj => absurd hj (Nat.not_lt_zero j)⟩, rfl, sp, st⟩
  · rintro i ⟨N, s2⟩ hi ⟨e1, e2, e3, e4⟩ Q hQ hE
    dsimp only at e2 e3 e4
    have hzb := zqb_i hz0 i e1
    have hc := zch_rng hb i
    have htN : tapeC t N := ⟨by rw [e3.1 1 1 rfl]; exact ht.1, fun j hj => by rw [e3.1 2 j rfl]; exact ht.2 j hj⟩
    obtain ⟨k, k1, k2⟩ := c_faultOf hF hzb e4 hc.1 hc.2
    have k3 := zqf_le k2
    unfold f_X7_takeFrom_L11
    dsimp only
    rw [e2, if_neg (by simp (disch := omega) only [zk_bind, zk_chk, zk_bnd, zk_some, zlp_l, zlp_r, zb_some, zb_bnd, zI_add, zI_sub, zI_mul, zI_neg, zI_le, zI_lt, zI_eq, zI_ix, zI_inI, Int.toNat_natCast, Int.toNat_add, Int.toNat_mul, true_and, and_true]; omega), e4.1.1, if_neg (by simp (disch := omega) only [zk_bind, zk_chk, zk_bnd, zk_some, zlp_l, zlp_r, zb_some, zb_bnd, zI_add, zI_sub, zI_mul, zI_neg, zI_le, zI_lt, zI_eq, zI_ix, zI_inI, Int.toNat_natCast, Int.toNat_add, Int.toNat_mul, true_and, and_true]; omega), c_byteAt hb htN (by omega), zb_some, k1, zb_some]
    by_cases hk : k = 0
    · rw [hk] at k2
      rw [if_pos (by rw [hk]; rfl)]
      by_cases he : zch t i = -1
      · have hil : i = t.length := by
          apply Classical.byContradiction
          intro hh
          rw [zch_l (by omega)] at he
          omega
        rw [he] at k2
        have hn : qn (zqs S t (zz0 y) i) ≠ 0 := by
          unfold zqf at k2
          rcases k2 with ⟨_, hf⟩ | ⟨_, _⟩ | ⟨_, _⟩
          · intro hh
            rw [if_pos hh] at hf
            omega
          · omega
          · omega
        have hr4 : qr (zqs S t (zz0 y) i) ≠ 4 := fun hh => by have := hzb.2.2.1 hh; omega
        have hr5 := hzb.1
        rw [if_pos (by rw [he]), zk_bind]
        refine zOk_mono (c_closeRow hS (by omega) e4) (fun N1 j => ?_)
        obtain ⟨j1, j2, j3, j4⟩ := j
        rw [j2, zI_inI (by omega) (by omega) (by omega), zb_chk, zk_bnd, zI_ix (by omega) (by omega), Int.toNat_natCast, j1, zm_Iq _ _ _ _ (by decide), j2, zI_add, zk_bnd, zk_some, zm_Is, zI_sub]
        refine hE _ ?_
        show zOk (some (zstI (zstI N1 16 S (zI ((qr (zqs S t (zz0 y) i) + 1 : Nat) : Int))) 11 5 (zI ((S : Int) + 1)), zI ((S : Int) + 1 - 1))) _
        rw [zk_some]
        refine ⟨zP_I (zP_I (zP_tr e3 j4) (by unfold zWsn; simp)) (by unfold zWsn; simp), Or.inl ⟨⟨by rw [← hil]; exact e1, by rw [← hil]; exact k2⟩, zI_inj (by omega), by dsimp only; rw [zm_Is]; exact zI_inj (by omega), by dsimp only; rw [zm_Iq _ _ _ _ (by decide), zm_Is, hil], ?_⟩⟩
        rw [← hil]
        exact zqR_x (fun a k ha => by dsimp only; rw [zm_Iq _ _ _ _ (by omega), zm_Iq _ _ _ _ (by omega)]) j3
      · have hlt : i < t.length := by
          apply Classical.byContradiction
          intro hh
          exact he (zch_e (by omega))
        rw [if_neg (by simp (disch := omega) only [zk_bind, zk_chk, zk_bnd, zk_some, zlp_l, zlp_r, zb_some, zb_bnd, zI_add, zI_sub, zI_mul, zI_neg, zI_le, zI_lt, zI_eq, zI_ix, zI_inI, Int.toNat_natCast, Int.toNat_add, Int.toNat_mul, true_and, and_true]; omega), zk_bind]
        refine zOk_mono (c_take hS hzb e4 hc.1 hc.2 he k2) (fun N1 j => ?_)
        rw [zk_bnd, zk_some, zI_add]
        refine hQ _ ⟨⟨by omega, fun j' hj' => ?_⟩, zI_inj (by omega), zP_tr e3 j.2, j.1⟩
        by_cases hji : j' = i
        · rw [hji]; exact k2
        · exact e1.2 j' (by omega)
    · unfold f_X11_faultAt
      rw [if_neg (by simp (disch := omega) only [zk_bind, zk_chk, zk_bnd, zk_some, zlp_l, zlp_r, zb_some, zb_bnd, zI_add, zI_sub, zI_mul, zI_neg, zI_le, zI_lt, zI_eq, zI_ix, zI_inI, Int.toNat_natCast, Int.toNat_add, Int.toNat_mul, true_and, and_true]; omega), zI_mul, zI_add, zI_sub, zb_some, zk_some]
      refine hE _ ?_
      show zOk (some (N, zI (-2 - (8 * (i : Int) + (k : Int))))) _
      rw [zk_some]
      exact ⟨e3, Or.inr ⟨8 * i + k, ⟨i, k, e1, hk, k2, rfl⟩, zI_inj (by omega), e4.1.1⟩⟩
  · rintro s ⟨e1, _⟩
    have := e1.1
    omega
