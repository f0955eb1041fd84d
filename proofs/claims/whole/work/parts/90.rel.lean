/-! ===== what each part of the two memories says ===== deps: 89.unlikec -/
/-- all but W is as it was -/
def zP (W : Nat → Nat → Bool) (M0 M : ZMem) : Prop := (∀ a k, W a k = false → M.1 a k = M0.1 a k) ∧ M.2 = M0.2
theorem zP_rf {W : Nat → Nat → Bool} {M : ZMem} : zP W M M := ⟨fun _ _ _ => rfl, rfl⟩
theorem zP_I {W : Nat → Nat → Bool} {M0 M : ZMem} {q i : Nat} {v : Int32} (h : zP W M0 M) (hw : W q i = true) : zP W M0 (zstI M q i v) := by
  refine ⟨fun a k ha => ?_, h.2⟩
  rw [zm_I]
  split
  · next e =>
    rw [e.1, e.2, hw] at ha
    cases ha
  · exact h.1 a k ha
theorem zP_tr {W : Nat → Nat → Bool} {M0 M1 M2 : ZMem} (h : zP W M0 M1) (h' : zP W M1 M2) : zP W M0 M2 := ⟨fun a k ha => by rw [h'.1 a k ha, h.1 a k ha], by rw [h'.2, h.2]⟩
theorem zP_mono {W W' : Nat → Nat → Bool} {M0 M1 : ZMem} (h : zP W M0 M1) (hw : ∀ a k, W' a k = false → W a k = false) : zP W' M0 M1 := ⟨fun a k ha => h.1 a k (hw a k ha), h.2⟩
theorem zP_F {W : Nat → Nat → Bool} {M0 M : ZMem} {q : Nat} {f : Nat → Int32} (h : zP W M0 M) (hw : ∀ k, W q k = true) : zP W M0 (zstF M q f) := by
  refine ⟨fun a k ha => ?_, h.2⟩
  rw [zm_F]
  split
  · next e =>
    rw [e, hw k] at ha
    cases ha
  · exact h.1 a k ha
/-- forms in the class -/
def formsC (F : Nat) (fr : Nat → Nat) (C : ZMem) : Prop := F ≤ 20 ∧ C.1 3 7 = zI F ∧ (∀ k, k < 5 * F → fr k < 32) ∧ (∀ i, i < F → C.1 4 i = zI (zform fr i)) ∧ ∀ i j, i < F → j < F → C.1 6 (20 * i + j) = zI (zU fr i j)
def okH (F : Nat) (h : Nat → Int) : Prop := (0 ≤ h 0 ∧ h 0 ≤ 25) ∧ (0 ≤ h 1 ∧ h 1 ≤ 3) ∧ (1 ≤ h 2 ∧ h 2 ≤ 9) ∧ (0 ≤ h 3 ∧ h 3 ≤ 12) ∧ (∀ f, f < 20 → -1 ≤ h (4 + f) ∧ h (4 + f) ≤ 49 ∧ (F ≤ f → h (4 + f) = -1)) ∧ (∀ k, k < 400 → 0 ≤ h (24 + k) ∧ h (24 + k) ≤ 2) ∧ ∀ k : Nat, (k : Int) < h 3 → (0 ≤ h (424 + 3 * k) ∧ h (424 + 3 * k) < F) ∧ (0 ≤ h (425 + 3 * k) ∧ h (425 + 3 * k) < F) ∧ (0 ≤ h (426 + 3 * k) ∧ h (426 + 3 * k) ≤ 1)
noncomputable def zguess (h : Nat → Int) : Nat := zsum 20 (fun f => zb (h (4 + f) ≠ -1))
/-- the hand as it is now: class, reference -/
def setC (h : Nat → Int) (C : ZMem) : Prop := C.1 21 0 = zI (h 0) ∧ C.1 21 1 = zI (h 1) ∧ C.1 21 2 = zI (h 2) ∧ ∀ k, k < 400 → C.1 22 k = zI (h (24 + k))
def clueC (h : Nat → Int) (C : ZMem) : Prop := C.1 20 9 = zI (h 3) ∧ (∀ k : Nat, (k : Int) < h 3 → C.1 23 k = zI (h (424 + 3 * k)) ∧ C.1 24 k = zI (h (425 + 3 * k)) ∧ C.1 25 k = zI (h (426 + 3 * k))) ∧ (∀ f, f < 20 → C.1 26 f = zI (h (4 + f))) ∧ C.1 20 10 = zI (zguess h)
def handR (h : Nat → Int) (R : ZMem) : Prop := ∀ k, k < 460 → R.1 9 k = zI (h k)
def dformsC (a k : Nat) : Bool := a == 4 || a == 6 || (a == 3 && k == 7)
theorem formsC_x {F : Nat} {fr : Nat → Nat} {M0 M : ZMem} (hx : ∀ a k, dformsC a k = true → M.1 a k = M0.1 a k) (h : formsC F fr M0) : formsC F fr M := ⟨h.1, by rw [hx 3 7 rfl]; exact h.2.1, h.2.2.1, fun i hi => by rw [hx 4 i rfl]; exact h.2.2.2.1 i hi, fun i j hi hj => by rw [hx 6 _ rfl]; exact h.2.2.2.2 i j hi hj⟩
def dsetC (a k : Nat) : Bool := a == 21 || a == 22
theorem setC_x {h : Nat → Int} {M0 M : ZMem} (hx : ∀ a k, dsetC a k = true → M.1 a k = M0.1 a k) (hh : setC h M0) : setC h M := ⟨by rw [hx 21 0 rfl]; exact hh.1, by rw [hx 21 1 rfl]; exact hh.2.1, by rw [hx 21 2 rfl]; exact hh.2.2.1, fun k hk => by rw [hx 22 k rfl]; exact hh.2.2.2 k hk⟩
def dclueC (a k : Nat) : Bool := a == 23 || a == 24 || a == 25 || a == 26 || (a == 20 && (k == 9 || k == 10))
theorem clueC_x {h : Nat → Int} {M0 M : ZMem} (hx : ∀ a k, dclueC a k = true → M.1 a k = M0.1 a k) (hh : clueC h M0) : clueC h M := ⟨by rw [hx 20 9 rfl]; exact hh.1, fun k hk => by rw [hx 23 k rfl, hx 24 k rfl, hx 25 k rfl]; exact hh.2.1 k hk, fun f hf => by rw [hx 26 f rfl]; exact hh.2.2.1 f hf, by rw [hx 20 10 rfl]; exact hh.2.2.2⟩
def dformsR (a k : Nat) : Bool := a == 2 || (a == 0 && k == 4)
theorem formsR_x {F : Nat} {fr : Nat → Nat} {M0 M : ZMem} (hx : ∀ a k, dformsR a k = true → M.1 a k = M0.1 a k) (h : formsR F fr M0) : formsR F fr M := ⟨h.1, by rw [hx 0 4 rfl]; exact h.2.1, h.2.2.1, fun k hk => by rw [hx 2 k rfl]; exact h.2.2.2 k hk⟩
theorem handR_x {h : Nat → Int} {M0 M : ZMem} (hx : ∀ k, M.1 9 k = M0.1 9 k) (hh : handR h M0) : handR h M := fun k hk => by rw [hx]; exact hh k hk
/-- which forms are linked -/
def zlk (fr : Nat → Nat) (h : Nat → Int) (a b : Nat) : Prop := a < 20 ∧ b < 20 ∧ a ≠ b ∧ (h (24 + 20 * min a b + max a b) = 1 ∨ h (24 + 20 * min a b + max a b) ≠ 2 ∧ (zU fr a b : Int) ≤ h 0)
theorem zlk_sym {fr : Nat → Nat} {h : Nat → Int} {a b : Nat} (hl : zlk fr h a b) : zlk fr h b a := by
  obtain ⟨h1, h2, h3, h4⟩ := hl
  refine ⟨h2, h1, Ne.symm h3, ?_⟩
  rw [Nat.min_comm b a, Nat.max_comm b a, zU_sym fr b a]
  exact h4
/-- the sign of a form -/
noncomputable def zsg (F : Nat) (fr : Nat → Nat) (h : Nat → Int) : Nat → Nat := zLab F (zlk fr h)
-- numbers of the class
theorem c_has {M : ZMem} {F : Nat} (hF : M.1 3 7 = zI F) (hF2 : F ≤ 20) (a : Int) (h1 : -2147483648 ≤ a) (h2 : a ≤ 2147483647) : f_X0_has M (zI a) = some (zI (zb (0 ≤ a ∧ a < F) : Int)) := by
  unfold f_X0_has
  rw [hF]
  by_cases c1 : a < 0
  · rw [if_pos (by simp (disch := omega) only [zk_bind, zk_chk, zk_bnd, zk_some, zlp_l, zlp_r, zb_some, zb_bnd, zI_add, zI_sub, zI_mul, zI_neg, zI_le, zI_lt, zI_eq, zI_ix, zI_inI, Int.toNat_natCast, Int.toNat_add, Int.toNat_mul, true_and, and_true]; omega), zb_f (by omega)]; rfl
  · rw [if_neg (by simp (disch := omega) only [zk_bind, zk_chk, zk_bnd, zk_some, zlp_l, zlp_r, zb_some, zb_bnd, zI_add, zI_sub, zI_mul, zI_neg, zI_le, zI_lt, zI_eq, zI_ix, zI_inI, Int.toNat_natCast, Int.toNat_add, Int.toNat_mul, true_and, and_true]; omega)]
    by_cases c2 : (F : Int) ≤ a
    · rw [if_pos (by simp (disch := omega) only [zk_bind, zk_chk, zk_bnd, zk_some, zlp_l, zlp_r, zb_some, zb_bnd, zI_add, zI_sub, zI_mul, zI_neg, zI_le, zI_lt, zI_eq, zI_ix, zI_inI, Int.toNat_natCast, Int.toNat_add, Int.toNat_mul, true_and, and_true]; omega), zb_f (by omega)]; rfl
    · rw [if_neg (by simp (disch := omega) only [zk_bind, zk_chk, zk_bnd, zk_some, zlp_l, zlp_r, zb_some, zb_bnd, zI_add, zI_sub, zI_mul, zI_neg, zI_le, zI_lt, zI_eq, zI_ix, zI_inI, Int.toNat_natCast, Int.toNat_add, Int.toNat_mul, true_and, and_true]; omega), zb_t (by omega)]; rfl
theorem r_isForm {M : ZMem} {F : Nat} (hF : M.1 0 4 = zI F) (hF2 : F ≤ 20) (a : Int) (h1 : -2147483648 ≤ a) (h2 : a ≤ 2147483647) : f_X12_isForm M (zI a) = some (zI (zb (0 ≤ a ∧ a < F) : Int)) := by
  unfold f_X12_isForm f_X12_in
  rw [hF, zI_sub]
  by_cases c1 : a < 0
  · rw [if_pos (by simp (disch := omega) only [zk_bind, zk_chk, zk_bnd, zk_some, zlp_l, zlp_r, zb_some, zb_bnd, zI_add, zI_sub, zI_mul, zI_neg, zI_le, zI_lt, zI_eq, zI_ix, zI_inI, Int.toNat_natCast, Int.toNat_add, Int.toNat_mul, true_and, and_true]; omega), zb_f (by omega)]; rfl
  · rw [if_neg (by simp (disch := omega) only [zk_bind, zk_chk, zk_bnd, zk_some, zlp_l, zlp_r, zb_some, zb_bnd, zI_add, zI_sub, zI_mul, zI_neg, zI_le, zI_lt, zI_eq, zI_ix, zI_inI, Int.toNat_natCast, Int.toNat_add, Int.toNat_mul, true_and, and_true]; omega)]
    by_cases c2 : (F : Int) ≤ a
    · rw [if_pos (by simp (disch := omega) only [zk_bind, zk_chk, zk_bnd, zk_some, zlp_l, zlp_r, zb_some, zb_bnd, zI_add, zI_sub, zI_mul, zI_neg, zI_le, zI_lt, zI_eq, zI_ix, zI_inI, Int.toNat_natCast, Int.toNat_add, Int.toNat_mul, true_and, and_true]; omega), zb_f (by omega)]; rfl
    · rw [if_neg (by simp (disch := omega) only [zk_bind, zk_chk, zk_bnd, zk_some, zlp_l, zlp_r, zb_some, zb_bnd, zI_add, zI_sub, zI_mul, zI_neg, zI_le, zI_lt, zI_eq, zI_ix, zI_inI, Int.toNat_natCast, Int.toNat_add, Int.toNat_mul, true_and, and_true]; omega), zb_t (by omega)]; rfl
theorem zb_0 {p : Prop} : (zI (zb p : Int) = zI 0) ↔ ¬ p := by
  by_cases h : p
  · rw [zb_t h]; simp [h]; decide
  · rw [zb_f h]; simp [h]
theorem zb_1 {p : Prop} : (zI (zb p : Int) = zI 1) ↔ p := by
  by_cases h : p
  · rw [zb_t h]; simp [h]
  · rw [zb_f h]; simp [h]; decide
theorem c_unlikeOf {M : ZMem} {F : Nat} {fr : Nat → Nat} (h : formsC F fr M) {a b : Nat} (ha : a < F) (hb : b < F) : f_X0_unlikeOf M (zI a) (zI b) = some (zI (zU fr a b)) := by
  have h1 := h.1
  unfold f_X0_unlikeOf
  rw [c_has h.2.1 h.1 a (by omega) (by omega), zb_some, if_neg (by rw [zb_0]; omega), c_has h.2.1 h.1 b (by omega) (by omega), zb_some, if_neg (by rw [zb_0]; omega), zI_mul, zI_add, zI_inI (by omega) (by omega) (by omega), zI_ix (by omega) (by omega), show ((a : Int) * 20 + b).toNat = 20 * a + b by omega, h.2.2.2.2 a b ha hb]
  rfl
theorem c_tieOf {M : ZMem} {h : Nat → Int} (hh : setC h M) {a b : Nat} (ha : a < 20) (hb : b < 20) (hab : a ≠ b) : f_X1_tieOf M (zI a) (zI b) = some (zI (h (24 + 20 * min a b + max a b))) := by
  unfold f_X1_tieOf f_X1_tiePlace f_X1_tiePlace_25
  rw [if_neg (by simp (disch := omega) only [zk_bind, zk_chk, zk_bnd, zk_some, zlp_l, zlp_r, zb_some, zb_bnd, zI_add, zI_sub, zI_mul, zI_neg, zI_le, zI_lt, zI_eq, zI_ix, zI_inI, Int.toNat_natCast, Int.toNat_add, Int.toNat_mul, true_and, and_true]; omega), if_neg (by simp (disch := omega) only [zk_bind, zk_chk, zk_bnd, zk_some, zlp_l, zlp_r, zb_some, zb_bnd, zI_add, zI_sub, zI_mul, zI_neg, zI_le, zI_lt, zI_eq, zI_ix, zI_inI, Int.toNat_natCast, Int.toNat_add, Int.toNat_mul, true_and, and_true]; omega), if_neg (by simp (disch := omega) only [zk_bind, zk_chk, zk_bnd, zk_some, zlp_l, zlp_r, zb_some, zb_bnd, zI_add, zI_sub, zI_mul, zI_neg, zI_le, zI_lt, zI_eq, zI_ix, zI_inI, Int.toNat_natCast, Int.toNat_add, Int.toNat_mul, true_and, and_true]; omega), if_neg (by simp (disch := omega) only [zk_bind, zk_chk, zk_bnd, zk_some, zlp_l, zlp_r, zb_some, zb_bnd, zI_add, zI_sub, zI_mul, zI_neg, zI_le, zI_lt, zI_eq, zI_ix, zI_inI, Int.toNat_natCast, Int.toNat_add, Int.toNat_mul, true_and, and_true]; omega), if_neg (by decide)]
  rcases Nat.lt_or_gt_of_ne hab with hc | hc
  · rw [if_neg (by simp (disch := omega) only [zk_bind, zk_chk, zk_bnd, zk_some, zlp_l, zlp_r, zb_some, zb_bnd, zI_add, zI_sub, zI_mul, zI_neg, zI_le, zI_lt, zI_eq, zI_ix, zI_inI, Int.toNat_natCast, Int.toNat_add, Int.toNat_mul, true_and, and_true]; omega), if_pos (by simp (disch := omega) only [zk_bind, zk_chk, zk_bnd, zk_some, zlp_l, zlp_r, zb_some, zb_bnd, zI_add, zI_sub, zI_mul, zI_neg, zI_le, zI_lt, zI_eq, zI_ix, zI_inI, Int.toNat_natCast, Int.toNat_add, Int.toNat_mul, true_and, and_true]; omega), zb_some, zI_mul, zI_add, if_neg (by simp (disch := omega) only [zk_bind, zk_chk, zk_bnd, zk_some, zlp_l, zlp_r, zb_some, zb_bnd, zI_add, zI_sub, zI_mul, zI_neg, zI_le, zI_lt, zI_eq, zI_ix, zI_inI, Int.toNat_natCast, Int.toNat_add, Int.toNat_mul, true_and, and_true]; omega), if_neg (by simp (disch := omega) only [zk_bind, zk_chk, zk_bnd, zk_some, zlp_l, zlp_r, zb_some, zb_bnd, zI_add, zI_sub, zI_mul, zI_neg, zI_le, zI_lt, zI_eq, zI_ix, zI_inI, Int.toNat_natCast, Int.toNat_add, Int.toNat_mul, true_and, and_true]; omega), zI_inI (by omega) (by omega) (by omega), zI_ix (by omega) (by omega), show ((a : Int) * 20 + b).toNat = 20 * min a b + max a b by omega, hh.2.2.2 _ (by omega), ← Nat.add_assoc]
    rfl
  · rw [if_pos (by simp (disch := omega) only [zk_bind, zk_chk, zk_bnd, zk_some, zlp_l, zlp_r, zb_some, zb_bnd, zI_add, zI_sub, zI_mul, zI_neg, zI_le, zI_lt, zI_eq, zI_ix, zI_inI, Int.toNat_natCast, Int.toNat_add, Int.toNat_mul, true_and, and_true]; omega), if_neg (by simp (disch := omega) only [zk_bind, zk_chk, zk_bnd, zk_some, zlp_l, zlp_r, zb_some, zb_bnd, zI_add, zI_sub, zI_mul, zI_neg, zI_le, zI_lt, zI_eq, zI_ix, zI_inI, Int.toNat_natCast, Int.toNat_add, Int.toNat_mul, true_and, and_true]; omega), zb_some, zI_mul, zI_add, if_neg (by simp (disch := omega) only [zk_bind, zk_chk, zk_bnd, zk_some, zlp_l, zlp_r, zb_some, zb_bnd, zI_add, zI_sub, zI_mul, zI_neg, zI_le, zI_lt, zI_eq, zI_ix, zI_inI, Int.toNat_natCast, Int.toNat_add, Int.toNat_mul, true_and, and_true]; omega), if_neg (by simp (disch := omega) only [zk_bind, zk_chk, zk_bnd, zk_some, zlp_l, zlp_r, zb_some, zb_bnd, zI_add, zI_sub, zI_mul, zI_neg, zI_le, zI_lt, zI_eq, zI_ix, zI_inI, Int.toNat_natCast, Int.toNat_add, Int.toNat_mul, true_and, and_true]; omega), zI_inI (by omega) (by omega) (by omega), zI_ix (by omega) (by omega), show ((b : Int) * 20 + a).toNat = 20 * min a b + max a b by omega, hh.2.2.2 _ (by omega), ← Nat.add_assoc]
    rfl
theorem c_setting {M : ZMem} (k : Nat) (hk : k < 3) : f_X1_settingOf M (zI k) = some (M.1 21 k) := by
  unfold f_X1_settingOf
  rw [if_neg (by simp (disch := omega) only [zk_bind, zk_chk, zk_bnd, zk_some, zlp_l, zlp_r, zb_some, zb_bnd, zI_add, zI_sub, zI_mul, zI_neg, zI_le, zI_lt, zI_eq, zI_ix, zI_inI, Int.toNat_natCast, Int.toNat_add, Int.toNat_mul, true_and, and_true]; omega), if_neg (by simp (disch := omega) only [zk_bind, zk_chk, zk_bnd, zk_some, zlp_l, zlp_r, zb_some, zb_bnd, zI_add, zI_sub, zI_mul, zI_neg, zI_le, zI_lt, zI_eq, zI_ix, zI_inI, Int.toNat_natCast, Int.toNat_add, Int.toNat_mul, true_and, and_true]; omega), zI_inI (by omega) (by omega) (by omega), zI_ix (by omega) (by omega)]
  rfl
theorem okH_tie {F : Nat} {h : Nat → Int} (hk : okH F h) {a b : Nat} (ha : a < 20) (hb : b < 20) : 0 ≤ h (24 + 20 * min a b + max a b) ∧ h (24 + 20 * min a b + max a b) ≤ 2 := by
  have := hk.2.2.2.2.2.1 (20 * min a b + max a b) (by omega)
  rwa [← Nat.add_assoc] at this
theorem c_linked {M : ZMem} {F : Nat} {fr : Nat → Nat} {h : Nat → Int} (hf : formsC F fr M) (hh : setC h M) (hk : okH F h) {a b : Nat} (ha : a < F) (hb : b < F) (hab : a ≠ b) : f_X0_linked M (zI a) (zI b) = some (zI (zb (zlk fr h a b) : Int)) := by
  have hF := hf.1
  have ht := okH_tie hk (a := a) (b := b) (by omega) (by omega)
  have h0 := hk.1
  have hU := zU_le fr a b
  unfold f_X0_linked
  rw [c_tieOf hh (by omega) (by omega) hab, zb_some]
  by_cases c1 : h (24 + 20 * min a b + max a b) = 1
  · rw [if_pos (by simp (disch := omega) only [zk_bind, zk_chk, zk_bnd, zk_some, zlp_l, zlp_r, zb_some, zb_bnd, zI_add, zI_sub, zI_mul, zI_neg, zI_le, zI_lt, zI_eq, zI_ix, zI_inI, Int.toNat_natCast, Int.toNat_add, Int.toNat_mul, true_and, and_true]; omega), zb_t ⟨by omega, by omega, hab, Or.inl c1⟩]; rfl
  · rw [if_neg (by simp (disch := omega) only [zk_bind, zk_chk, zk_bnd, zk_some, zlp_l, zlp_r, zb_some, zb_bnd, zI_add, zI_sub, zI_mul, zI_neg, zI_le, zI_lt, zI_eq, zI_ix, zI_inI, Int.toNat_natCast, Int.toNat_add, Int.toNat_mul, true_and, and_true]; omega)]
    by_cases c2 : h (24 + 20 * min a b + max a b) = 2
    · rw [if_pos (by simp (disch := omega) only [zk_bind, zk_chk, zk_bnd, zk_some, zlp_l, zlp_r, zb_some, zb_bnd, zI_add, zI_sub, zI_mul, zI_neg, zI_le, zI_lt, zI_eq, zI_ix, zI_inI, Int.toNat_natCast, Int.toNat_add, Int.toNat_mul, true_and, and_true]; omega), zb_f (fun hl => by have := hl.2.2.2; omega)]; rfl
    · rw [if_neg (by simp (disch := omega) only [zk_bind, zk_chk, zk_bnd, zk_some, zlp_l, zlp_r, zb_some, zb_bnd, zI_add, zI_sub, zI_mul, zI_neg, zI_le, zI_lt, zI_eq, zI_ix, zI_inI, Int.toNat_natCast, Int.toNat_add, Int.toNat_mul, true_and, and_true]; omega), c_unlikeOf hf ha hb, zb_some, show f_X1_settingOf M (zI 0) = some (M.1 21 0) from c_setting 0 (by decide), zb_some, hh.1]
      by_cases c3 : h 0 < (zU fr a b : Int)
      · rw [if_pos (by simp (disch := omega) only [zk_bind, zk_chk, zk_bnd, zk_some, zlp_l, zlp_r, zb_some, zb_bnd, zI_add, zI_sub, zI_mul, zI_neg, zI_le, zI_lt, zI_eq, zI_ix, zI_inI, Int.toNat_natCast, Int.toNat_add, Int.toNat_mul, true_and, and_true]; omega), zb_f (fun hl => by have := hl.2.2.2; omega)]; rfl
      · rw [if_neg (by simp (disch := omega) only [zk_bind, zk_chk, zk_bnd, zk_some, zlp_l, zlp_r, zb_some, zb_bnd, zI_add, zI_sub, zI_mul, zI_neg, zI_le, zI_lt, zI_eq, zI_ix, zI_inI, Int.toNat_natCast, Int.toNat_add, Int.toNat_mul, true_and, and_true]; omega), zb_t ⟨by omega, by omega, hab, Or.inr ⟨c2, by omega⟩⟩]; rfl
theorem r_twoAt (M : ZMem) {a b : Nat} (ha : a < 20) (hb : b < 20) (hab : a ≠ b) : f_X12_twoAt M (zI a) (zI b) = some (zI ((24 + 20 * min a b + max a b : Nat) : Int)) := by
  unfold f_X12_twoAt
  rcases Nat.lt_or_gt_of_ne hab with hc | hc
  · rw [if_neg (by simp (disch := omega) only [zk_bind, zk_chk, zk_bnd, zk_some, zlp_l, zlp_r, zb_some, zb_bnd, zI_add, zI_sub, zI_mul, zI_neg, zI_le, zI_lt, zI_eq, zI_ix, zI_inI, Int.toNat_natCast, Int.toNat_add, Int.toNat_mul, true_and, and_true]; omega), if_pos (by simp (disch := omega) only [zk_bind, zk_chk, zk_bnd, zk_some, zlp_l, zlp_r, zb_some, zb_bnd, zI_add, zI_sub, zI_mul, zI_neg, zI_le, zI_lt, zI_eq, zI_ix, zI_inI, Int.toNat_natCast, Int.toNat_add, Int.toNat_mul, true_and, and_true]; omega), zI_mul, zI_add, zI_add]
    exact congrArg some (zI_inj (by omega))
  · rw [if_pos (by simp (disch := omega) only [zk_bind, zk_chk, zk_bnd, zk_some, zlp_l, zlp_r, zb_some, zb_bnd, zI_add, zI_sub, zI_mul, zI_neg, zI_le, zI_lt, zI_eq, zI_ix, zI_inI, Int.toNat_natCast, Int.toNat_add, Int.toNat_mul, true_and, and_true]; omega), if_neg (by simp (disch := omega) only [zk_bind, zk_chk, zk_bnd, zk_some, zlp_l, zlp_r, zb_some, zb_bnd, zI_add, zI_sub, zI_mul, zI_neg, zI_le, zI_lt, zI_eq, zI_ix, zI_inI, Int.toNat_natCast, Int.toNat_add, Int.toNat_mul, true_and, and_true]; omega), zI_mul, zI_add, zI_add]
    exact congrArg some (zI_inj (by omega))
theorem r_areLinked {M : ZMem} {F : Nat} {fr : Nat → Nat} {h : Nat → Int} (hf : formsR F fr M) (hh : handR h M) (hk : okH F h) {a b : Nat} (ha : a < F) (hb : b < F) (hab : a ≠ b) : f_X12_areLinked M (zI a) (zI b) = some (zI (zb (zlk fr h a b) : Int)) := by
  have hF := hf.1
  have ht := okH_tie hk (a := a) (b := b) (by omega) (by omega)
  have h0 := hk.1
  have hU := zU_le fr a b
  unfold f_X12_areLinked
  rw [r_twoAt M (by omega) (by omega) hab, zb_some, zI_inI (by omega) (by omega) (by omega), zI_ix (by omega) (by omega), Int.toNat_natCast, hh _ (by omega), zb_chk, zb_bnd]
  by_cases c1 : h (24 + 20 * min a b + max a b) = 1
  · rw [if_pos (by simp (disch := omega) only [zk_bind, zk_chk, zk_bnd, zk_some, zlp_l, zlp_r, zb_some, zb_bnd, zI_add, zI_sub, zI_mul, zI_neg, zI_le, zI_lt, zI_eq, zI_ix, zI_inI, Int.toNat_natCast, Int.toNat_add, Int.toNat_mul, true_and, and_true]; omega), zb_t ⟨by omega, by omega, hab, Or.inl c1⟩]; rfl
  · rw [if_neg (by simp (disch := omega) only [zk_bind, zk_chk, zk_bnd, zk_some, zlp_l, zlp_r, zb_some, zb_bnd, zI_add, zI_sub, zI_mul, zI_neg, zI_le, zI_lt, zI_eq, zI_ix, zI_inI, Int.toNat_natCast, Int.toNat_add, Int.toNat_mul, true_and, and_true]; omega)]
    by_cases c2 : h (24 + 20 * min a b + max a b) = 2
    · rw [if_pos (by simp (disch := omega) only [zk_bind, zk_chk, zk_bnd, zk_some, zlp_l, zlp_r, zb_some, zb_bnd, zI_add, zI_sub, zI_mul, zI_neg, zI_le, zI_lt, zI_eq, zI_ix, zI_inI, Int.toNat_natCast, Int.toNat_add, Int.toNat_mul, true_and, and_true]; omega), zb_f (fun hl => by have := hl.2.2.2; omega)]; rfl
    · rw [if_neg (by simp (disch := omega) only [zk_bind, zk_chk, zk_bnd, zk_some, zlp_l, zlp_r, zb_some, zb_bnd, zI_add, zI_sub, zI_mul, zI_neg, zI_le, zI_lt, zI_eq, zI_ix, zI_inI, Int.toNat_natCast, Int.toNat_add, Int.toNat_mul, true_and, and_true]; omega), r_unlikeOf hf ha hb, zb_some, show M.1 9 (zix (zI 0)) = zI (h 0) from hh 0 (by decide)]
      by_cases c3 : h 0 < (zU fr a b : Int)
      · rw [if_pos (by simp (disch := omega) only [zk_bind, zk_chk, zk_bnd, zk_some, zlp_l, zlp_r, zb_some, zb_bnd, zI_add, zI_sub, zI_mul, zI_neg, zI_le, zI_lt, zI_eq, zI_ix, zI_inI, Int.toNat_natCast, Int.toNat_add, Int.toNat_mul, true_and, and_true]; omega), zb_f (fun hl => by have := hl.2.2.2; omega)]; rfl
      · rw [if_neg (by simp (disch := omega) only [zk_bind, zk_chk, zk_bnd, zk_some, zlp_l, zlp_r, zb_some, zb_bnd, zI_add, zI_sub, zI_mul, zI_neg, zI_le, zI_lt, zI_eq, zI_ix, zI_inI, Int.toNat_natCast, Int.toNat_add, Int.toNat_mul, true_and, and_true]; omega), zb_t ⟨by omega, by omega, hab, Or.inr ⟨c2, by omega⟩⟩]; rfl
