/-! ===== how unlike two forms are ===== deps: D0 26.tool 84.frames 85.tape 86.comp 87.bits -/
def zit {α : Type} : Nat → (Nat → α → α) → α → α
  | 0, _, a => a
  | n + 1, g, a => g n (zit n g a)
def zdot (fr : Nat → Nat) (f : Nat) (x y : Int) : Bool := (fr (5 * f + ((y + 5) % 5).toNat)).testBit ((x + 5) % 5).toNat
noncomputable def zUby (fr : Nat → Nat) (a b : Nat) (r d : Int) : Nat := zsum 5 (fun y => zsum 5 (fun x => zb (zdot fr a x y ≠ zdot fr b (x + r) (y + d))))
noncomputable def zU (fr : Nat → Nat) (a b : Nat) : Nat := zit 3 (fun i c => zit 3 (fun k c => min c (zUby fr a b ((i : Int) - 1) ((k : Int) - 1))) c) 25
/-- forms in the reference -/
def formsR (F : Nat) (fr : Nat → Nat) (R : ZMem) : Prop := F ≤ 20 ∧ R.1 0 4 = zI F ∧ (∀ k, k < 5 * F → fr k < 32) ∧ ∀ k, k < 5 * F → R.1 2 k = zI (fr k)
theorem zI_min (a b : Nat) (ha : a < 2147483648) (hb : b < 2147483648) : (if zI b < zI a then zI b else zI a) = zI ((min a b : Nat) : Int) := by
  by_cases hc : b < a
  · rw [if_pos (by simp (disch := omega) only [zk_bind, zk_chk, zk_bnd, zk_some, zlp_l, zlp_r, zb_some, zb_bnd, zI_add, zI_sub, zI_mul, zI_neg, zI_le, zI_lt, zI_eq, zI_ix, zI_inI, Int.toNat_natCast, Int.toNat_add, Int.toNat_mul, true_and, and_true]; omega)]
    exact zI_inj (by omega)
  · rw [if_neg (by simp (disch := omega) only [zk_bind, zk_chk, zk_bnd, zk_some, zlp_l, zlp_r, zb_some, zb_bnd, zI_add, zI_sub, zI_mul, zI_neg, zI_le, zI_lt, zI_eq, zI_ix, zI_inI, Int.toNat_natCast, Int.toNat_add, Int.toNat_mul, true_and, and_true]; omega)]
    exact zI_inj (by omega)
theorem zI_tb {n : Nat} {k : Nat} (hn : n < 2147483648) (hk : k < 32) : (zI n >>> (zI k &&& 31)) &&& zI 1 = zI ((n.testBit k).toNat : Int) := by
  apply zu_inj
  rw [zu_and, show zu (zI 1) = 2 ^ 1 - 1 from rfl, Nat.and_two_pow_sub_one_eq_mod]
  have h1 : (zI n >>> (zI k &&& 31)).toInt = (zI n).toInt >>> k := pk_shr _ _ _ (zshl_mod k hk)
  rw [zI_toInt (by omega) (by omega), Int.shiftRight_eq_div_pow] at h1
  have h2 := zlow (zI n >>> (zI k &&& 31))
  have h3 : ((n : Int) / ((2 ^ k : Nat) : Int)) = ((n / 2 ^ k : Nat) : Int) := by omega
  rw [h1, h3] at h2
  have h4 : zu (zI n >>> (zI k &&& 31)) % 2 ^ 1 = n / 2 ^ k % 2 := by unfold zu; omega
  rw [h4, Nat.testBit_eq_decide_div_mod_eq]
  rcases Nat.mod_two_eq_zero_or_one (n / 2 ^ k) with h | h <;> simp [h] <;> decide
theorem r_dotOf {M : ZMem} {F : Nat} {fr : Nat → Nat} (h : formsR F fr M) {f : Nat} (hf : f < F) {x y : Int} (hx : -1 ≤ x) (hx' : x ≤ 5) (hy : -1 ≤ y) (hy' : y ≤ 5) : f_X12_dotOf M (zI f) (zI x) (zI y) = some (zI ((zdot fr f x y).toNat : Int)) := by
  obtain ⟨h1, h2, h3, h4⟩ := h
  have e : 5 * (f : Int) + (y + 5) % 5 = ((5 * f + ((y + 5) % 5).toNat : Nat) : Int) := by omega
  have e2 : (x + 5) % 5 = ((((x + 5) % 5).toNat : Nat) : Int) := by omega
  unfold f_X12_dotOf zdot
  rw [zI_add, zI_add, zI_rem (by omega) (by omega) (by omega) (by omega), zI_rem (by omega) (by omega) (by omega) (by omega), zI_mul, zI_add, e, zI_ix (by omega) (by omega), Int.toNat_natCast, h4 _ (by omega), zI_inI (by omega) (by omega) (by omega)]
  show some _ = _
  rw [e2, zI_tb (by have := h3 (5 * f + ((y + 5) % 5).toNat) (by omega); omega) (by omega)]
  simp only [Int.toNat_natCast]
theorem zxor_b (a b : Bool) : (zI (a.toNat : Int) ^^^ zI (b.toNat : Int)) = zI (zb (a ≠ b) : Int) := by
  cases a <;> cases b <;> simp [zb] <;> decide
theorem zUby_le (fr : Nat → Nat) (a b : Nat) (r d : Int) : zUby fr a b r d ≤ 25 := by
  unfold zUby
  exact zsum_le (n := 5) (c := 5) (fun i _ => zsum_le1 (fun j _ => zb_le _))
theorem r_unlikeBy {M : ZMem} {F : Nat} {fr : Nat → Nat} (h : formsR F fr M) {a b : Nat} (ha : a < F) (hb : b < F) {r d : Int} (hr : -1 ≤ r) (hr' : r ≤ 1) (hd : -1 ≤ d) (hd' : d ≤ 1) : f_X12_unlikeBy M (zI a) (zI b) (zI r) (zI d) = some (zI (zUby fr a b r d)) := by
  apply zOk_is
  unfold f_X12_unlikeBy
  rw [zk_bind]
  refine zOk_for0 (fun i s => s = (zI (zsum i (fun y => zsum 5 (fun x => zb (zdot fr a x y ≠ zdot fr b (x + r) (y + d))))), zI i)) 5 ?_ ?_ rfl
  · rintro i s hi rfl
    unfold f_X12_unlikeBy_L6
    dsimp only
    rw [if_neg (by simp (disch := omega) only [zk_bind, zk_chk, zk_bnd, zk_some, zlp_l, zlp_r, zb_some, zb_bnd, zI_add, zI_sub, zI_mul, zI_neg, zI_le, zI_lt, zI_eq, zI_ix, zI_inI, Int.toNat_natCast, Int.toNat_add, Int.toNat_mul, true_and, and_true]; omega), zk_bind]
    refine zOk_for0 (fun j s => s = (zI ((zsum i (fun y => zsum 5 (fun x => zb (zdot fr a x y ≠ zdot fr b (x + r) (y + d)))) + zsum j (fun x => zb (zdot fr a x i ≠ zdot fr b (x + r) (i + d))) : Nat) : Int), zI j)) 5 ?_ ?_ rfl
    · rintro j s hj rfl
      unfold f_X12_unlikeBy_L15
      dsimp only
      rw [if_neg (by simp (disch := omega) only [zk_bind, zk_chk, zk_bnd, zk_some, zlp_l, zlp_r, zb_some, zb_bnd, zI_add, zI_sub, zI_mul, zI_neg, zI_le, zI_lt, zI_eq, zI_ix, zI_inI, Int.toNat_natCast, Int.toNat_add, Int.toNat_mul, true_and, and_true]; omega), zI_add, zI_add]
      rw [r_dotOf h ha (by omega) (by omega) (by omega) (by omega), r_dotOf h hb (by omega) (by omega) (by omega) (by omega)]
      simp only [zb_some, zb_bnd, zk_some, zlp_l, zxor_b, zI_add, zsum_s]
      exact Prod.ext (zI_inj (by omega)) (zI_inj (by omega))
    · rintro s rfl
      unfold f_X12_unlikeBy_L15
      dsimp only
      rw [if_pos (by simp (disch := omega) only [zk_bind, zk_chk, zk_bnd, zk_some, zlp_l, zlp_r, zb_some, zb_bnd, zI_add, zI_sub, zI_mul, zI_neg, zI_le, zI_lt, zI_eq, zI_ix, zI_inI, Int.toNat_natCast, Int.toNat_add, Int.toNat_mul, true_and, and_true]; omega), zk_some, zlp_r]
      simp (disch := omega) only [zk_bind, zk_chk, zk_bnd, zk_some, zlp_l, zlp_r, zb_some, zb_bnd, zI_add, zI_sub, zI_mul, zI_neg, zI_le, zI_lt, zI_eq, zI_ix, zI_inI, Int.toNat_natCast, Int.toNat_add, Int.toNat_mul, true_and, and_true]
      exact Prod.ext rfl (zI_inj (by omega))
  · rintro s rfl
    unfold f_X12_unlikeBy_L6
    dsimp only
    rw [if_pos (by simp (disch := omega) only [zk_bind, zk_chk, zk_bnd, zk_some, zlp_l, zlp_r, zb_some, zb_bnd, zI_add, zI_sub, zI_mul, zI_neg, zI_le, zI_lt, zI_eq, zI_ix, zI_inI, Int.toNat_natCast, Int.toNat_add, Int.toNat_mul, true_and, and_true]; omega), zk_some, zlp_r, zk_some]
    rfl
theorem r_unlikeOf {M : ZMem} {F : Nat} {fr : Nat → Nat} (h : formsR F fr M) {a b : Nat} (ha : a < F) (hb : b < F) : f_X12_unlikeOf M (zI a) (zI b) = some (zI (zU fr a b)) := by
  apply zOk_is
  unfold f_X12_unlikeOf
  rw [zk_bind]
  have hle : ∀ (n : Nat) (g : Nat → Nat) (c : Nat), c ≤ 25 → zit n (fun k c => min c (g k)) c ≤ 25 := by
    intro n g c hc
    induction n with
    | zero => exact hc
    | succ n ih =>
      show min _ _ ≤ 25
      omega
  refine zOk_for0 (fun i s => ∃ c : Nat, c ≤ 25 ∧ c = zit i (fun i c => zit 3 (fun k c => min c (zUby fr a b ((i : Int) - 1) ((k : Int) - 1))) c) 25 ∧ s = (zI c, zI ((i : Int) - 1))) 3 ?_ ?_ ⟨25, by omega, rfl, rfl⟩
  · rintro i s hi ⟨c, hc, ec, rfl⟩
    unfold f_X12_unlikeOf_L6
    dsimp only
    rw [if_neg (by simp (disch := omega) only [zk_bind, zk_chk, zk_bnd, zk_some, zlp_l, zlp_r, zb_some, zb_bnd, zI_add, zI_sub, zI_mul, zI_neg, zI_le, zI_lt, zI_eq, zI_ix, zI_inI, Int.toNat_natCast, Int.toNat_add, Int.toNat_mul, true_and, and_true]; omega), zk_bind]
    refine zOk_for0 (fun j s => ∃ c' : Nat, c' ≤ 25 ∧ c' = zit j (fun k c => min c (zUby fr a b ((i : Int) - 1) ((k : Int) - 1))) c ∧ s = (zI c', zI ((j : Int) - 1))) 3 ?_ ?_ ⟨c, hc, rfl, rfl⟩
    · rintro j s hj ⟨c', hc', ec', rfl⟩
      unfold f_X12_unlikeOf_L15
      dsimp only
      have hl := zUby_le fr a b ((i : Int) - 1) ((j : Int) - 1)
      rw [if_neg (by simp (disch := omega) only [zk_bind, zk_chk, zk_bnd, zk_some, zlp_l, zlp_r, zb_some, zb_bnd, zI_add, zI_sub, zI_mul, zI_neg, zI_le, zI_lt, zI_eq, zI_ix, zI_inI, Int.toNat_natCast, Int.toNat_add, Int.toNat_mul, true_and, and_true]; omega), r_unlikeBy h ha hb (by omega) (by omega) (by omega) (by omega)]
      simp only [zb_some, zb_bnd, zk_some, zlp_l]
      rw [zI_min _ _ (by omega) (by omega), zI_add]
      refine ⟨_, ?_, ?_, Prod.ext rfl (zI_inj (by omega))⟩
      · omega
      · unfold zit
        rw [ec']
    · rintro s ⟨c', hc', ec', rfl⟩
      unfold f_X12_unlikeOf_L15
      dsimp only
      rw [if_pos (by simp (disch := omega) only [zk_bind, zk_chk, zk_bnd, zk_some, zlp_l, zlp_r, zb_some, zb_bnd, zI_add, zI_sub, zI_mul, zI_neg, zI_le, zI_lt, zI_eq, zI_ix, zI_inI, Int.toNat_natCast, Int.toNat_add, Int.toNat_mul, true_and, and_true]; omega), zk_some, zlp_r]
      simp (disch := omega) only [zk_bind, zk_chk, zk_bnd, zk_some, zlp_l, zlp_r, zb_some, zb_bnd, zI_add, zI_sub, zI_mul, zI_neg, zI_le, zI_lt, zI_eq, zI_ix, zI_inI, Int.toNat_natCast, Int.toNat_add, Int.toNat_mul, true_and, and_true]
      refine ⟨c', hc', ?_, Prod.ext rfl (zI_inj (by omega))⟩
      rw [ec', ec]
      rfl
  · rintro s ⟨c, hc, ec, rfl⟩
    unfold f_X12_unlikeOf_L6
    dsimp only
    rw [if_pos (by simp (disch := omega) only [zk_bind, zk_chk, zk_bnd, zk_some, zlp_l, zlp_r, zb_some, zb_bnd, zI_add, zI_sub, zI_mul, zI_neg, zI_le, zI_lt, zI_eq, zI_ix, zI_inI, Int.toNat_natCast, Int.toNat_add, Int.toNat_mul, true_and, and_true]; omega), zk_some, zlp_r, zk_some, ec]
    rfl
