/-! ===== stones, and how they are read: the class ===== deps: 92.signsr -/
noncomputable def zif {α : Type} (p : Prop) (a b : α) : α := @ite α p (Classical.propDecidable p) a b
theorem zif_t {α : Type} {p : Prop} (h : p) (a b : α) : zif p a b = a := by unfold zif; exact if_pos h
theorem zif_f {α : Type} {p : Prop} (h : ¬ p) (a b : α) : zif p a b = b := by unfold zif; exact if_neg h
/-- a set of small numbers as bits -/
def zMk (x : Int32) (n : Nat) (P : Nat → Prop) : Prop := ∃ m : Nat, x = zI m ∧ m < 2 ^ n ∧ ∀ b, m.testBit b = true ↔ P b
theorem zMk_0 (n : Nat) {P : Nat → Prop} (h : ∀ b, ¬ P b) : zMk (zI 0) n P := ⟨0, rfl, Nat.two_pow_pos n, fun b => by rw [Nat.zero_testBit]; exact ⟨fun hb => Bool.noConfusion hb, fun hb => absurd hb (h b)⟩⟩
theorem zMk_lt {x : Int32} {n : Nat} {P : Nat → Prop} (h : zMk x n P) {b : Nat} (hb : P b) : b < n := by
  obtain ⟨m, h1, h2, h3⟩ := h
  by_cases hn : b < n
  · exact hn
  · have := (h3 b).mpr hb
    rw [zbit_hi h2 (by omega)] at this
    cases this
theorem zMk_cg {x : Int32} {n : Nat} {P Q : Nat → Prop} (h : zMk x n P) (e : ∀ b, P b ↔ Q b) : zMk x n Q := by
  obtain ⟨m, h1, h2, h3⟩ := h
  exact ⟨m, h1, h2, fun b => (h3 b).trans (e b)⟩
theorem zpow_le {n : Nat} (hn : n ≤ 31) {m : Nat} (hm : m < 2 ^ n) : m < 2147483648 := Nat.lt_of_lt_of_le hm (Nat.pow_le_pow_right (by decide) hn)
theorem zMk_oo {x y : Int32} {n : Nat} {P Q : Nat → Prop} (hn : n ≤ 31) (h : zMk x n P) (h' : zMk y n Q) : zMk (x ||| y) n (fun b => P b ∨ Q b) := by
  obtain ⟨m, h1, h2, h3⟩ := h
  obtain ⟨m', h1', h2', h3'⟩ := h'
  refine ⟨m ||| m', ?_, Nat.or_lt_two_pow h2 h2', fun b => ?_⟩
  · rw [h1, h1', zI_or (by have := zpow_le hn h2; omega) (by have := zpow_le hn h2'; omega)]
  · rw [Nat.testBit_or, Bool.or_eq_true]
    exact or_congr (h3 b) (h3' b)
theorem zMk_one {n v : Nat} (hv : v < n) (hn : n ≤ 31) : zMk (zI 1 <<< (zI v &&& 31)) n (fun b => b = v) := by
  refine ⟨2 ^ v, zI_shl (by omega), Nat.pow_lt_pow_right (by decide) hv, fun b => ?_⟩
  rw [Nat.testBit_two_pow, decide_eq_true_eq]
  exact ⟨Eq.symm, Eq.symm⟩
theorem zMk_or {x : Int32} {n v : Nat} {P : Nat → Prop} (hn : n ≤ 31) (h : zMk x n P) (hv : v < n) : zMk (x ||| (zI 1 <<< (zI v &&& 31))) n (fun b => P b ∨ b = v) := zMk_oo hn h (zMk_one hv hn)
theorem zMk_pop {x : Int32} {n : Nat} {P : Nat → Prop} (hn : n ≤ 31) (h : zMk x n P) (M : ZMem) : f_J6_bitCount_0f7a4 M x = some (zI (zsum n (fun b => zb (P b)))) := by
  obtain ⟨m, h1, h2, h3⟩ := h
  have := zpow_le hn h2
  rw [h1, zpop_I (by omega), zpop_is (n := n) (S := P) (by omega)]
  intro b
  rw [h3 b]
  exact ⟨fun hb => ⟨zMk_lt ⟨m, h1, h2, h3⟩ hb, hb⟩, fun hb => hb.2⟩
theorem zMk_bit {x : Int32} {n v : Nat} {P : Nat → Prop} (hn : n ≤ 31) (h : zMk x n P) (hv : v < 32) : zushr x (zI v) &&& zI 1 = zI (zb (P v)) := by
  obtain ⟨m, h1, h2, h3⟩ := h
  have := zpow_le hn h2
  rw [h1, zI_bit (by omega) hv]
  by_cases hp : P v
  · rw [zb_t hp, (h3 v).mpr hp]; rfl
  · rw [zb_f hp]
    cases hb : m.testBit v with
    | false => rfl
    | true => exact absurd ((h3 v).mp hb) hp
abbrev ZS := Nat × (Nat → Nat) × (Nat → Nat) × (Nat → Nat) × (Nat → Nat) × (Nat → Nat)
def sS (s : ZS) : Nat := s.1
def sm (s : ZS) : Nat → Nat := s.2.1
def sl (s : ZS) : Nat → Nat := s.2.2.1
def sn (s : ZS) : Nat → Nat := s.2.2.2.1
def sr (s : ZS) : Nat → Nat := s.2.2.2.2.1
def sx (s : ZS) : Nat → Nat := s.2.2.2.2.2
def zex (s : ZS) (q : Nat) : Prop := q / 4 < sS s ∧ q % 4 < sm s (q / 4)
def okS (F : Nat) (s : ZS) : Prop := sS s ≤ 6 ∧ (∀ t, t < sS s → 1 ≤ sm s t ∧ sm s t ≤ 4) ∧ ∀ q, zex s q → 1 ≤ sn s q ∧ sl s q + sn s q + sr s q ≤ 10 ∧ ∀ k, k < sn s q → sx s (10 * q + k) < F
def stonesC (s : ZS) (C : ZMem) : Prop := C.1 11 5 = zI (sS s) ∧ (∀ t, t < sS s → C.1 16 t = zI (sm s t)) ∧ ∀ q, zex s q → C.1 13 q = zI (sn s q) ∧ C.1 14 q = zI (sl s q) ∧ C.1 15 q = zI (sr s q) ∧ ∀ k, k < sn s q → C.1 12 (10 * q + k) = zI (sx s (10 * q + k))
def stonesR (s : ZS) (R : ZMem) : Prop := R.1 0 8 = zI (sS s) ∧ (∀ t, t < sS s → R.1 4 t = zI (sm s t)) ∧ ∀ q, zex s q → R.1 5 q = zI ((sl s q + sn s q + sr s q : Nat) : Int) ∧ (∀ k, k < sl s q → R.1 6 (10 * q + k) = zI (-1)) ∧ (∀ k, k < sn s q → R.1 6 (10 * q + (sl s q + k)) = zI (sx s (10 * q + k))) ∧ (∀ k, k < sr s q → R.1 6 (10 * q + (sl s q + sn s q + k)) = zI (-1))
def dstonesC (a k : Nat) : Bool := a == 12 || a == 13 || a == 14 || a == 15 || a == 16 || (a == 11 && k == 5)
theorem stonesC_x {s : ZS} {M0 M : ZMem} (hx : ∀ a k, dstonesC a k = true → M.1 a k = M0.1 a k) (h : stonesC s M0) : stonesC s M := ⟨by rw [hx 11 5 rfl]; exact h.1, fun t ht => by rw [hx 16 t rfl]; exact h.2.1 t ht, fun q hq => ⟨by rw [hx 13 q rfl]; exact (h.2.2 q hq).1, by rw [hx 14 q rfl]; exact (h.2.2 q hq).2.1, by rw [hx 15 q rfl]; exact (h.2.2 q hq).2.2.1, fun k hk => by rw [hx 12 _ rfl]; exact (h.2.2 q hq).2.2.2 k hk⟩⟩
def dstonesR (a k : Nat) : Bool := a == 4 || a == 5 || a == 6 || (a == 0 && k == 8)
theorem stonesR_x {s : ZS} {M0 M : ZMem} (hx : ∀ a k, dstonesR a k = true → M.1 a k = M0.1 a k) (h : stonesR s M0) : stonesR s M := ⟨by rw [hx 0 8 rfl]; exact h.1, fun t ht => by rw [hx 4 t rfl]; exact h.2.1 t ht, fun q hq => ⟨by rw [hx 5 q rfl]; exact (h.2.2 q hq).1, fun k hk => by rw [hx 6 _ rfl]; exact (h.2.2 q hq).2.1 k hk, fun k hk => by rw [hx 6 _ rfl]; exact (h.2.2 q hq).2.2.1 k hk, fun k hk => by rw [hx 6 _ rfl]; exact (h.2.2 q hq).2.2.2 k hk⟩⟩
theorem zex_of {s : ZS} {t r : Nat} (ht : t < sS s) (hr : r < sm s t) (hr4 : r < 4) : zex s (4 * t + r) := by
  refine ⟨?_, ?_⟩
  · rw [show (4 * t + r) / 4 = t by omega]; exact ht
  · rw [show (4 * t + r) / 4 = t by omega, show (4 * t + r) % 4 = r by omega]; exact hr
theorem zex_no {s : ZS} {t r : Nat} (hr : sm s t ≤ r) (hr4 : r < 4) : ¬ zex s (4 * t + r) := by
  intro h
  have h2 := h.2
  rw [show (4 * t + r) / 4 = t by omega, show (4 * t + r) % 4 = r by omega] at h2
  omega
theorem zex_lt {F : Nat} {s : ZS} (hs : okS F s) {q : Nat} (h : zex s q) : q < 24 := by
  have := h.1
  have := hs.1
  omega
theorem zex_hi {s : ZS} {q : Nat} (h : 4 * sS s ≤ q) : ¬ zex s q := fun hq => by have := hq.1; omega
/-- past the rows that a stone has -/
theorem zskip {s : ZS} (P : Nat → Prop) (hP : ∀ q, ¬ zex s q → P q → P (q + 1)) {t : Nat} (hm : sm s t ≤ 4) (h : P (4 * t + sm s t)) : P (4 * (t + 1)) := by
  have key : ∀ d r, r + d = 4 → sm s t ≤ r → P (4 * t + r) → P (4 * (t + 1)) := by
    intro d
    induction d with
    | zero =>
      intro r hr _ hp
      rw [show 4 * (t + 1) = 4 * t + r by omega]
      exact hp
    | succ d ih =>
      intro r hr hm' hp
      exact ih (r + 1) (by omega) (by omega) (hP _ (zex_no hm' (by omega)) hp)
  exact key (4 - sm s t) (sm s t) (by omega) (Nat.le_refl _) h
theorem zskipTo {s : ZS} (P : Nat → Prop) (hP : ∀ q, ¬ zex s q → P q → P (q + 1)) {m : Nat} (hm : 4 * sS s ≤ m) (h : P (4 * sS s)) : P m := by
  obtain ⟨d, rfl⟩ := Nat.exists_eq_add_of_le hm
  clear hm
  induction d with
  | zero => exact h
  | succ d ih => exact hP _ (zex_hi (Nat.le_add_right _ _)) ih
noncomputable def zrag (s : ZS) (side : Nat) : Nat := zsum (sS s) (fun t => zb (2 ≤ sm s t ∧ if side = 0 then sl s (4 * t + (sm s t - 1)) < sr s (4 * t + (sm s t - 1)) else sr s (4 * t + (sm s t - 1)) < sl s (4 * t + (sm s t - 1))))
def zend (s : ZS) (sg : Nat → Nat) (side q : Nat) : Nat := sg (sx s (10 * q + (if side = 0 then sn s q - 1 else 0)))
noncomputable def zends (s : ZS) (sg : Nat → Nat) (side : Nat) : Nat := zsum 20 (fun b => zb (∃ q, zex s q ∧ zend s sg side q = b))
noncomputable def zjud (s : ZS) (sg : Nat → Nat) : Nat := if zrag s 0 = zrag s 1 then (if zends s sg 1 < zends s sg 0 then 1 else 0) else if zrag s 1 < zrag s 0 then 0 else 1
noncomputable def zby (s : ZS) (sg : Nat → Nat) (w : Int) : Int := if w = 3 then zjud s sg else w
def zturn (s : ZS) (sg : Nat → Nat) (w : Int) (q : Nat) : Prop := zby s sg w = 1 ∨ zby s sg w = 2 ∧ q % 4 % 2 = 1
noncomputable def zRL (s : ZS) (q : Nat) : Nat := zif (zex s q) (sn s q) 0
noncomputable def zRS (s : ZS) (sg : Nat → Nat) (w : Int) (q k : Nat) : Nat := sg (sx s (10 * q + zif (zturn s sg w q) (sn s q - 1 - k) k))
theorem zrag_le {F : Nat} {s : ZS} (hs : okS F s) (side : Nat) : zrag s side ≤ 6 := Nat.le_trans (zsum_le1 (fun _ _ => zb_le _)) hs.1
theorem zends_le (s : ZS) (sg : Nat → Nat) (side : Nat) : zends s sg side ≤ 20 := zsum_le1 (fun _ _ => zb_le _)
-- the class
theorem c_rowsOf {M : ZMem} {F : Nat} {s : ZS} (hs : okS F s) (h : stonesC s M) {t : Nat} (ht : t < sS s) : f_X7_rowsOf M (zI t) = some (zI (sm s t)) := by
  have := hs.1
  unfold f_X7_rowsOf
  rw [h.1, if_neg (by simp (disch := omega) only [zk_bind, zk_chk, zk_bnd, zk_some, zlp_l, zlp_r, zb_some, zb_bnd, zI_add, zI_sub, zI_mul, zI_neg, zI_le, zI_lt, zI_eq, zI_ix, zI_inI, Int.toNat_natCast, Int.toNat_add, Int.toNat_mul, true_and, and_true]; omega), if_neg (by simp (disch := omega) only [zk_bind, zk_chk, zk_bnd, zk_some, zlp_l, zlp_r, zb_some, zb_bnd, zI_add, zI_sub, zI_mul, zI_neg, zI_le, zI_lt, zI_eq, zI_ix, zI_inI, Int.toNat_natCast, Int.toNat_add, Int.toNat_mul, true_and, and_true]; omega), zI_inI (by omega) (by omega) (by omega), zb_chk, zI_ix (by omega) (by omega), Int.toNat_natCast, h.2.1 t ht]
theorem c_rowNumber {M : ZMem} {F : Nat} {s : ZS} (hs : okS F s) (h : stonesC s M) {t r : Nat} (ht : t < sS s) (hr : r < sm s t) : f_X7_rowNumber M (zI t) (zI r) = some (zI ((4 * t + r : Nat) : Int)) := by
  have := hs.1
  have h4 := hs.2.1 t ht
  unfold f_X7_rowNumber
  rw [if_neg (by simp (disch := omega) only [zk_bind, zk_chk, zk_bnd, zk_some, zlp_l, zlp_r, zb_some, zb_bnd, zI_add, zI_sub, zI_mul, zI_neg, zI_le, zI_lt, zI_eq, zI_ix, zI_inI, Int.toNat_natCast, Int.toNat_add, Int.toNat_mul, true_and, and_true]; omega), c_rowsOf hs h ht, zb_some, if_neg (by simp (disch := omega) only [zk_bind, zk_chk, zk_bnd, zk_some, zlp_l, zlp_r, zb_some, zb_bnd, zI_add, zI_sub, zI_mul, zI_neg, zI_le, zI_lt, zI_eq, zI_ix, zI_inI, Int.toNat_natCast, Int.toNat_add, Int.toNat_mul, true_and, and_true]; omega), zI_mul, zI_add]
  exact congrArg some (zI_inj (by omega))
theorem c_isRow {M : ZMem} {q : Nat} (hq : q < 24) : f_X7_isRow M (zI q) = some (zI 1) := by
  unfold f_X7_isRow
  rw [if_neg (by simp (disch := omega) only [zk_bind, zk_chk, zk_bnd, zk_some, zlp_l, zlp_r, zb_some, zb_bnd, zI_add, zI_sub, zI_mul, zI_neg, zI_le, zI_lt, zI_eq, zI_ix, zI_inI, Int.toNat_natCast, Int.toNat_add, Int.toNat_mul, true_and, and_true]; omega), if_neg (by simp (disch := omega) only [zk_bind, zk_chk, zk_bnd, zk_some, zlp_l, zlp_r, zb_some, zb_bnd, zI_add, zI_sub, zI_mul, zI_neg, zI_le, zI_lt, zI_eq, zI_ix, zI_inI, Int.toNat_natCast, Int.toNat_add, Int.toNat_mul, true_and, and_true]; omega)]
theorem c_raggedness {M : ZMem} {F : Nat} {s : ZS} (hs : okS F s) (h : stonesC s M) {q : Nat} (hq : zex s q) : f_X7_raggedness M (zI q) = some (zI ((sr s q : Int) - sl s q)) := by
  have := zex_lt hs hq
  unfold f_X7_raggedness
  rw [c_isRow (by omega), zb_some, if_neg (by decide), zI_inI (by omega) (by omega) (by omega), zb_chk, zb_chk, zI_ix (by omega) (by omega), Int.toNat_natCast, (h.2.2 q hq).2.1, (h.2.2 q hq).2.2.1, zI_sub]
theorem c_lengthOf7 {M : ZMem} {F : Nat} {s : ZS} (hs : okS F s) (h : stonesC s M) {q : Nat} (hq : zex s q) : f_X7_lengthOf M (zI q) = some (zI (sn s q)) := by
  have := zex_lt hs hq
  unfold f_X7_lengthOf
  rw [c_isRow (by omega), zb_some, if_neg (by decide), zI_inI (by omega) (by omega) (by omega), zb_chk, zI_ix (by omega) (by omega), Int.toNat_natCast, (h.2.2 q hq).1]
theorem c_letterAt {M : ZMem} {F : Nat} {s : ZS} (hs : okS F s) (h : stonesC s M) {q k : Nat} (hq : zex s q) (hk : k < sn s q) : f_X7_letterAt M (zI q) (zI k) = some (zI (sx s (10 * q + k))) := by
  have := zex_lt hs hq
  have := hs.2.2 q hq
  unfold f_X7_letterAt
  rw [c_isRow (by omega), zb_some, if_neg (by decide), if_neg (by simp (disch := omega) only [zk_bind, zk_chk, zk_bnd, zk_some, zlp_l, zlp_r, zb_some, zb_bnd, zI_add, zI_sub, zI_mul, zI_neg, zI_le, zI_lt, zI_eq, zI_ix, zI_inI, Int.toNat_natCast, Int.toNat_add, Int.toNat_mul, true_and, and_true]; omega), zI_inI (by omega) (by omega) (by omega), zb_chk, zI_ix (by omega) (by omega), Int.toNat_natCast, (h.2.2 q hq).1, if_neg (by simp (disch := omega) only [zk_bind, zk_chk, zk_bnd, zk_some, zlp_l, zlp_r, zb_some, zb_bnd, zI_add, zI_sub, zI_mul, zI_neg, zI_le, zI_lt, zI_eq, zI_ix, zI_inI, Int.toNat_natCast, Int.toNat_add, Int.toNat_mul, true_and, and_true]; omega), zI_mul, zI_add, zI_inI (by omega) (by omega) (by omega), zb_chk, zI_ix (by omega) (by omega), show ((q : Int) * 10 + k).toNat = 10 * q + k by omega, (h.2.2 q hq).2.2.2 k hk]
/-- what is judged -/
def judC (s : ZS) (sg : Nat → Nat) (C : ZMem) : Prop := C.1 30 5 = zI (zrag s 0) ∧ C.1 30 6 = zI (zrag s 1) ∧ C.1 30 7 = zI (zends s sg 0) ∧ C.1 30 8 = zI (zends s sg 1)
theorem zOk_forQ {S E : Type} {step : S → Option (S ⊕ E)} {K : E → Prop} (I : Nat → S → Prop) (n : Nat) (hs : ∀ i s, i < n → I i s → ∀ Q : S ⊕ E → Prop, (∀ s', I (i + 1) s' → Q (.inl s')) → (∀ e, K e → Q (.inr e)) → zOk (step s) Q) (he : ∀ s, I n s → ∃ e, step s = some (.inr e) ∧ K e) {s : S} (h0 : I 0 s) : zOk (zloop step s) K := by
  refine zOk_for0 I n (fun i s hi h => hs i s hi h _ (fun s' h' => h') (fun e h' => h')) (fun s h => ?_) h0
  obtain ⟨e, h1, h2⟩ := he s h
  exact ⟨_, h1, h2⟩
theorem zexS {s : ZS} {q : Nat} (P : Nat → Prop) (h : zex s q) : (∃ q', q' < q + 1 ∧ zex s q' ∧ P q') ↔ (∃ q', q' < q ∧ zex s q' ∧ P q') ∨ P q := by
  constructor
  · rintro ⟨q', h1, h2, h3⟩
    by_cases he : q' = q
    · subst he
      exact Or.inr h3
    · exact Or.inl ⟨q', by omega, h2, h3⟩
  · rintro (⟨q', h1, h2, h3⟩ | h3)
    · exact ⟨q', by omega, h2, h3⟩
    · exact ⟨q, by omega, h, h3⟩
theorem zexN {s : ZS} {q : Nat} (P : Nat → Prop) (h : ¬ zex s q) : (∃ q', q' < q ∧ zex s q' ∧ P q') ↔ (∃ q', q' < q + 1 ∧ zex s q' ∧ P q') := by
  constructor
  · rintro ⟨q', h1, h2, h3⟩
    exact ⟨q', by omega, h2, h3⟩
  · rintro ⟨q', h1, h2, h3⟩
    by_cases he : q' = q
    · subst he
      exact absurd h2 h
    · exact ⟨q', by omega, h2, h3⟩
def zWjud (a k : Nat) : Bool := a == 30 && (k == 5 || k == 6 || k == 7 || k == 8)
noncomputable def zrag1 (s : ZS) (side t : Nat) : Nat := zb (2 ≤ sm s t ∧ if side = 0 then sl s (4 * t + (sm s t - 1)) < sr s (4 * t + (sm s t - 1)) else sr s (4 * t + (sm s t - 1)) < sl s (4 * t + (sm s t - 1)))
theorem c_judge {M : ZMem} {F : Nat} {s : ZS} {sg : Nat → Nat} (hF : F ≤ 20) (hF1 : M.1 3 7 = zI F) (hsg : ∀ f, f < F → M.1 9 f = zI (sg f)) (hsl : ∀ f, f < F → sg f < 20) (hs : okS F s) (h : stonesC s M) : zOk (f_X6_judge M) (fun M' => judC s sg M' ∧ zP zWjud M M') := by
  have hS := hs.1
  have hel : ∀ side q, zex s q → zend s sg side q < 20 := by
    intro side q hq
    have h1 := hs.2.2 q hq
    refine hsl _ (h1.2.2 _ ?_)
    split <;> omega
  unfold f_X6_judge
  rw [zk_bnd, zk_bnd, zk_bind]
  refine zOk_forQ (fun t x => x.2.2.2 = zI t ∧ zP zWjud M x.1 ∧ x.1.1 30 5 = zI (zsum t (zrag1 s 0)) ∧ x.1.1 30 6 = zI (zsum t (zrag1 s 1)) ∧ zMk x.2.1 20 (fun b => ∃ q, q < 4 * t ∧ zex s q ∧ zend s sg 0 q = b) ∧ zMk x.2.2.1 20 (fun b => ∃ q, q < 4 * t ∧ zex s q ∧ zend s sg 1 q = b)) (sS s) ?_ ?_ ⟨rfl, zP_I (zP_I zP_rf rfl) rfl, by rw [zm_In _ _ _ _ (by decide), zm_Is]; rfl, by rw [zm_Is]; rfl, zMk_0 20 (fun b ⟨q, hq, _⟩ => by omega), zMk_0 20 (fun b ⟨q, hq, _⟩ => by omega)⟩
  · rintro t ⟨x1, x2, x3, x4⟩ ht ⟨e1, e2, e3, e4, e5, e6⟩ Q hQ _
    dsimp only at e1 e2 e3 e4 e5 e6
    have hm := hs.2.1 t ht
    have hx : ∀ {M' : ZMem}, zP zWjud M M' → stonesC s M' := fun hp => stonesC_x (fun a k ha => hp.1 a k (by unfold dstonesC at ha; unfold zWjud; simp at ha ⊢; omega)) h
    have h1 := hx e2
    -- the end of the body, from any memory with the two counts
    have key : ∀ (M' : ZMem) (v : Nat), zP zWjud M M' → M'.1 30 5 = zI (zsum (t + 1) (zrag1 s 0)) → M'.1 30 6 + zI v = zI (zsum (t + 1) (zrag1 s 1)) → zOk (f_X6_judge_95_L18 M' x2 x3 (zI t) (zI (sm s t)) (M'.1 30 6) (zI v)) Q := by
      intro M' v p1 p2 p3
      unfold f_X6_judge_95_L18
      rw [zk_bnd, p3, zk_bind]
      have p4 : zP zWjud M (zstI M' 30 6 (zI (zsum (t + 1) (zrag1 s 1)))) := zP_I p1 rfl
      have p5 : (zstI M' 30 6 (zI (zsum (t + 1) (zrag1 s 1)))).1 30 5 = zI (zsum (t + 1) (zrag1 s 0)) := by rw [zm_In _ _ _ _ (by decide)]; exact p2
      have p6 : (zstI M' 30 6 (zI (zsum (t + 1) (zrag1 s 1)))).1 30 6 = zI (zsum (t + 1) (zrag1 s 1)) := by rw [zm_Is]
      generalize zstI M' 30 6 (zI (zsum (t + 1) (zrag1 s 1))) = M2 at p4 p5 p6 ⊢
      have h2 := hx p4
      refine zOk_for0 (fun r x => x.2.2 = zI r ∧ zMk x.1 20 (fun b => ∃ q, q < 4 * t + r ∧ zex s q ∧ zend s sg 0 q = b) ∧ zMk x.2.1 20 (fun b => ∃ q, q < 4 * t + r ∧ zex s q ∧ zend s sg 1 q = b)) (sm s t) ?_ ?_ ⟨rfl, e5, e6⟩
      · rintro r ⟨y1, y2, y3⟩ hr ⟨d1, d2, d3⟩
        dsimp only at d1 d2 d3
        have hq := zex_of ht hr (by omega)
        have hn := hs.2.2 _ hq
        have hg : ∀ f, f < F → M2.1 9 f = zI (sg f) := fun f hf => by rw [p4.1 9 f rfl]; exact hsg f hf
        have hf1 := (p4.1 3 7 rfl).trans hF1
        unfold f_X6_judge_L102
        dsimp only
        rw [d1, if_neg (by simp (disch := omega) only [zk_bind, zk_chk, zk_bnd, zk_some, zlp_l, zlp_r, zb_some, zb_bnd, zI_add, zI_sub, zI_mul, zI_neg, zI_le, zI_lt, zI_eq, zI_ix, zI_inI, Int.toNat_natCast, Int.toNat_add, Int.toNat_mul, true_and, and_true]; omega), c_rowNumber hs h2 ht hr, zb_some, c_lengthOf7 hs h2 hq, zb_some, zI_sub, show ((sn s (4 * t + r) : Int) - 1) = ((sn s (4 * t + r) - 1 : Nat) : Int) by omega, c_letterAt hs h2 hq (by omega), zb_some, c_signOfN hf1 hF hg (hn.2.2 _ (by omega)), zb_some, zb_bnd, show zI 0 = zI ((0 : Nat) : Int) from rfl, c_letterAt hs h2 hq (by omega), zb_some, c_signOfN hf1 hF hg (hn.2.2 _ (by omega)), zb_some, zb_bnd, zb_bnd, zk_some, zlp_l]
        exact ⟨by rw [zI_add]; exact zI_inj (by omega), zMk_cg (zMk_or (by decide) d2 (hel 0 _ hq)) (fun b => by rw [← Nat.add_assoc, zexS _ hq]; exact or_congr Iff.rfl ⟨Eq.symm, Eq.symm⟩), zMk_cg (zMk_or (by decide) d3 (hel 1 _ hq)) (fun b => by rw [← Nat.add_assoc, zexS _ hq]; exact or_congr Iff.rfl ⟨Eq.symm, Eq.symm⟩)⟩
      · rintro ⟨y1, y2, y3⟩ ⟨d1, d2, d3⟩
        dsimp only at d1 d2 d3
        unfold f_X6_judge_L102
        dsimp only
        rw [d1, if_pos (by simp (disch := omega) only [zk_bind, zk_chk, zk_bnd, zk_some, zlp_l, zlp_r, zb_some, zb_bnd, zI_add, zI_sub, zI_mul, zI_neg, zI_le, zI_lt, zI_eq, zI_ix, zI_inI, Int.toNat_natCast, Int.toNat_add, Int.toNat_mul, true_and, and_true]; omega), zk_some, zlp_r, zk_bnd, zk_some]
        refine hQ _ ⟨by rw [zI_add]; exact zI_inj (by omega), p4, p5, p6, ?_, ?_⟩
        · exact zskip (fun Q => zMk y1 20 (fun b => ∃ q, q < Q ∧ zex s q ∧ zend s sg 0 q = b)) (fun q hq hm => zMk_cg hm (fun b => zexN _ hq)) (by omega) d2
        · exact zskip (fun Q => zMk y2 20 (fun b => ∃ q, q < Q ∧ zex s q ∧ zend s sg 1 q = b)) (fun q hq hm => zMk_cg hm (fun b => zexN _ hq)) (by omega) d3
    -- the two counts, for a number that says which end is more ragged
    have key2 : ∀ g : Int, -10 ≤ g → g ≤ 10 → (0 < g ↔ 2 ≤ sm s t ∧ sl s (4 * t + (sm s t - 1)) < sr s (4 * t + (sm s t - 1))) → (g < 0 ↔ 2 ≤ sm s t ∧ sr s (4 * t + (sm s t - 1)) < sl s (4 * t + (sm s t - 1))) → zOk (f_X6_judge_59_L18 x1 x2 x3 (zI t) (zI (sm s t)) (zI g)) Q := by
      intro g g1 g2 g3 g4
      have r0 : zrag1 s 0 t = zb (0 < g) := zb_iff (by rw [g3]; simp)
      have r1 : zrag1 s 1 t = zb (g < 0) := zb_iff (by rw [g4]; simp)
      have hv : ∀ v : Nat, v = zrag1 s 0 t → zOk (f_X6_judge_76_L18 x1 x2 x3 (zI t) (zI (sm s t)) (zI g) (x1.1 30 5) (zI v)) Q := by
        intro v hv
        unfold f_X6_judge_76_L18
        rw [zk_bnd]
        have q1 : (zstI x1 30 5 (x1.1 30 5 + zI v)).1 30 5 = zI (zsum (t + 1) (zrag1 s 0)) := by
          rw [zm_Is, e3, zI_add, zsum_s, hv]
          exact zI_inj (by omega)
        by_cases hg : 0 ≤ g
        · rw [if_pos (by simp (disch := omega) only [zk_bind, zk_chk, zk_bnd, zk_some, zlp_l, zlp_r, zb_some, zb_bnd, zI_add, zI_sub, zI_mul, zI_neg, zI_le, zI_lt, zI_eq, zI_ix, zI_inI, Int.toNat_natCast, Int.toNat_add, Int.toNat_mul, true_and, and_true]; omega)]
          refine key _ 0 (zP_I e2 rfl) q1 ?_
          rw [zm_In _ _ _ _ (by decide), e4, zI_add, zsum_s, r1, zb_f (by omega)]
          exact zI_inj (by omega)
        · rw [if_neg (by simp (disch := omega) only [zk_bind, zk_chk, zk_bnd, zk_some, zlp_l, zlp_r, zb_some, zb_bnd, zI_add, zI_sub, zI_mul, zI_neg, zI_le, zI_lt, zI_eq, zI_ix, zI_inI, Int.toNat_natCast, Int.toNat_add, Int.toNat_mul, true_and, and_true]; omega)]
          refine key _ 1 (zP_I e2 rfl) q1 ?_
          rw [zm_In _ _ _ _ (by decide), e4, zI_add, zsum_s, r1, zb_t (by omega)]
          exact zI_inj (by omega)
      unfold f_X6_judge_59_L18
      by_cases hg : g ≤ 0
      · rw [if_pos (by simp (disch := omega) only [zk_bind, zk_chk, zk_bnd, zk_some, zlp_l, zlp_r, zb_some, zb_bnd, zI_add, zI_sub, zI_mul, zI_neg, zI_le, zI_lt, zI_eq, zI_ix, zI_inI, Int.toNat_natCast, Int.toNat_add, Int.toNat_mul, true_and, and_true]; omega)]
        exact hv 0 (by rw [r0, zb_f (by omega)])
      · rw [if_neg (by simp (disch := omega) only [zk_bind, zk_chk, zk_bnd, zk_some, zlp_l, zlp_r, zb_some, zb_bnd, zI_add, zI_sub, zI_mul, zI_neg, zI_le, zI_lt, zI_eq, zI_ix, zI_inI, Int.toNat_natCast, Int.toNat_add, Int.toNat_mul, true_and, and_true]; omega)]
        exact hv 1 (by rw [r0, zb_t (by omega)])
    unfold f_X6_judge_L18 f_X7_told
    dsimp only
    rw [zb_some, h1.1, e1, if_neg (by simp (disch := omega) only [zk_bind, zk_chk, zk_bnd, zk_some, zlp_l, zlp_r, zb_some, zb_bnd, zI_add, zI_sub, zI_mul, zI_neg, zI_le, zI_lt, zI_eq, zI_ix, zI_inI, Int.toNat_natCast, Int.toNat_add, Int.toNat_mul, true_and, and_true]; omega), c_rowsOf hs h1 ht, zb_some]
    by_cases hm2 : 2 ≤ sm s t
    · have hq : zex s (4 * t + (sm s t - 1)) := zex_of ht (by omega) (by omega)
      have hn := hs.2.2 _ hq
      rw [if_pos (by simp (disch := omega) only [zk_bind, zk_chk, zk_bnd, zk_some, zlp_l, zlp_r, zb_some, zb_bnd, zI_add, zI_sub, zI_mul, zI_neg, zI_le, zI_lt, zI_eq, zI_ix, zI_inI, Int.toNat_natCast, Int.toNat_add, Int.toNat_mul, true_and, and_true]; omega), zI_sub, show ((sm s t : Int) - 1) = ((sm s t - 1 : Nat) : Int) by omega, c_rowNumber hs h1 ht (by omega), zb_some, c_raggedness hs h1 hq, zb_some]
      exact key2 _ (by omega) (by omega) (by omega) (by omega)
    · rw [if_neg (by simp (disch := omega) only [zk_bind, zk_chk, zk_bnd, zk_some, zlp_l, zlp_r, zb_some, zb_bnd, zI_add, zI_sub, zI_mul, zI_neg, zI_le, zI_lt, zI_eq, zI_ix, zI_inI, Int.toNat_natCast, Int.toNat_add, Int.toNat_mul, true_and, and_true]; omega)]
      exact key2 0 (by omega) (by omega) (by omega) (by omega)
  · rintro ⟨x1, x2, x3, x4⟩ ⟨e1, e2, e3, e4, e5, e6⟩
    dsimp only at e1 e2 e3 e4 e5 e6
    have h1 : stonesC s x1 := stonesC_x (fun a k ha => e2.1 a k (by unfold dstonesC at ha; unfold zWjud; simp at ha ⊢; omega)) h
    have hb : ∀ side b, (∃ q, q < 4 * sS s ∧ zex s q ∧ zend s sg side q = b) ↔ ∃ q, zex s q ∧ zend s sg side q = b := fun side b => ⟨fun ⟨q, _, g⟩ => ⟨q, g⟩, fun ⟨q, g⟩ => ⟨q, by have := g.1.1; omega, g⟩⟩
    refine ⟨(x1, x2, x3), ?_, ?_⟩
    · unfold f_X6_judge_L18 f_X7_told
      dsimp only
      rw [zb_some, h1.1, e1, if_pos (by simp (disch := omega) only [zk_bind, zk_chk, zk_bnd, zk_some, zlp_l, zlp_r, zb_some, zb_bnd, zI_add, zI_sub, zI_mul, zI_neg, zI_le, zI_lt, zI_eq, zI_ix, zI_inI, Int.toNat_natCast, Int.toNat_add, Int.toNat_mul, true_and, and_true]; omega)]
    · rw [zMk_pop (by decide) (zMk_cg e5 (hb 0)), zb_some, zb_bnd, zMk_pop (by decide) (zMk_cg e6 (hb 1)), zb_some, zb_bnd, zk_some]
      refine ⟨⟨?_, ?_, ?_, ?_⟩, zP_I (zP_I e2 rfl) rfl⟩
      · rw [zm_In _ _ _ _ (by decide), zm_In _ _ _ _ (by decide)]
        exact e3
      · rw [zm_In _ _ _ _ (by decide), zm_In _ _ _ _ (by decide)]
        exact e4
      · rw [zm_In _ _ _ _ (by decide), zm_Is]
        rfl
      · rw [zm_Is]
        rfl
