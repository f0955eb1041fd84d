/-! ===== tools: numbers, memory, loops ===== -/
theorem zI_n (n : Nat) : nI n = zI n := Int32.ofInt_eq_ofNat.symm
theorem zI_o (n : Nat) : Int32.ofNat n = zI n := Int32.ofInt_eq_ofNat.symm
theorem zI_l (n : Nat) : (OfNat.ofNat n : Int32) = zI n := Int32.ofInt_eq_ofNat.symm
theorem zI_neg (a : Int) : - zI a = zI (-a) := (Int32.ofInt_neg a).symm
theorem zI_add (a b : Int) : zI a + zI b = zI (a + b) := (Int32.ofInt_add a b).symm
theorem zI_sub (a b : Int) : zI a - zI b = zI (a - b) := (Int32.ofInt_sub a b).symm
theorem zI_mul (a b : Int) : zI a * zI b = zI (a * b) := (Int32.ofInt_mul a b).symm
theorem zI_m1 : (-1 : Int32) = zI (-1) := by decide
theorem zI_toInt {a : Int} (h1 : -2147483648 ≤ a) (h2 : a ≤ 2147483647) : (zI a).toInt = a := Int32.toInt_ofInt_of_le (by omega) (by omega)
theorem zI_self (x : Int32) : x = zI x.toInt := (Int32.ofInt_toInt x).symm
theorem zI_rng (x : Int32) : -2147483648 ≤ x.toInt ∧ x.toInt ≤ 2147483647 := by
  have h1 := Int32.le_toInt x
  have h2 := Int32.toInt_lt x
  omega
/-- any number is zI of a number in range -/
theorem zI_of (x : Int32) : ∃ a : Int, x = zI a ∧ -2147483648 ≤ a ∧ a ≤ 2147483647 := ⟨x.toInt, zI_self x, zI_rng x⟩
theorem zI_le {a b : Int} (h1 : -2147483648 ≤ a) (h2 : a ≤ 2147483647) (h3 : -2147483648 ≤ b) (h4 : b ≤ 2147483647) : zI a ≤ zI b ↔ a ≤ b := by
  rw [Int32.le_iff_toInt_le, zI_toInt h1 h2, zI_toInt h3 h4]
theorem zI_lt {a b : Int} (h1 : -2147483648 ≤ a) (h2 : a ≤ 2147483647) (h3 : -2147483648 ≤ b) (h4 : b ≤ 2147483647) : zI a < zI b ↔ a < b := by
  rw [Int32.lt_iff_toInt_lt, zI_toInt h1 h2, zI_toInt h3 h4]
theorem zI_eq {a b : Int} (h1 : -2147483648 ≤ a) (h2 : a ≤ 2147483647) (h3 : -2147483648 ≤ b) (h4 : b ≤ 2147483647) : zI a = zI b ↔ a = b := by
  rw [← Int32.toInt_inj, zI_toInt h1 h2, zI_toInt h3 h4]
theorem zI_ix {a : Int} (h1 : -2147483648 ≤ a) (h2 : a ≤ 2147483647) : zix (zI a) = a.toNat := by
  show (zI a).toNatClampNeg = a.toNat
  rw [← Int32.toNat_toInt, zI_toInt h1 h2]
theorem zI_in {a : Int} {n : Nat} (h1 : -2147483648 ≤ a) (h2 : a ≤ 2147483647) : zin (zI a) n = true ↔ 0 ≤ a ∧ a < n := by
  unfold zin
  rw [Bool.and_eq_true, decide_eq_true_eq, decide_eq_true_eq]
  have e : (zI a).toNatClampNeg = a.toNat := zI_ix h1 h2
  rw [e, show (0 : Int32) = zI 0 from rfl, zI_le (by omega) (by omega) h1 h2]
  omega
theorem zI_inI {a : Int} {n : Nat} (h1 : 0 ≤ a) (h2 : a < n) (h3 : n ≤ 2147483647) : zin (zI a) n = true := (zI_in (by omega) (by omega)).mpr ⟨h1, h2⟩
theorem zI_div {a d : Int} (h1 : 0 ≤ a) (h2 : a ≤ 2147483647) (h3 : 0 < d) (h4 : d ≤ 2147483647) : zI a / zI d = zI (a / d) := by
  obtain ⟨n, rfl⟩ := Int.eq_ofNat_of_zero_le h1
  obtain ⟨m, rfl⟩ := Int.eq_ofNat_of_zero_le (Int.le_of_lt h3)
  have := pk_div (a := n) (d := m) (by omega) (by omega) (by omega)
  rw [zI_n, zI_n, zI_n] at this
  rw [this]
  rfl
theorem zI_rem {a d : Int} (h1 : 0 ≤ a) (h2 : a ≤ 2147483647) (h3 : 0 < d) (h4 : d ≤ 2147483647) : zI a - zI a / zI d * zI d = zI (a % d) := by
  obtain ⟨n, rfl⟩ := Int.eq_ofNat_of_zero_le h1
  obtain ⟨m, rfl⟩ := Int.eq_ofNat_of_zero_le (Int.le_of_lt h3)
  have := pk_rem (a := n) (d := m) (by omega) (by omega) (by omega)
  rw [zI_n, zI_n, zI_n] at this
  rw [this]
  rfl
theorem zI_B {a : Int} (h : a = 0 ∨ a = 1) : zisB (zI a) = true := by rcases h with rfl | rfl <;> decide
-- memory
theorem zm_I (M : ZMem) (q i : Nat) (v : Int32) (a k : Nat) : (zstI M q i v).1 a k = if a = q ∧ k = i then v else M.1 a k := by
  unfold zstI upd
  by_cases h : a = q
  · subst h
    simp
  · simp [h]
theorem zm_I2 (M : ZMem) (q i : Nat) (v : Int32) : (zstI M q i v).2 = M.2 := rfl
theorem zm_Iq (M : ZMem) (q i : Nat) (v : Int32) {a : Nat} (h : a ≠ q) : (zstI M q i v).1 a = M.1 a := by
  unfold zstI
  simp [h]
theorem zm_Is (M : ZMem) (q i : Nat) (v : Int32) : (zstI M q i v).1 q i = v := by rw [zm_I]; simp
theorem zm_In (M : ZMem) (q i : Nat) (v : Int32) {k : Nat} (h : k ≠ i) : (zstI M q i v).1 q k = M.1 q k := by rw [zm_I]; simp [h]
theorem zm_L (M : ZMem) (q i : Nat) (v : Int64) (a k : Nat) : (zstL M q i v).2 a k = if a = q ∧ k = i then v else M.2 a k := by
  unfold zstL vp_updL
  by_cases h : a = q
  · subst h
    simp
  · simp [h]
theorem zm_L1 (M : ZMem) (q i : Nat) (v : Int64) : (zstL M q i v).1 = M.1 := rfl
theorem zm_Lq (M : ZMem) (q i : Nat) (v : Int64) {a : Nat} (h : a ≠ q) : (zstL M q i v).2 a = M.2 a := by
  unfold zstL
  simp [h]
theorem zm_F (M : ZMem) (q : Nat) (f : Nat → Int32) (a k : Nat) : (zstF M q f).1 a k = if a = q then f k else M.1 a k := by
  unfold zstF
  by_cases h : a = q <;> simp [h]
theorem zm_Fs (M : ZMem) (q : Nat) (f : Nat → Int32) : (zstF M q f).1 q = f := by unfold zstF; simp
theorem zm_Fq (M : ZMem) (q : Nat) (f : Nat → Int32) {a : Nat} (h : a ≠ q) : (zstF M q f).1 a = M.1 a := by unfold zstF; simp [h]
theorem zm_F2 (M : ZMem) (q : Nat) (f : Nat → Int32) : (zstF M q f).2 = M.2 := rfl
theorem zm_Gs (M : ZMem) (q : Nat) (f : Nat → Int64) : (zstG M q f).2 q = f := by unfold zstG; simp
theorem zm_Gq (M : ZMem) (q : Nat) (f : Nat → Int64) {a : Nat} (h : a ≠ q) : (zstG M q f).2 a = M.2 a := by unfold zstG; simp [h]
theorem zm_G1 (M : ZMem) (q : Nat) (f : Nat → Int64) : (zstG M q f).1 = M.1 := rfl
-- programs
theorem zk_some {α : Type} {a : α} {K : α → Prop} : zOk (some a) K ↔ K a := ⟨zOk_some, zOk_intro⟩
theorem zk_none {α : Type} {K : α → Prop} : zOk none K ↔ False := ⟨fun h => zOk_none h, False.elim⟩
theorem zk_bind {α β : Type} {f : Option α} {g : α → Option β} {K : β → Prop} : zOk (zbind f g) K ↔ zOk f (fun a => zOk (g a) K) := ⟨zOk_bind, zOk_bindI⟩
theorem zk_chk {α : Type} {b : Bool} {f : Option α} {K : α → Prop} : zOk (zchk b f) K ↔ b = true ∧ zOk f K := ⟨zOk_chk, fun h => zOk_chkI h.1 h.2⟩
theorem zk_bnd {α β : Type} {a : α} {f : α → Option β} {K : β → Prop} : zOk (zbnd a f) K ↔ zOk (f a) K := Iff.rfl
theorem zk_ite {α : Type} {c : Prop} [Decidable c] {f g : Option α} {K : α → Prop} : zOk (if c then f else g) K ↔ (c → zOk f K) ∧ (¬ c → zOk g K) := by
  by_cases h : c <;> simp [h]
theorem zk_if {α : Type} {c : Prop} {inst : Decidable c} {f g : Option α} {K : α → Prop} (h1 : c → zOk f K) (h2 : ¬ c → zOk g K) : zOk (@ite _ c inst f g) K := by
  by_cases h : c
  · rw [if_pos h]; exact h1 h
  · rw [if_neg h]; exact h2 h
theorem zk_sel {α β γ : Type} {x : α ⊕ β} {f : α → Option γ} {g : β → Option γ} {K : γ → Prop} : zOk (zsel x f g) K ↔ zsel x (fun a => zOk (f a) K) (fun b => zOk (g b) K) := by cases x <;> exact Iff.rfl
theorem zk_eq {α : Type} {f : Option α} {a : α} {K : α → Prop} (h : f = some a) (hk : K a) : zOk f K := ⟨a, h, hk⟩
/-- a loop that counts up to n -/
theorem zOk_for {S E : Type} {step : S → Option (S ⊕ E)} {K : E → Prop} (I : Nat → S → Prop) (n : Nat) (hs : ∀ i s, i < n → I i s → zOk (step s) (zlp (I (i + 1)) K)) (he : ∀ s, I n s → zOk (step s) (zlp (fun _ => False) K)) : ∀ (d i : Nat) (s : S), i + d = n → I i s → zOk (zloop step s) K := by
  intro d
  induction d with
  | zero =>
    intro i s hi h0
    subst hi
    obtain ⟨x, h1, h2⟩ := he s h0
    cases x with
    | inl s' => exact h2.elim
    | inr e => exact ⟨e, zloop_out h1, h2⟩
  | succ d ih =>
    intro i s hi h0
    obtain ⟨x, h1, h2⟩ := hs i s (by omega) h0
    cases x with
    | inl s' =>
      obtain ⟨e, h3, h4⟩ := ih (i + 1) s' (by omega) h2
      exact ⟨e, zloop_in h1 h3, h4⟩
    | inr e => exact ⟨e, zloop_out h1, h2⟩
theorem zOk_for0 {S E : Type} {step : S → Option (S ⊕ E)} {K : E → Prop} (I : Nat → S → Prop) (n : Nat) (hs : ∀ i s, i < n → I i s → zOk (step s) (zlp (I (i + 1)) K)) (he : ∀ s, I n s → zOk (step s) (zlp (fun _ => False) K)) {s : S} (h0 : I 0 s) : zOk (zloop step s) K := zOk_for I n hs he n 0 s (Nat.zero_add n) h0
/-- Arrays.fill -/
theorem zp_fill (q n : Nat) (hn : n ≤ 2147483647) (M : ZMem) (v : Int32) : zOk (f_J7_fill_53178 q n M v) (fun M' => (∀ k, k < n → M'.1 q k = v) ∧ (∀ k, n ≤ k → M'.1 q k = M.1 q k) ∧ (∀ a, a ≠ q → M'.1 a = M.1 a) ∧ M'.2 = M.2) := by
  unfold f_J7_fill_53178
  rw [zk_bnd, zk_bind]
  refine zOk_for0 (fun i s => s.2 = zI i ∧ (∀ k, k < i → s.1.1 q k = v) ∧ (∀ k, i ≤ k → s.1.1 q k = M.1 q k) ∧ (∀ a, a ≠ q → s.1.1 a = M.1 a) ∧ s.1.2 = M.2) n ?_ ?_ ?_
  · intro i s hi ⟨h1, h2, h3, h4, h5⟩
    unfold f_J7_fill_53178_L5
    rw [h1, zI_ix (by omega) (by omega)]
    rw [if_neg (by rw [zI_le (by omega) (by omega) (by omega) (by omega)]; omega)]
    rw [zk_chk, zk_bnd, zk_bnd, zk_some]
    refine ⟨zI_inI (by omega) (by omega) hn, ?_, ?_, ?_, ?_, ?_⟩
    · rw [zI_add]
      rfl
    · intro k hk
      rw [zm_I]
      split
      · rfl
      · exact h2 k (by omega)
    · intro k hk
      rw [zm_I, if_neg (by omega)]
      exact h3 k (by omega)
    · intro a ha
      rw [zm_Iq _ _ _ _ ha]
      exact h4 a ha
    · exact h5
  · intro s ⟨h1, h2, h3, h4, h5⟩
    unfold f_J7_fill_53178_L5
    rw [h1, if_pos (by rw [zI_le (by omega) (by omega) (by omega) (by omega)]; omega), zk_some]
    exact zk_some.mpr ⟨h2, h3, h4, h5⟩
  · exact ⟨rfl, fun k hk => absurd hk (Nat.not_lt_zero k), fun _ _ => rfl, fun _ _ => rfl, rfl⟩
