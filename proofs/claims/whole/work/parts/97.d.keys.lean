/-! ===== words as keys, the lexicon as a list ===== deps: 97.c.next -/
def zJ (n : Nat) : Int64 := Int64.ofInt n
def zv (x : Int64) : Nat := x.toBitVec.toNat
theorem zv_lt (x : Int64) : zv x < 18446744073709551616 := x.toBitVec.isLt
theorem zv_inj {x y : Int64} (h : zv x = zv y) : x = y := by
  apply Int64.toBitVec_inj.mp
  exact BitVec.eq_of_toNat_eq h
theorem zv_J {n : Nat} (h : n < 18446744073709551616) : zv (zJ n) = n := by
  unfold zv zJ
  rw [Int64.ofInt_eq_ofNat]
  show (BitVec.ofNat 64 n).toNat = n
  rw [BitVec.toNat_ofNat]
  omega
theorem zv_and (x y : Int64) : zv (x &&& y) = zv x &&& zv y := by
  unfold zv
  rw [Int64.toBitVec_and, BitVec.toNat_and]
theorem zv_or (x y : Int64) : zv (x ||| y) = zv x ||| zv y := by
  unfold zv
  rw [Int64.toBitVec_or, BitVec.toNat_or]
theorem zv_xor (x y : Int64) : zv (x ^^^ y) = zv x ^^^ zv y := by
  unfold zv
  rw [Int64.toBitVec_xor, BitVec.toNat_xor]
theorem zJ_toInt {n : Nat} (h : n < 9223372036854775808) : (zJ n).toInt = n := Int64.toInt_ofInt_of_le (by omega) (by omega)
theorem zJ_lt {a b : Nat} (ha : a < 9223372036854775808) (hb : b < 9223372036854775808) : zJ a < zJ b ↔ a < b := by
  rw [Int64.lt_iff_toInt_lt, zJ_toInt ha, zJ_toInt hb]
  omega
theorem zJ_eq {a b : Nat} (ha : a < 9223372036854775808) (hb : b < 9223372036854775808) : zJ a = zJ b ↔ a = b := by
  rw [← Int64.toInt_inj, zJ_toInt ha, zJ_toInt hb]
  omega
theorem zcmp {a b : Nat} (ha : a < 9223372036854775808) (hb : b < 9223372036854775808) : lg_cmp (zJ a) (zJ b) = zI (if b < a then 1 else if a = b then 0 else -1) := by
  unfold lg_cmp
  by_cases c1 : b < a
  · rw [if_pos ((zJ_lt hb ha).mpr c1), if_pos c1]; rfl
  · rw [if_neg (fun h => c1 ((zJ_lt hb ha).mp h)), if_neg c1]
    by_cases c2 : a = b
    · rw [if_pos (by rw [c2]), if_pos c2]; rfl
    · rw [if_neg (fun h => c2 ((zJ_eq ha hb).mp h)), if_neg c2]; rfl
theorem zv_ushr (x : Int64) (k : Nat) (hk : k < 64) : zv (zlushr x (zI k)) = zv x / 2 ^ k := by
  have h : ∀ k, k < 64 → ((Int32.toInt64 (zI (k : Nat))).toUInt64 &&& Int64.toUInt64 63).toBitVec.toNat % 64 = k := by decide +kernel
  unfold zv zlushr
  show (x.toUInt64 >>> ((Int32.toInt64 (zI k)).toUInt64 &&& Int64.toUInt64 63)).toBitVec.toNat = _
  rw [UInt64.toBitVec_shiftRight, BitVec.ushiftRight_eq', BitVec.toNat_ushiftRight, Nat.shiftRight_eq_div_pow]
  have h1 := h k hk
  have h2 : (((Int32.toInt64 (zI k)).toUInt64 &&& Int64.toUInt64 63).toBitVec % 64#64).toNat = k := by
    rw [BitVec.toNat_umod]
    exact h1
  rw [show ((((Int32.toInt64 (zI k)).toUInt64 &&& Int64.toUInt64 63).toBitVec % (64 : BitVec 64)).toNat) = k from h2]
  rfl
theorem zv_shl (x : Int64) (k : Nat) (hk : k < 64) : zv (x <<< (Int32.toInt64 (zI k) &&& 63)) = zv x * 2 ^ k % 18446744073709551616 := by
  have h : ∀ k, k < 64 → ((Int32.toInt64 (zI (k : Nat)) &&& 63).toBitVec.smod 64).toNat = k := by decide +kernel
  unfold zv
  rw [Int64.toBitVec_shiftLeft, BitVec.shiftLeft_eq', BitVec.toNat_shiftLeft, Nat.shiftLeft_eq]
  rw [h k hk]
/-- digits -/
def zkD (d : Nat → Nat) : Nat := d 0 * 1073741824 + d 1 * 33554432 + d 2 * 1048576 + d 3 * 32768 + d 4 * 1024 + d 5 * 32 + d 6
def zdg (key k : Nat) : Nat := key / 32 ^ (6 - k) % 32
theorem zdg_kD {d : Nat → Nat} (h : ∀ k, k < 7 → d k < 32) : ∀ k, k < 7 → zdg (zkD d) k = d k := by
  intro k hk
  have h0 := h 0 (by omega)
  have h1 := h 1 (by omega)
  have h2 := h 2 (by omega)
  have h3 := h 3 (by omega)
  have h4 := h 4 (by omega)
  have h5 := h 5 (by omega)
  have h6 := h 6 (by omega)
  unfold zdg zkD
  match k, hk with
  | 0, _ => simp only [Nat.sub_zero, Nat.reducePow]; omega
  | 1, _ => simp only [Nat.reduceSub, Nat.reducePow]; omega
  | 2, _ => simp only [Nat.reduceSub, Nat.reducePow]; omega
  | 3, _ => simp only [Nat.reduceSub, Nat.reducePow]; omega
  | 4, _ => simp only [Nat.reduceSub, Nat.reducePow]; omega
  | 5, _ => simp only [Nat.reduceSub, Nat.reducePow]; omega
  | 6, _ => simp only [Nat.reduceSub, Nat.reducePow]; omega
theorem zkD_lt {d : Nat → Nat} (h : ∀ k, k < 7 → d k < 32) : zkD d < 34359738368 := by
  have h0 := h 0 (by omega)
  have h1 := h 1 (by omega)
  have h2 := h 2 (by omega)
  have h3 := h 3 (by omega)
  have h4 := h 4 (by omega)
  have h5 := h 5 (by omega)
  have h6 := h 6 (by omega)
  unfold zkD
  omega
theorem zkD_of {key : Nat} (h : key < 34359738368) : zkD (zdg key) = key := by
  unfold zkD zdg
  simp only [Nat.sub_zero, Nat.reduceSub, Nat.reducePow]
  omega
theorem zdg_lt (key k : Nat) : zdg key k < 32 := Nat.mod_lt _ (by decide)
theorem zdg_ext {a b : Nat} (ha : a < 34359738368) (hb : b < 34359738368) (h : ∀ k, k < 7 → zdg a k = zdg b k) : a = b := by
  rw [← zkD_of ha, ← zkD_of hb]
  unfold zkD
  rw [h 0 (by omega), h 1 (by omega), h 2 (by omega), h 3 (by omega), h 4 (by omega), h 5 (by omega), h 6 (by omega)]
/-- the first digit that is unlike decides -/
theorem zdg_cmp {a b k : Nat} (ha : a < 34359738368) (hb : b < 34359738368) (hk : k < 7) (h : ∀ j, j < k → zdg a j = zdg b j) (hl : zdg a k < zdg b k) : a < b := by
  have la := fun k => zdg_lt a k
  have lb := fun k => zdg_lt b k
  have a0 := la 0; have a1 := la 1; have a2 := la 2; have a3 := la 3; have a4 := la 4; have a5 := la 5; have a6 := la 6
  have b0 := lb 0; have b1 := lb 1; have b2 := lb 2; have b3 := lb 3; have b4 := lb 4; have b5 := lb 5; have b6 := lb 6
  rw [← zkD_of ha, ← zkD_of hb]
  unfold zkD
  match k, hk with
  | 0, _ => omega
  | 1, _ => have := h 0 (by omega); omega
  | 2, _ => have := h 0 (by omega); have := h 1 (by omega); omega
  | 3, _ => have := h 0 (by omega); have := h 1 (by omega); have := h 2 (by omega); omega
  | 4, _ => have := h 0 (by omega); have := h 1 (by omega); have := h 2 (by omega); have := h 3 (by omega); omega
  | 5, _ => have := h 0 (by omega); have := h 1 (by omega); have := h 2 (by omega); have := h 3 (by omega); have := h 4 (by omega); omega
  | 6, _ => have := h 0 (by omega); have := h 1 (by omega); have := h 2 (by omega); have := h 3 (by omega); have := h 4 (by omega); have := h 5 (by omega); omega
def zkey (pc : Nat → Nat) (n : Nat) : Nat := zkD (fun k => if k < n then pc k + 1 else 0)
noncomputable def zkl (key : Nat) : Nat := zfst (fun n => zdg key n = 0) 7 0
def zks (key k : Nat) : Int := if k < 7 then (zdg key k : Int) - 1 else -1
/-- the key of a word: n digits that aren't 0, then 0 -/
def zisW (key n : Nat) : Prop := key < 34359738368 ∧ n ≤ 7 ∧ (∀ k, k < n → 1 ≤ zdg key k ∧ zdg key k ≤ 20) ∧ ∀ k, n ≤ k → k < 7 → zdg key k = 0
theorem zkey_isW {pc : Nat → Nat} {n : Nat} (hn : n ≤ 7) (hp : ∀ k, k < n → pc k < 20) : zisW (zkey pc n) n := by
  have hd : ∀ k, k < 7 → (if k < n then pc k + 1 else 0) < 32 := by
    intro k hk
    split
    · next h => have := hp k h; omega
    · omega
  refine ⟨zkD_lt hd, hn, fun k hk => ?_, fun k hk hk7 => ?_⟩
  · unfold zkey
    rw [zdg_kD hd k (by omega), if_pos hk]
    have := hp k hk
    omega
  · unfold zkey
    rw [zdg_kD hd k hk7, if_neg (by omega)]
theorem zkey_dg {pc : Nat → Nat} {n : Nat} (hn : n ≤ 7) (hp : ∀ k, k < n → pc k < 20) {k : Nat} (hk : k < n) : zdg (zkey pc n) k = pc k + 1 := by
  have hd : ∀ k, k < 7 → (if k < n then pc k + 1 else 0) < 32 := by
    intro k hk
    split
    · next h => have := hp k h; omega
    · omega
  unfold zkey
  rw [zdg_kD hd k (by omega), if_pos hk]
theorem zisW_len {key n : Nat} (h : zisW key n) : zkl key = n := by
  obtain ⟨h1, h2, h3, h4⟩ := h
  unfold zkl
  refine zfst_of (by omega) (by omega) (fun j _ hj hz => by have := h3 j hj; omega) ?_
  by_cases hn : n = 7
  · exact Or.inl (by omega)
  · exact Or.inr (h4 n (Nat.le_refl n) (by omega))
/-- the lexicon: sorted by keys, with times -/
def zins (key : Nat) : List (Nat × Nat) → List (Nat × Nat)
  | [] => [(key, 1)]
  | (v, c) :: r => if v < key then (v, c) :: zins key r else if v = key then (v, c + 1) :: r else (key, 1) :: (v, c) :: r
def zE (l : List (Nat × Nat)) (i : Nat) : Nat × Nat := l.getD i (0, 0)
theorem zE_0 (a : Nat × Nat) (r : List (Nat × Nat)) : zE (a :: r) 0 = a := rfl
theorem zE_s (a : Nat × Nat) (r : List (Nat × Nat)) (i : Nat) : zE (a :: r) (i + 1) = zE r i := rfl
/-- where a key goes, and what comes of it -/
theorem zins_get (key : Nat) : ∀ (l : List (Nat × Nat)) (p : Nat), p ≤ l.length → (∀ i, i < p → (zE l i).1 < key) → (p < l.length → key ≤ (zE l p).1) → ((p < l.length ∧ (zE l p).1 = key → (zins key l).length = l.length ∧ ∀ i, zE (zins key l) i = if i = p then (key, (zE l p).2 + 1) else zE l i) ∧ (¬ (p < l.length ∧ (zE l p).1 = key) → (zins key l).length = l.length + 1 ∧ ∀ i, i ≤ l.length → zE (zins key l) i = if i < p then zE l i else if i = p then (key, 1) else zE l (i - 1)))
  | [], p, hp, _, _ => by
    have hp0 : p = 0 := by simpa using hp
    subst hp0
    refine ⟨fun h => absurd h.1 (by simp), fun _ => ⟨rfl, fun i hi => ?_⟩⟩
    have hi0 : i = 0 := by simpa using hi
    subst hi0
    rfl
  | (v, c) :: r, 0, hp, h1, h2 => by
    have h3 : key ≤ v := h2 (by simp)
    have hlt : ¬ v < key := by omega
    refine ⟨fun h => ?_, fun h => ?_⟩
    · have hv : v = key := h.2
      have e : zins key ((v, c) :: r) = (v, c + 1) :: r := by
        show (if v < key then _ else if v = key then _ else _) = _
        rw [if_neg hlt, if_pos hv]
      rw [e]
      refine ⟨rfl, fun i => ?_⟩
      cases i with
      | zero => rw [if_pos rfl, zE_0, zE_0, hv]
      | succ i => rw [if_neg (by omega), zE_s, zE_s]
    · have hv : ¬ v = key := fun hv => h ⟨by simp, hv⟩
      have e : zins key ((v, c) :: r) = (key, 1) :: (v, c) :: r := by
        show (if v < key then _ else if v = key then _ else _) = _
        rw [if_neg hlt, if_neg hv]
      rw [e]
      refine ⟨rfl, fun i hi => ?_⟩
      cases i with
      | zero => rw [if_neg (by omega), if_pos rfl, zE_0]
      | succ i => rw [if_neg (by omega), if_neg (by omega), zE_s, Nat.add_sub_cancel]
  | (v, c) :: r, p + 1, hp, h1, h2 => by
    have hlt : v < key := h1 0 (by omega)
    have e : zins key ((v, c) :: r) = (v, c) :: zins key r := by
      show (if v < key then _ else if v = key then _ else _) = _
      rw [if_pos hlt]
    have hp' : p ≤ r.length := by simpa using hp
    obtain ⟨g1, g2⟩ := zins_get key r p hp' (fun i hi => h1 (i + 1) (by omega)) (fun hl => h2 (by simpa using hl))
    rw [e]
    refine ⟨fun h => ?_, fun h => ?_⟩
    · obtain ⟨g3, g4⟩ := g1 ⟨by simpa using h.1, h.2⟩
      refine ⟨by simp [g3], fun i => ?_⟩
      cases i with
      | zero => rw [if_neg (by omega), zE_0, zE_0]
      | succ i =>
        rw [zE_s, g4 i, zE_s, zE_s]
        by_cases hi : i = p
        · rw [if_pos hi, if_pos (by omega)]
        · rw [if_neg hi, if_neg (by omega)]
    · obtain ⟨g3, g4⟩ := g2 (fun hh => h ⟨by simpa using hh.1, hh.2⟩)
      refine ⟨by simp [g3], fun i hi => ?_⟩
      cases i with
      | zero => rw [if_pos (by omega), zE_0, zE_0]
      | succ i =>
        have hi' : i ≤ r.length := by simpa using hi
        rw [zE_s, g4 i hi', zE_s]
        by_cases c1 : i < p
        · rw [if_pos c1, if_pos (by omega)]
        · by_cases c2 : i = p
          · rw [if_neg c1, if_pos c2, if_neg (show ¬ i + 1 < p + 1 by omega), if_pos (show i + 1 = p + 1 by omega)]
          · rw [if_neg c1, if_neg c2, if_neg (show ¬ i + 1 < p + 1 by omega), if_neg (show ¬ i + 1 = p + 1 by omega), Nat.add_sub_cancel]
            obtain ⟨j, rfl⟩ : ∃ j, i = j + 1 := ⟨i - 1, by omega⟩
            rw [zE_s, Nat.add_sub_cancel]
/-- keys that rise -/
def zsrt (l : List (Nat × Nat)) : Prop := ∀ i j, i < j → j < l.length → (zE l i).1 < (zE l j).1
def zwords (l : List (Nat × Nat)) : Prop := ∀ i, i < l.length → ∃ n, 1 ≤ n ∧ zisW (zE l i).1 n
theorem zfind (l : List (Nat × Nat)) (hs : zsrt l) (key : Nat) : ∃ p, p ≤ l.length ∧ (∀ i, i < p → (zE l i).1 < key) ∧ (p < l.length → key ≤ (zE l p).1) := by
  have : ∀ d p, p + d = l.length → (∀ i, i < p → (zE l i).1 < key) → ∃ p, p ≤ l.length ∧ (∀ i, i < p → (zE l i).1 < key) ∧ (p < l.length → key ≤ (zE l p).1) := by
    intro d
    induction d with
    | zero => exact fun p hp h => ⟨p, by omega, h, fun hl => by omega⟩
    | succ d ih =>
      intro p hp h
      by_cases hc : (zE l p).1 < key
      · refine ih (p + 1) (by omega) (fun i hi => ?_)
        by_cases he : i = p
        · rw [he]; exact hc
        · exact h i (by omega)
      · exact ⟨p, by omega, h, fun _ => by omega⟩
  exact this l.length 0 (by omega) (fun i hi => absurd hi (Nat.not_lt_zero i))
theorem zins_srt {l : List (Nat × Nat)} (hs : zsrt l) (key : Nat) : zsrt (zins key l) := by
  obtain ⟨p, h1, h2, h3⟩ := zfind l hs key
  obtain ⟨g1, g2⟩ := zins_get key l p h1 h2 h3
  by_cases hc : p < l.length ∧ (zE l p).1 = key
  · obtain ⟨g3, g4⟩ := g1 hc
    have e : ∀ i, (zE (zins key l) i).1 = (zE l i).1 := by
      intro i
      rw [g4 i]
      split
      · next he => rw [he, hc.2]
      · rfl
    intro i j hij hj
    rw [e, e]
    exact hs i j hij (by omega)
  · obtain ⟨g3, g4⟩ := g2 hc
    intro i j hij hj
    rw [g4 i (by omega), g4 j (by omega)]
    by_cases c1 : j < p
    · rw [if_pos c1, if_pos (by omega)]
      exact hs i j hij (by omega)
    · rw [if_neg c1]
      by_cases c2 : j = p
      · rw [if_pos c2, if_pos (by omega)]
        exact h2 i (by omega)
      · have hk : key < (zE l (j - 1)).1 := by
          by_cases c3 : j - 1 = p
          · rw [c3]
            have := h3 (by omega)
            have : (zE l p).1 ≠ key := fun he => hc ⟨by omega, he⟩
            omega
          · have a1 := h3 (by omega)
            have a2 := hs p (j - 1) (by omega) (by omega)
            omega
        rw [if_neg c2]
        by_cases c4 : i < p
        · rw [if_pos c4]
          have := h2 i c4
          omega
        · rw [if_neg c4]
          by_cases c5 : i = p
          · rw [if_pos c5]; exact hk
          · rw [if_neg c5]
            exact hs (i - 1) (j - 1) (by omega) (by omega)
theorem zins_words {l : List (Nat × Nat)} (hs : zsrt l) (hw : zwords l) {key n : Nat} (hn : 1 ≤ n) (hk : zisW key n) : zwords (zins key l) := by
  obtain ⟨p, h1, h2, h3⟩ := zfind l hs key
  obtain ⟨g1, g2⟩ := zins_get key l p h1 h2 h3
  by_cases hc : p < l.length ∧ (zE l p).1 = key
  · obtain ⟨g3, g4⟩ := g1 hc
    intro i hi
    rw [g4 i]
    split
    · exact ⟨n, hn, hk⟩
    · exact hw i (by omega)
  · obtain ⟨g3, g4⟩ := g2 hc
    intro i hi
    rw [g4 i (by omega)]
    split
    · exact hw i (by omega)
    · split
      · exact ⟨n, hn, hk⟩
      · exact hw (i - 1) (by omega)
/-- times are above 0 and add up -/
theorem zins_sum {l : List (Nat × Nat)} (hs : zsrt l) (key : Nat) (w : Nat → Nat) : zsum (zins key l).length (fun i => w (zE (zins key l) i).1 * (zE (zins key l) i).2) = zsum l.length (fun i => w (zE l i).1 * (zE l i).2) + w key := by
  clear hs
  have gen : ∀ (l : List (Nat × Nat)), zsum l.length (fun i => w (zE l i).1 * (zE l i).2) = (l.map (fun x => w x.1 * x.2)).sum := by
    intro l
    induction l with
    | nil => rfl
    | cons a r ih =>
      rw [List.length_cons, Nat.add_comm r.length 1, zsum_app, List.map_cons, List.sum_cons, ← ih]
      congr 1
      · show 0 + _ = _
        rw [Nat.zero_add]
        rfl
      · refine zsum_cg (fun i _ => ?_)
        rw [Nat.add_comm 1 i, zE_s]
  rw [gen, gen]
  induction l with
  | nil => simp [zins]
  | cons a r ih =>
    obtain ⟨v, c⟩ := a
    unfold zins
    split
    · rw [List.map_cons, List.sum_cons, ih, List.map_cons, List.sum_cons]
      omega
    · split
      · next hv =>
        rw [List.map_cons, List.sum_cons, List.map_cons, List.sum_cons]
        dsimp only
        rw [Nat.mul_add, hv]
        omega
      · rw [List.map_cons, List.sum_cons]
        dsimp only
        omega
