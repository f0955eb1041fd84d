/-! ===== sums, bits ===== deps: D0 26.tool -/
theorem zlp_l {S E : Type} (P : S → Prop) (K : E → Prop) (s : S) : zlp P K (.inl s) = P s := rfl
theorem zlp_r {S E : Type} (P : S → Prop) (K : E → Prop) (e : E) : zlp P K (.inr e) = K e := rfl
theorem zb_some {α β : Type} (a : α) (g : α → Option β) : zbind (some a) g = g a := rfl
theorem zb_bnd {α β : Type} (a : α) (f : α → β) : zbnd a f = f a := rfl
theorem zb_chk {α : Type} (f : Option α) : zchk true f = f := rfl
theorem zOk_is {α : Type} {f : Option α} {v : α} (h : zOk f (fun r => r = v)) : f = some v := by
  obtain ⟨a, h1, h2⟩ := h
  rw [h1, h2]
theorem zOk_of {α : Type} {f : Option α} {v : α} {K : α → Prop} (h : f = some v) (hk : K v) : zOk f K := ⟨v, h, hk⟩
theorem zI_inj {a b : Int} (h : a = b) : zI a = zI b := congrArg zI h
/-- truth as a number -/
noncomputable def zb (p : Prop) : Nat := @ite Nat p (Classical.propDecidable p) 1 0
theorem zb_t {p : Prop} (h : p) : zb p = 1 := by unfold zb; exact if_pos h
theorem zb_f {p : Prop} (h : ¬ p) : zb p = 0 := by unfold zb; exact if_neg h
theorem zb_iff {p q : Prop} (h : p ↔ q) : zb p = zb q := by rw [propext h]
theorem zb_le (p : Prop) : zb p ≤ 1 := by
  by_cases h : p
  · rw [zb_t h]; exact Nat.le_refl 1
  · rw [zb_f h]; exact Nat.zero_le 1
theorem zb_ite (p : Prop) {inst : Decidable p} : @ite Nat p inst 1 0 = zb p := by
  by_cases h : p
  · rw [zb_t h, if_pos h]
  · rw [zb_f h, if_neg h]
def zsum : Nat → (Nat → Nat) → Nat
  | 0, _ => 0
  | n + 1, f => zsum n f + f n
theorem zsum_z (f : Nat → Nat) : zsum 0 f = 0 := rfl
theorem zsum_s (n : Nat) (f : Nat → Nat) : zsum (n + 1) f = zsum n f + f n := rfl
theorem zsum_cg {n : Nat} {f g : Nat → Nat} (h : ∀ i, i < n → f i = g i) : zsum n f = zsum n g := by
  induction n with
  | zero => rfl
  | succ n ih => rw [zsum_s, zsum_s, ih (fun i hi => h i (by omega)), h n (by omega)]
theorem zsum_le {n c : Nat} {f : Nat → Nat} (h : ∀ i, i < n → f i ≤ c) : zsum n f ≤ n * c := by
  induction n with
  | zero => rw [zsum_z]; exact Nat.zero_le _
  | succ n ih =>
    have h1 := ih (fun i hi => h i (by omega))
    have h2 := h n (by omega)
    rw [zsum_s, Nat.succ_mul]
    omega
theorem zsum_le1 {n : Nat} {f : Nat → Nat} (h : ∀ i, i < n → f i ≤ 1) : zsum n f ≤ n := by
  have := zsum_le (c := 1) h
  omega
theorem zsum_mono {n : Nat} {f g : Nat → Nat} (h : ∀ i, i < n → f i ≤ g i) : zsum n f ≤ zsum n g := by
  induction n with
  | zero => exact Nat.le_refl _
  | succ n ih =>
    have h1 := ih (fun i hi => h i (by omega))
    have h2 := h n (by omega)
    rw [zsum_s, zsum_s]
    omega
theorem zsum_zero {n : Nat} {f : Nat → Nat} (h : ∀ i, i < n → f i = 0) : zsum n f = 0 := by
  have := zsum_le (n := n) (c := 0) (f := f) (fun i hi => by rw [h i hi]; exact Nat.le_refl 0)
  omega
theorem zsum_add (n : Nat) (f g : Nat → Nat) : zsum n (fun i => f i + g i) = zsum n f + zsum n g := by
  induction n with
  | zero => rfl
  | succ n ih => simp only [zsum_s]; omega
theorem zsum_app (m n : Nat) (f : Nat → Nat) : zsum (m + n) f = zsum m f + zsum n (fun i => f (m + i)) := by
  induction n with
  | zero => rfl
  | succ n ih => rw [← Nat.add_assoc, zsum_s, zsum_s, ih]; omega
theorem zsum_ext {m n : Nat} (hmn : m ≤ n) {f : Nat → Nat} (h : ∀ i, m ≤ i → i < n → f i = 0) : zsum n f = zsum m f := by
  obtain ⟨d, rfl⟩ := Nat.exists_eq_add_of_le hmn
  rw [zsum_app, zsum_zero (n := d) (fun i hi => h (m + i) (by omega) (by omega))]
  rfl
theorem zsum_swap (m n : Nat) (f : Nat → Nat → Nat) : zsum m (fun i => zsum n (fun j => f i j)) = zsum n (fun j => zsum m (fun i => f i j)) := by
  induction m with
  | zero => exact (zsum_zero (fun i _ => rfl)).symm
  | succ m ih =>
    rw [zsum_s, ih]
    rw [← zsum_add]
    rfl
theorem zsum_pos {n : Nat} {f : Nat → Nat} {i : Nat} (hi : i < n) : f i ≤ zsum n f := by
  induction n with
  | zero => omega
  | succ n ih =>
    rw [zsum_s]
    by_cases h : i = n
    · subst h; omega
    · have := ih (by omega); omega
/-- bits of a number below 2^32 -/
def zpop (m : Nat) : Nat := zsum 32 (fun b => (m.testBit b).toNat)
theorem zpop_is {m n : Nat} {S : Nat → Prop} (hn : n ≤ 32) (h : ∀ b, m.testBit b = true ↔ b < n ∧ S b) : zpop m = zsum n (fun b => zb (S b)) := by
  unfold zpop
  rw [zsum_ext hn (fun i h1 h2 => ?_)]
  · refine zsum_cg (fun i hi => ?_)
    by_cases hs : S i
    · rw [zb_t hs, (h i).mpr ⟨hi, hs⟩]; rfl
    · rw [zb_f hs]
      cases hb : m.testBit i with
      | false => rfl
      | true => exact absurd ((h i).mp hb).2 hs
  · cases hb : m.testBit i with
    | false => rfl
    | true => exact absurd ((h i).mp hb).1 (by omega)
theorem zand_split (x y p q : Nat) (hx : x < 256) (hp : p < 256) : (x + 256 * y) &&& (p + 256 * q) = (x &&& p) + 256 * (y &&& q) := by
  have e1 := Nat.and_mod_two_pow (a := x + 256 * y) (b := p + 256 * q) (n := 8)
  have e2 := Nat.and_div_two_pow (a := x + 256 * y) (b := p + 256 * q) (n := 8)
  have a1 : (x + 256 * y) % 2 ^ 8 = x := by omega
  have a2 : (p + 256 * q) % 2 ^ 8 = p := by omega
  have a3 : (x + 256 * y) / 2 ^ 8 = y := by omega
  have a4 : (p + 256 * q) / 2 ^ 8 = q := by omega
  rw [a1, a2] at e1
  rw [a3, a4] at e2
  omega
def zp8 (y : Nat) : Nat := zsum 8 (fun b => (y.testBit b).toNat)
def zpA (y : Nat) : Nat := y - (y / 2 &&& 85)
def zpB (y : Nat) : Nat := (zpA y &&& 51) + (zpA y / 4 &&& 51)
def zpC (y : Nat) : Nat := (zpB y + zpB y / 16) &&& 15
theorem zp8_tab : ∀ y, y < 256 → (y / 2 &&& 85) ≤ y ∧ ((y / 2 + 128) &&& 85) = (y / 2 &&& 85) ∧ (zpA y < 256 ∧ ∀ h, h < 4 → ((zpA y / 4 + 64 * h) &&& 51) = (zpA y / 4 &&& 51)) ∧ (zpB y ≤ 68 ∧ zpB y % 16 ≤ 4 ∧ ∀ h, h < 16 → ((zpB y + zpB y / 16 + 16 * h) &&& 15) = zpC y) ∧ zpC y = zp8 y ∧ zp8 y ≤ 8 := by decide +kernel
theorem zpA_m {a b c d : Nat} (ha : a < 256) (hb : b < 256) (hc : c < 256) (hd : d < 256) : ((a + 256 * (b + 256 * (c + 256 * d))) / 2 &&& 1431655765) = (a / 2 &&& 85) + 256 * ((b / 2 &&& 85) + 256 * ((c / 2 &&& 85) + 256 * (d / 2 &&& 85))) := by
  have e : (a + 256 * (b + 256 * (c + 256 * d))) / 2 = (a / 2 + 128 * (b % 2)) + 256 * ((b / 2 + 128 * (c % 2)) + 256 * ((c / 2 + 128 * (d % 2)) + 256 * (d / 2))) := by omega
  rw [e, show 1431655765 = 85 + 256 * (85 + 256 * (85 + 256 * 85)) from rfl]
  rw [zand_split _ _ _ _ (by omega) (by omega), zand_split _ _ _ _ (by omega) (by omega), zand_split _ _ _ _ (by omega) (by omega)]
  have f : ∀ y h, y < 256 → h < 2 → ((y / 2 + 128 * h) &&& 85) = (y / 2 &&& 85) := by
    intro y h hy hh
    match h, hh with
    | 0, _ => rfl
    | 1, _ => exact (zp8_tab y hy).2.1
  rw [f a _ ha (by omega), f b _ hb (by omega), f c _ hc (by omega)]
theorem zpB_m {a b c d : Nat} (ha : a < 256) (hb : b < 256) (hc : c < 256) (hd : d < 256) (x : Nat) (hx : x = zpA a + 256 * (zpA b + 256 * (zpA c + 256 * zpA d))) : (x &&& 858993459) + (x / 4 &&& 858993459) = zpB a + 256 * (zpB b + 256 * (zpB c + 256 * zpB d)) := by
  have ta := zp8_tab a ha
  have tb := zp8_tab b hb
  have tc := zp8_tab c hc
  have td := zp8_tab d hd
  have e : x / 4 = (zpA a / 4 + 64 * (zpA b % 4)) + 256 * ((zpA b / 4 + 64 * (zpA c % 4)) + 256 * ((zpA c / 4 + 64 * (zpA d % 4)) + 256 * (zpA d / 4))) := by omega
  rw [e, hx, show 858993459 = 51 + 256 * (51 + 256 * (51 + 256 * 51)) from rfl]
  rw [zand_split _ _ _ _ (by omega) (by omega), zand_split _ _ _ _ (by omega) (by omega), zand_split _ _ _ _ (by omega) (by omega)]
  rw [zand_split _ _ _ _ (by omega) (by omega), zand_split _ _ _ _ (by omega) (by omega), zand_split _ _ _ _ (by omega) (by omega)]
  rw [ta.2.2.1.2 _ (by omega), tb.2.2.1.2 _ (by omega), tc.2.2.1.2 _ (by omega)]
  unfold zpB
  omega
theorem zpC_m {a b c d : Nat} (ha : a < 256) (hb : b < 256) (hc : c < 256) (hd : d < 256) (x : Nat) (hx : x = zpB a + 256 * (zpB b + 256 * (zpB c + 256 * zpB d))) : ((x + x / 16) &&& 252645135) = zp8 a + 256 * (zp8 b + 256 * (zp8 c + 256 * zp8 d)) := by
  have ta := zp8_tab a ha
  have tb := zp8_tab b hb
  have tc := zp8_tab c hc
  have td := zp8_tab d hd
  have e : x + x / 16 = (zpB a + zpB a / 16 + 16 * (zpB b % 16)) + 256 * ((zpB b + zpB b / 16 + 16 * (zpB c % 16)) + 256 * ((zpB c + zpB c / 16 + 16 * (zpB d % 16)) + 256 * (zpB d + zpB d / 16 + 16 * 0))) := by omega
  rw [e, show 252645135 = 15 + 256 * (15 + 256 * (15 + 256 * 15)) from rfl]
  rw [zand_split _ _ _ _ (by omega) (by omega), zand_split _ _ _ _ (by omega) (by omega), zand_split _ _ _ _ (by omega) (by omega)]
  rw [ta.2.2.2.1.2.2 _ (by omega), tb.2.2.2.1.2.2 _ (by omega), tc.2.2.2.1.2.2 _ (by omega), td.2.2.2.1.2.2 _ (by omega), ta.2.2.2.2.1, tb.2.2.2.2.1, tc.2.2.2.2.1, td.2.2.2.2.1]
theorem zpop_b {a b c d : Nat} (ha : a < 256) (hb : b < 256) (hc : c < 256) (hd : d < 256) (m : Nat) (hm : m = a + 256 * (b + 256 * (c + 256 * d))) : zpop m = zp8 a + zp8 b + zp8 c + zp8 d := by
  unfold zpop zp8
  rw [show 32 = 8 + (8 + (8 + 8)) from rfl, zsum_app, zsum_app, zsum_app]
  have e : ∀ (k y : Nat), m / 2 ^ k % 2 ^ 8 = y → ∀ i, i < 8 → (m.testBit (k + i)).toNat = (y.testBit i).toNat := by
    intro k y hy i hi
    rw [← hy, Nat.testBit_mod_two_pow, Nat.testBit_div_two_pow, Nat.add_comm i k]
    simp [hi]
  have e0 : zsum 8 (fun b => (m.testBit b).toNat) = zsum 8 (fun b => (a.testBit b).toNat) := zsum_cg (fun i hi => by have := e 0 a (by omega) i hi; rwa [Nat.zero_add] at this)
  have e1 : zsum 8 (fun i => (m.testBit (8 + i)).toNat) = zsum 8 (fun i => (b.testBit i).toNat) := zsum_cg (fun i hi => e 8 b (by omega) i hi)
  have e2 : zsum 8 (fun i => (m.testBit (8 + (8 + i))).toNat) = zsum 8 (fun i => (c.testBit i).toNat) := zsum_cg (fun i hi => by have := e 16 c (by omega) i hi; rwa [show 16 + i = 8 + (8 + i) by omega] at this)
  have e3 : zsum 8 (fun i => (m.testBit (8 + (8 + (8 + i)))).toNat) = zsum 8 (fun i => (d.testBit i).toNat) := zsum_cg (fun i hi => by have := e 24 d (by omega) i hi; rwa [show 24 + i = 8 + (8 + (8 + i)) by omega] at this)
  rw [e0, e1, e2, e3]
  omega
/-- an Int32 as a number without sign -/
def zu (x : Int32) : Nat := x.toBitVec.toNat
theorem zu_lt (x : Int32) : zu x < 4294967296 := x.toBitVec.isLt
theorem zu_inj {x y : Int32} (h : zu x = zu y) : x = y := by
  apply Int32.toBitVec_inj.mp
  exact BitVec.eq_of_toNat_eq h
theorem zu_I {n : Nat} (h : n < 4294967296) : zu (zI n) = n := by
  unfold zu zI
  rw [Int32.ofInt_eq_ofNat]
  show (BitVec.ofNat 32 n).toNat = n
  rw [BitVec.toNat_ofNat]
  omega
theorem zu_self (x : Int32) : x = zI (zu x) := zu_inj (by rw [zu_I (zu_lt x)])
theorem zu_and (x y : Int32) : zu (x &&& y) = zu x &&& zu y := by
  unfold zu
  rw [Int32.toBitVec_and, BitVec.toNat_and]
theorem zu_or (x y : Int32) : zu (x ||| y) = zu x ||| zu y := by
  unfold zu
  rw [Int32.toBitVec_or, BitVec.toNat_or]
theorem zu_xor (x y : Int32) : zu (x ^^^ y) = zu x ^^^ zu y := by
  unfold zu
  rw [Int32.toBitVec_xor, BitVec.toNat_xor]
theorem zu_add (x y : Int32) : zu (x + y) = (zu x + zu y) % 4294967296 := by
  unfold zu
  rw [Int32.toBitVec_add, BitVec.toNat_add]
theorem zu_sub (x y : Int32) : zu (x - y) = (4294967296 - zu y + zu x) % 4294967296 := by
  unfold zu
  rw [Int32.toBitVec_sub, BitVec.toNat_sub]
theorem zsh_mod (k : Nat) (hk : k < 32) : (((zI k).toUInt32 &&& Int32.toUInt32 31).toBitVec % 32).toNat = k := by
  have h : ∀ k, k < 32 → (((zI (k : Nat)).toUInt32 &&& Int32.toUInt32 31).toBitVec % 32).toNat = k := by decide +kernel
  exact h k hk
theorem zu_ushr (x : Int32) (k : Nat) (hk : k < 32) : zu (zushr x (zI k)) = zu x / 2 ^ k := by
  unfold zu zushr
  exact pk_ushr x (zI k) k (zsh_mod k hk)
theorem zshl_mod (k : Nat) (hk : k < 32) : ((zI k &&& 31).toBitVec.smod 32).toNat = k := by
  have h : ∀ k, k < 32 → ((zI (k : Nat) &&& 31).toBitVec.smod 32).toNat = k := by decide +kernel
  exact h k hk
theorem zu_shl (x : Int32) (k : Nat) (hk : k < 32) : zu (x <<< (zI k &&& 31)) = zu x * 2 ^ k % 4294967296 := by
  unfold zu
  exact pk_shl x (zI k &&& 31) k (zshl_mod k hk)
theorem zpE {p q r s : Nat} (hp : p ≤ 8) (hq : q ≤ 8) (hr : r ≤ 8) (hs : s ≤ 8) (x : Nat) (hx : x = (p + q) + 256 * ((q + r) + 256 * ((r + s) + 256 * s))) : (x + x / 65536) % 4294967296 % 64 = p + q + r + s := by
  have e : x / 65536 = (r + s) + 256 * s := by omega
  rw [e]
  omega
theorem zpop_code (M : ZMem) (x : Int32) : f_J6_bitCount_0f7a4 M x = some (zI (zpop (zu x))) := by
  have hx := zu_lt x
  obtain ⟨a, b, c, d, ha, hb, hc, hd, hm⟩ : ∃ a b c d, a < 256 ∧ b < 256 ∧ c < 256 ∧ d < 256 ∧ zu x = a + 256 * (b + 256 * (c + 256 * d)) := ⟨zu x % 256, zu x / 256 % 256, zu x / 65536 % 256, zu x / 16777216, by omega, by omega, by omega, by omega, by omega⟩
  have ta := zp8_tab a ha
  have tb := zp8_tab b hb
  have tc := zp8_tab c hc
  have td := zp8_tab d hd
  unfold f_J6_bitCount_0f7a4
  simp only [zb_bnd]
  generalize h1 : x - (zushr x (zI 1) &&& 1431655765) = x1
  have k1 : zu x1 = zpA a + 256 * (zpA b + 256 * (zpA c + 256 * zpA d)) := by
    rw [← h1, zu_sub, zu_and, show zu (zushr x (zI 1)) = zu x / 2 ^ 1 from zu_ushr x 1 (by decide), show zu 1431655765 = 1431655765 from rfl, hm, Nat.pow_one, zpA_m ha hb hc hd]
    unfold zpA
    omega
  generalize h2 : (x1 &&& 858993459) + (zushr x1 (zI 2) &&& 858993459) = x2
  have k2 : zu x2 = zpB a + 256 * (zpB b + 256 * (zpB c + 256 * zpB d)) := by
    rw [← h2, zu_add, zu_and, zu_and, show zu (zushr x1 (zI 2)) = zu x1 / 2 ^ 2 from zu_ushr x1 2 (by decide), show zu 858993459 = 858993459 from rfl, show 2 ^ 2 = 4 from rfl, zpB_m ha hb hc hd _ k1]
    omega
  generalize h3 : (x2 + zushr x2 (zI 4)) &&& 252645135 = x3
  have k3 : zu x3 = zp8 a + 256 * (zp8 b + 256 * (zp8 c + 256 * zp8 d)) := by
    rw [← h3, zu_and, zu_add, show zu (zushr x2 (zI 4)) = zu x2 / 2 ^ 4 from zu_ushr x2 4 (by decide), show zu 252645135 = 252645135 from rfl, show 2 ^ 4 = 16 from rfl, Nat.mod_eq_of_lt (by omega), zpC_m ha hb hc hd _ k2]
  generalize h4 : x3 + zushr x3 (zI 8) = x4
  have k4 : zu x4 = (zp8 a + zp8 b) + 256 * ((zp8 b + zp8 c) + 256 * ((zp8 c + zp8 d) + 256 * zp8 d)) := by
    rw [← h4, zu_add, show zu (zushr x3 (zI 8)) = zu x3 / 2 ^ 8 from zu_ushr x3 8 (by decide), k3]
    omega
  generalize h5 : x4 + zushr x4 (zI 16) = x5
  have k5 : zu x5 % 64 = zp8 a + zp8 b + zp8 c + zp8 d := by
    rw [← h5, zu_add, show zu (zushr x4 (zI 16)) = zu x4 / 2 ^ 16 from zu_ushr x4 16 (by decide)]
    exact zpE ta.2.2.2.2.2 tb.2.2.2.2.2 tc.2.2.2.2.2 td.2.2.2.2.2 _ k4
  congr 1
  apply zu_inj
  rw [zpop_b ha hb hc hd _ hm, zu_and, show zu (zI 63) = 2 ^ 6 - 1 from rfl, Nat.and_two_pow_sub_one_eq_mod, zu_I (by omega)]
  exact k5
theorem zI_or {a b : Nat} (ha : a < 4294967296) (hb : b < 4294967296) : zI a ||| zI b = zI ((a ||| b : Nat) : Int) := by
  apply zu_inj
  rw [zu_or, zu_I ha, zu_I hb, zu_I (Nat.or_lt_two_pow (n := 32) ha hb)]
theorem zI_and {a b : Nat} (ha : a < 4294967296) (hb : b < 4294967296) : zI a &&& zI b = zI ((a &&& b : Nat) : Int) := by
  apply zu_inj
  rw [zu_and, zu_I ha, zu_I hb, zu_I (Nat.and_lt_two_pow (n := 32) _ hb)]
theorem zI_xor {a b : Nat} (ha : a < 4294967296) (hb : b < 4294967296) : zI a ^^^ zI b = zI ((a ^^^ b : Nat) : Int) := by
  apply zu_inj
  rw [zu_xor, zu_I ha, zu_I hb, zu_I (Nat.xor_lt_two_pow (n := 32) ha hb)]
theorem zI_shl {k : Nat} (hk : k < 32) : zI 1 <<< (zI k &&& 31) = zI ((2 ^ k : Nat) : Int) := by
  apply zu_inj
  have h : 2 ^ k < 2 ^ 32 := Nat.pow_lt_pow_right (by decide) hk
  rw [zu_shl _ _ hk, show zu (zI 1) = 1 from rfl, Nat.one_mul, zu_I h]
  exact Nat.mod_eq_of_lt h
theorem zI_bit {m k : Nat} (hm : m < 4294967296) (hk : k < 32) : zushr (zI m) (zI k) &&& zI 1 = zI ((m.testBit k).toNat : Int) := by
  apply zu_inj
  rw [zu_and, zu_ushr _ _ hk, zu_I hm, show zu (zI 1) = 2 ^ 1 - 1 from rfl, Nat.and_two_pow_sub_one_eq_mod, Nat.testBit_eq_decide_div_mod_eq]
  rcases Nat.mod_two_eq_zero_or_one (m / 2 ^ k) with h | h <;> simp [h] <;> decide
theorem zpop_I {m : Nat} (hm : m < 4294967296) (M : ZMem) : f_J6_bitCount_0f7a4 M (zI m) = some (zI (zpop m)) := by rw [zpop_code, zu_I hm]
theorem zpop_le (m : Nat) : zpop m ≤ 32 := zsum_le1 (fun i _ => by cases m.testBit i <;> decide)
theorem zor_bit (m k b : Nat) : (m ||| 2 ^ k).testBit b = true ↔ m.testBit b = true ∨ b = k := by
  rw [Nat.testBit_or, Nat.testBit_two_pow, Bool.or_eq_true, decide_eq_true_eq]
  exact or_congr Iff.rfl ⟨Eq.symm, Eq.symm⟩
theorem zbits_lt {m n : Nat} (h : ∀ b, m.testBit b = true → b < n) : m < 2 ^ n := by
  apply Nat.lt_pow_two_of_testBit
  intro i hi
  cases hb : m.testBit i with
  | false => rfl
  | true => exact absurd (h i hb) (by omega)
