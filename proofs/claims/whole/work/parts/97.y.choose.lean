/-! ===== ways: the class chooses ===== deps: 97.x.ways -/
def zok (c1 : Nat → Nat → Prop) (c2 : Nat → Nat → Nat → Nat → Prop) (p : List Nat) (b w : Nat) : Prop := c1 b w ∧ ∀ m, m < p.length → c2 m (p.getD m 0) b w
noncomputable def zwy (c1 : Nat → Nat → Prop) (c2 : Nat → Nat → Nat → Nat → Prop) (W : Nat) : Nat → List Nat → List (List Nat)
  | 0, p => [p]
  | d + 1, p => (zfil (zok c1 c2 p p.length) W).flatMap (fun w => zwy c1 c2 W d (p ++ [w]))
theorem zok_s {c1 : Nat → Nat → Prop} {c2 : Nat → Nat → Nat → Nat → Prop} {p : List Nat} {k b w : Nat} : zok c1 c2 (p ++ [k]) b w ↔ zok c1 c2 p b w ∧ c2 p.length k b w := by
  unfold zok
  rw [List.length_append, List.length_singleton]
  constructor
  · rintro ⟨h1, h2⟩
    refine ⟨⟨h1, fun m hm => ?_⟩, ?_⟩
    · have := h2 m (by omega)
      rwa [zgetD_l hm] at this
    · have := h2 p.length (by omega)
      rwa [zgetD_e] at this
  · rintro ⟨⟨h1, h2⟩, h3⟩
    refine ⟨h1, fun m hm => ?_⟩
    by_cases he : m = p.length
    · rw [he, zgetD_e]; exact h3
    · rw [zgetD_l (by omega)]; exact h2 m (by omega)
/-- no way, if a later name can get nothing -/
theorem zwy_none {c1 : Nat → Nat → Prop} {c2 : Nat → Nat → Nat → Nat → Prop} {W : Nat} : ∀ (d : Nat) (p : List Nat) (b : Nat), p.length ≤ b → b < p.length + d → (∀ w, w < W → ¬ zok c1 c2 p b w) → zwy c1 c2 W d p = []
  | 0, p, b, h1, h2, _ => by omega
  | d + 1, p, b, h1, h2, h3 => by
    show (zfil (zok c1 c2 p p.length) W).flatMap _ = []
    rw [List.flatMap_eq_nil_iff]
    intro w hw
    obtain ⟨w1, w2⟩ := zfil_mem.mp hw
    by_cases he : b = p.length
    · rw [he] at h3
      exact absurd w2 (h3 w w1)
    · refine zwy_none d (p ++ [w]) b (by rw [List.length_append, List.length_singleton]; omega) (by rw [List.length_append, List.length_singleton]; omega) (fun v hv hh => h3 v hv (zok_s.mp hh).1)
theorem zwy_len {c1 : Nat → Nat → Prop} {c2 : Nat → Nat → Nat → Nat → Prop} {W : Nat} : ∀ (d : Nat) (p x : List Nat), x ∈ zwy c1 c2 W d p → x.length = p.length + d ∧ x.take p.length = p
  | 0, p, x, hx => by
    have hx : x ∈ [p] := hx
    rw [List.mem_singleton.mp hx]
    exact ⟨rfl, List.take_length⟩
  | d + 1, p, x, hx => by
    obtain ⟨w, _, hw⟩ := List.mem_flatMap.mp hx
    obtain ⟨h1, h2⟩ := zwy_len d (p ++ [w]) x hw
    rw [List.length_append, List.length_singleton] at h1 h2
    refine ⟨by omega, ?_⟩
    have : (x.take (p.length + 1)).take p.length = (p ++ [w]).take p.length := by rw [h2]
    rwa [List.take_take, Nat.min_eq_left (by omega), List.take_append_of_le_length (Nat.le_refl _), List.take_length] at this
def opn (c1 : Nat → Nat → Prop) (c2 : Nat → Nat → Nat → Nat → Prop) (W N : Nat) (p : List Nat) (C : ZMem) : Prop := ∀ b, p.length ≤ b → b < N → zBt C 61 ((p.length * 4 + b) * 3) (fun k => k < W ∧ zok c1 c2 p b k)
def prt (c1 : Nat → Nat → Prop) (c2 : Nat → Nat → Nat → Nat → Prop) (W N : Nat) (C : ZMem) : Prop := ∀ a b k, a < b → b < N → k < W → c1 a k → zBt C 60 (((b * (b - 1) / 2 + a) * 120 + k) * 3) (fun x => x < W ∧ c1 b x ∧ c2 a k b x)
theorem c_openAt {M : ZMem} {a b : Nat} (ha : a < 4) (hb : b < 4) : f_X10_openAt M (zI a) (zI b) = some (zI (((a * 4 + b) * 3 : Nat) : Int)) := by
  unfold f_X10_openAt f_X10_openAt_23
  rw [if_neg (by simp (disch := omega) only [zk_bind, zk_chk, zk_bnd, zk_some, zlp_l, zlp_r, zb_some, zb_bnd, zI_add, zI_sub, zI_mul, zI_neg, zI_le, zI_lt, zI_eq, zI_ix, zI_inI, Int.toNat_natCast, Int.toNat_add, Int.toNat_mul, true_and, and_true]; omega), if_neg (by simp (disch := omega) only [zk_bind, zk_chk, zk_bnd, zk_some, zlp_l, zlp_r, zb_some, zb_bnd, zI_add, zI_sub, zI_mul, zI_neg, zI_le, zI_lt, zI_eq, zI_ix, zI_inI, Int.toNat_natCast, Int.toNat_add, Int.toNat_mul, true_and, and_true]; omega), if_neg (by simp (disch := omega) only [zk_bind, zk_chk, zk_bnd, zk_some, zlp_l, zlp_r, zb_some, zb_bnd, zI_add, zI_sub, zI_mul, zI_neg, zI_le, zI_lt, zI_eq, zI_ix, zI_inI, Int.toNat_natCast, Int.toNat_add, Int.toNat_mul, true_and, and_true]; omega), if_neg (by simp (disch := omega) only [zk_bind, zk_chk, zk_bnd, zk_some, zlp_l, zlp_r, zb_some, zb_bnd, zI_add, zI_sub, zI_mul, zI_neg, zI_le, zI_lt, zI_eq, zI_ix, zI_inI, Int.toNat_natCast, Int.toNat_add, Int.toNat_mul, true_and, and_true]; omega), if_neg (by decide), zI_mul, zI_add, zI_mul]
  exact congrArg some (zI_inj (by omega))
theorem c_partnersAt {M : ZMem} {a b k : Nat} (hab : a < b) (hb : b < 4) (hk : k < 120) : f_X10_partnersAt M (zI a) (zI b) (zI k) = some (zI ((((b * (b - 1) / 2 + a) * 120 + k) * 3 : Nat) : Int)) := by
  unfold f_X10_partnersAt f_X10_partnersAt_29
  rw [if_neg (by simp (disch := omega) only [zk_bind, zk_chk, zk_bnd, zk_some, zlp_l, zlp_r, zb_some, zb_bnd, zI_add, zI_sub, zI_mul, zI_neg, zI_le, zI_lt, zI_eq, zI_ix, zI_inI, Int.toNat_natCast, Int.toNat_add, Int.toNat_mul, true_and, and_true]; omega), if_neg (by simp (disch := omega) only [zk_bind, zk_chk, zk_bnd, zk_some, zlp_l, zlp_r, zb_some, zb_bnd, zI_add, zI_sub, zI_mul, zI_neg, zI_le, zI_lt, zI_eq, zI_ix, zI_inI, Int.toNat_natCast, Int.toNat_add, Int.toNat_mul, true_and, and_true]; omega), if_neg (by simp (disch := omega) only [zk_bind, zk_chk, zk_bnd, zk_some, zlp_l, zlp_r, zb_some, zb_bnd, zI_add, zI_sub, zI_mul, zI_neg, zI_le, zI_lt, zI_eq, zI_ix, zI_inI, Int.toNat_natCast, Int.toNat_add, Int.toNat_mul, true_and, and_true]; omega), if_neg (by simp (disch := omega) only [zk_bind, zk_chk, zk_bnd, zk_some, zlp_l, zlp_r, zb_some, zb_bnd, zI_add, zI_sub, zI_mul, zI_neg, zI_le, zI_lt, zI_eq, zI_ix, zI_inI, Int.toNat_natCast, Int.toNat_add, Int.toNat_mul, true_and, and_true]; omega), if_neg (by simp (disch := omega) only [zk_bind, zk_chk, zk_bnd, zk_some, zlp_l, zlp_r, zb_some, zb_bnd, zI_add, zI_sub, zI_mul, zI_neg, zI_le, zI_lt, zI_eq, zI_ix, zI_inI, Int.toNat_natCast, Int.toNat_add, Int.toNat_mul, true_and, and_true]; omega), if_neg (by decide), zI_sub, zI_mul]
  have h3 : b = 1 ∨ b = 2 ∨ b = 3 := by omega
  rcases h3 with rfl | rfl | rfl
  · rw [show zI (((1 : Nat) : Int) * (((1 : Nat) : Int) - 1)) / zI 2 = zI 0 from by decide, zI_add, zI_mul, zI_add, zI_mul]
    exact congrArg some (zI_inj (by omega))
  · rw [show zI (((2 : Nat) : Int) * (((2 : Nat) : Int) - 1)) / zI 2 = zI 1 from by decide, zI_add, zI_mul, zI_add, zI_mul]
    exact congrArg some (zI_inj (by omega))
  · rw [show zI (((3 : Nat) : Int) * (((3 : Nat) : Int) - 1)) / zI 2 = zI 3 from by decide, zI_add, zI_mul, zI_add, zI_mul]
    exact congrArg some (zI_inj (by omega))
theorem zpart_rng {a b k : Nat} (hab : a < b) (hb : b < 4) (hk : k < 120) : ((b * (b - 1) / 2 + a) * 120 + k) * 3 + 3 ≤ 2160 := by
  have h3 : b = 1 ∨ b = 2 ∨ b = 3 := by omega
  rcases h3 with rfl | rfl | rfl <;> omega
/-- what stays while the class chooses -/
def zWw (a k : Nat) : Bool := a == 59 || a == 62 || a == 63
def zVw (a : Nat) : Bool := a == 60 || a == 61
theorem c_narrow {M : ZMem} {W N : Nat} {c1 : Nat → Nat → Prop} {c2 : Nat → Nat → Nat → Nat → Prop} {p : List Nat} (hN4 : N ≤ 4) (hN : M.1 17 2 = zI N) (hW : W ≤ 120) (hp : p.length < N) (ho : opn c1 c2 W N p M) (hr : prt c1 c2 W N M) {k : Nat} (hk : k < W) (hc : c1 p.length k) : zOk (f_X10_narrow M (zI p.length) (zI k)) (fun r => (r.2 = zI 1 ∧ opn c1 c2 W N (p ++ [k]) r.1 ∨ r.2 = zI 0 ∧ ∃ b, p.length < b ∧ b < N ∧ ∀ w, w < W → ¬ zok c1 c2 (p ++ [k]) b w) ∧ r.1.1 = M.1 ∧ ∀ a i, (a ≠ 61 ∨ i < ((p.length + 1) * 4) * 3) → r.1.2 a i = M.2 a i) := by
  have hlen : (p ++ [k]).length = p.length + 1 := by rw [List.length_append, List.length_singleton]
  unfold f_X10_narrow
  rw [zI_add, zk_bnd, zk_bind]
  refine zOk_forQ (fun j x => x.2 = zI ((p.length + 1 + j : Nat) : Int) ∧ x.1.1 = M.1 ∧ (∀ a i, (a ≠ 61 ∨ i < ((p.length + 1) * 4) * 3) → x.1.2 a i = M.2 a i) ∧ ∀ b, p.length < b → b < p.length + 1 + j → zBt x.1 61 (((p.length + 1) * 4 + b) * 3) (fun x => x < W ∧ zok c1 c2 (p ++ [k]) b x)) (N - (p.length + 1)) ?_ ?_ ⟨zI_inj (by omega), rfl, fun _ _ _ => rfl, fun b h1 h2 => by omega⟩
  · rintro j ⟨x1, x2⟩ hj ⟨e1, e2, e3, e4⟩ Q hQ hR
    dsimp only at e1 e2 e3 e4
    have hb4 : p.length + 1 + j < 4 := by omega
    have hpr := zpart_rng (a := p.length) (b := p.length + 1 + j) (k := k) (by omega) hb4 (by omega)
    unfold f_X10_narrow_L4 f_X4_told
    dsimp only
    rw [zb_some, e2, hN, e1, if_neg (by simp (disch := omega) only [zk_bind, zk_chk, zk_bnd, zk_some, zlp_l, zlp_r, zb_some, zb_bnd, zI_add, zI_sub, zI_mul, zI_neg, zI_le, zI_lt, zI_eq, zI_ix, zI_inI, Int.toNat_natCast, Int.toNat_add, Int.toNat_mul, true_and, and_true]; omega), c_openAt (by omega) hb4, zb_some, show zI (p.length : Int) + zI 1 = zI ((p.length + 1 : Nat) : Int) from by rw [zI_add]; exact zI_inj (by omega), c_openAt (by omega) hb4, zb_some, c_partnersAt (by omega) hb4 (by omega), zb_some, if_neg (by simp (disch := omega) only [zk_bind, zk_chk, zk_bnd, zk_some, zlp_l, zlp_r, zb_some, zb_bnd, zI_add, zI_sub, zI_mul, zI_neg, zI_le, zI_lt, zI_eq, zI_ix, zI_inI, Int.toNat_natCast, Int.toNat_add, Int.toNat_mul, true_and, and_true]; omega), if_neg (by simp (disch := omega) only [zk_bind, zk_chk, zk_bnd, zk_some, zlp_l, zlp_r, zb_some, zb_bnd, zI_add, zI_sub, zI_mul, zI_neg, zI_le, zI_lt, zI_eq, zI_ix, zI_inI, Int.toNat_natCast, Int.toNat_add, Int.toNat_mul, true_and, and_true]; omega), if_neg (by simp (disch := omega) only [zk_bind, zk_chk, zk_bnd, zk_some, zlp_l, zlp_r, zb_some, zb_bnd, zI_add, zI_sub, zI_mul, zI_neg, zI_le, zI_lt, zI_eq, zI_ix, zI_inI, Int.toNat_natCast, Int.toNat_add, Int.toNat_mul, true_and, and_true]; omega), zk_bind]
    have oB := ho (p.length + 1 + j) (by omega) (by omega)
    have pB := hr p.length (p.length + 1 + j) k (by omega) (by omega) hk hc
    generalize hto : ((p.length + 1) * 4 + (p.length + 1 + j)) * 3 = to_ at *
    generalize hfr : (p.length * 4 + (p.length + 1 + j)) * 3 = fr_ at *
    generalize hby : (((p.length + 1 + j) * (p.length + 1 + j - 1) / 2 + p.length) * 120 + k) * 3 = by_ at *
    have hfrto : fr_ + 3 ≤ ((p.length + 1) * 4) * 3 := by omega
    refine zOk_for0 (fun i y => y.2.2 = zI i ∧ y.1.1 = M.1 ∧ (∀ a t, (a ≠ 61 ∨ t < to_ ∨ to_ + i ≤ t) → y.1.2 a t = x1.2 a t) ∧ (∀ i', i' < i → ∃ m : Nat, y.1.2 61 (to_ + i') = zJ m ∧ m < 2 ^ 40 ∧ ∀ b, m.testBit b = true ↔ b < 40 ∧ (40 * i' + b < W ∧ zok c1 c2 (p ++ [k]) (p.length + 1 + j) (40 * i' + b))) ∧ ∃ sm : Nat, y.2.1 = zJ sm ∧ sm < 2 ^ 40 ∧ (sm = 0 → ∀ x, x < 40 * i → ¬ (x < W ∧ zok c1 c2 (p ++ [k]) (p.length + 1 + j) x)) ∧ ((∀ x, x < 40 * i → ¬ (x < W ∧ zok c1 c2 (p ++ [k]) (p.length + 1 + j) x)) → sm = 0)) 3 ?_ ?_ ⟨rfl, e2, fun a t _ => rfl, fun i' hi' => absurd hi' (Nat.not_lt_zero i'), 0, rfl, by decide, fun _ x hx => by omega, fun _ => rfl⟩
    · rintro i ⟨y1, y2, y3⟩ hi ⟨d1, d2, d3, d4, sm, d5, d6, d7, d8⟩
      dsimp only at d1 d2 d3 d4 d5
      obtain ⟨mo, o1, o2, o3⟩ := oB i hi
      obtain ⟨mp, q1, q2, q3⟩ := pB i hi
      have f61 : y1.2 61 (fr_ + i) = zJ mo := by rw [d3 61 _ (by omega), e3 61 _ (by omega)]; exact o1
      have f60 : y1.2 60 (by_ + i) = zJ mp := by rw [d3 60 _ (by omega), e3 60 _ (by omega)]; exact q1
      have mlt : mo &&& mp < 2 ^ 40 := Nat.lt_of_le_of_lt Nat.and_le_left o2
      have hand : zJ mo &&& zJ mp = zJ (mo &&& mp) := by
        apply zv_inj
        have := zp40 o2; have := zp40 q2; have := zp40 mlt
        rw [zv_and, zv_J (by omega), zv_J (by omega), zv_J (by omega)]
      have hbit : ∀ b, (mo &&& mp).testBit b = true ↔ b < 40 ∧ (40 * i + b < W ∧ zok c1 c2 (p ++ [k]) (p.length + 1 + j) (40 * i + b)) := by
        intro b
        rw [Nat.testBit_and, Bool.and_eq_true, o3 b, q3 b, zok_s]
        constructor
        · rintro ⟨⟨h1, h2, h3⟩, _, _, _, h4⟩
          exact ⟨h1, h2, h3, h4⟩
        · rintro ⟨h1, h2, h3, h4⟩
          exact ⟨⟨h1, h2, h3⟩, h1, h2, h3.1, h4⟩
      unfold f_X10_narrow_L65
      dsimp only
      rw [d1, if_neg (by simp (disch := omega) only [zk_bind, zk_chk, zk_bnd, zk_some, zlp_l, zlp_r, zb_some, zb_bnd, zI_add, zI_sub, zI_mul, zI_neg, zI_le, zI_lt, zI_eq, zI_ix, zI_inI, Int.toNat_natCast, Int.toNat_add, Int.toNat_mul, true_and, and_true]; omega), zI_add, zI_inI (by omega) (by omega) (by omega), zb_chk, zI_add, zI_inI (by omega) (by omega) (by omega), zb_chk, zI_add, zI_inI (by omega) (by omega) (by omega), zb_chk, zI_ix (by omega) (by omega), zI_ix (by omega) (by omega), zI_ix (by omega) (by omega), show ((fr_ : Int) + i).toNat = fr_ + i by omega, show ((by_ : Int) + i).toNat = by_ + i by omega, show ((to_ : Int) + i).toNat = to_ + i by omega, f61, f60, hand, zk_bnd, zb_chk, zk_bnd, zk_bnd, zk_some, zlp_l, zI_add]
      have hst : (zstL y1 61 (to_ + i) (zJ (mo &&& mp))).2 61 (to_ + i) = zJ (mo &&& mp) := by rw [zm_L, if_pos ⟨rfl, rfl⟩]
      have hor : zJ sm ||| zJ (mo &&& mp) = zJ (sm ||| (mo &&& mp)) := by
        apply zv_inj
        have hl : sm ||| (mo &&& mp) < 2 ^ 40 := Nat.or_lt_two_pow d6 mlt
        have := zp40 d6; have := zp40 mlt; have := zp40 hl
        rw [zv_or, zv_J (by omega), zv_J (by omega), zv_J (by omega)]
      refine ⟨zI_inj (by omega), d2, fun a t hh => ?_, fun i' hi' => ?_, sm ||| (mo &&& mp), ?_, Nat.or_lt_two_pow d6 mlt, fun h0 x hx => ?_, fun hno => ?_⟩
      · rw [zm_L, if_neg (by omega)]
        exact d3 a t (by omega)
      · by_cases he : i' = i
        · rw [he]
          exact ⟨mo &&& mp, hst, mlt, hbit⟩
        · obtain ⟨m', a1, a2, a3⟩ := d4 i' (by omega)
          exact ⟨m', by rw [zm_L, if_neg (by omega)]; exact a1, a2, a3⟩
      · dsimp only
        rw [hst, d5, hor]
      · have hz := (Nat.or_eq_zero_iff.mp h0)
        by_cases hx2 : x < 40 * i
        · exact d7 hz.1 x hx2
        · intro hh
          have := (hbit (x - 40 * i)).mpr ⟨by omega, by rw [show 40 * i + (x - 40 * i) = x by omega]; exact hh⟩
          rw [hz.2, Nat.zero_testBit] at this
          cases this
      · rw [d8 (fun x hx => hno x (by omega)), Nat.zero_or]
        apply Nat.eq_of_testBit_eq
        intro b
        rw [Nat.zero_testBit]
        cases hb : (mo &&& mp).testBit b with
        | false => rfl
        | true =>
          obtain ⟨h1, h2⟩ := (hbit b).mp hb
          exact absurd h2 (hno (40 * i + b) (by omega))
    · rintro ⟨y1, y2, y3⟩ ⟨d1, d2, d3, d4, sm, d5, d6, d7, d8⟩
      dsimp only at d1 d2 d3 d4 d5
      unfold f_X10_narrow_L65
      dsimp only
      rw [d1, if_pos (by simp (disch := omega) only [zk_bind, zk_chk, zk_bnd, zk_some, zlp_l, zlp_r, zb_some, zb_bnd, zI_add, zI_sub, zI_mul, zI_neg, zI_le, zI_lt, zI_eq, zI_ix, zI_inI, Int.toNat_natCast, Int.toNat_add, Int.toNat_mul, true_and, and_true]; omega), zk_some, zlp_r]
      dsimp only
      have s63 := zp40 d6
      rw [d5, show (0 : Int64) = zJ 0 from rfl, zcmp (by omega) (by omega)]
      have hfr2 : ∀ a i, (a ≠ 61 ∨ i < ((p.length + 1) * 4) * 3) → y1.2 a i = M.2 a i := fun a i hh => by rw [d3 a i (by omega)]; exact e3 a i hh
      by_cases h0 : sm = 0
      · rw [if_neg (c := 0 < sm) (by omega), if_pos h0, if_pos (by decide), zk_some]
        refine hR _ ?_
        show zOk (some (y1, zI 0)) _
        rw [zk_some]
        exact ⟨Or.inr ⟨rfl, p.length + 1 + j, by omega, by omega, fun w hw hh => d7 h0 w (by omega) ⟨hw, hh⟩⟩, d2, hfr2⟩
      · rw [if_pos (c := 0 < sm) (by omega), if_neg (by decide), zk_bnd, zk_some, zI_add]
        refine hQ _ ⟨zI_inj (by omega), d2, hfr2, fun b h1 h2 => ?_⟩
        by_cases he : b = p.length + 1 + j
        · rw [he, hto]
          exact fun i hi => d4 i hi
        · exact zBt_x (e4 b h1 (by omega)) (fun i hi => d3 61 _ (by omega))
  · rintro ⟨x1, x2⟩ ⟨e1, e2, e3, e4⟩
    dsimp only at e1 e2 e3 e4
    refine ⟨.inl x1, ?_, ?_⟩
    · unfold f_X10_narrow_L4 f_X4_told
      dsimp only
      rw [zb_some, e2, hN, e1, if_pos (by simp (disch := omega) only [zk_bind, zk_chk, zk_bnd, zk_some, zlp_l, zlp_r, zb_some, zb_bnd, zI_add, zI_sub, zI_mul, zI_neg, zI_le, zI_lt, zI_eq, zI_ix, zI_inI, Int.toNat_natCast, Int.toNat_add, Int.toNat_mul, true_and, and_true]; omega)]
    · show zOk (some (x1, zI 1)) _
      rw [zk_some]
      refine ⟨Or.inl ⟨rfl, fun b h1 h2 => ?_⟩, e2, e3⟩
      rw [hlen] at h1 ⊢
      exact e4 b (by omega) (by omega)
