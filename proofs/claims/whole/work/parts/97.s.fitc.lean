/-! ===== which words fit which names: the class ===== deps: 97.r.knownr -/
def namesC (N : Nat) (nl ny : Nat → Nat) (C : ZMem) : Prop := C.1 17 2 = zI N ∧ ∀ n, n < N → C.1 19 n = zI (nl n) ∧ ∀ k, k < nl n → C.1 18 (7 * n + k) = zI (ny (7 * n + k))
def namesR (N : Nat) (nl ny : Nat → Nat) (R : ZMem) : Prop := R.1 0 12 = zI N ∧ ∀ n, n < N → R.1 7 n = zI (nl n) ∧ ∀ k, k < nl n → R.1 8 (7 * n + k) = zI (ny (7 * n + k))
def okN (N : Nat) (nl ny : Nat → Nat) : Prop := N ≤ 4 ∧ ∀ n, n < N → 2 ≤ nl n ∧ nl n ≤ 7 ∧ ∀ k, k < nl n → ny (7 * n + k) < 50
def zSg (l : List (Nat × Nat)) (w i : Nat) : Nat := zdg (zK l w) i - 1
def zagr (l : List (Nat × Nat)) (nl ny : Nat → Nat) (kv : Nat → Nat → Int) (all n w : Nat) : Prop := zN l w = nl n ∧ ∀ i, i < nl n → ∀ kind, kind < 2 → kv kind (zSg l w i) = zpt kind (ny (7 * n + i)) ∨ (all = 0 ∧ kv kind (zSg l w i) = -1)
def zshp (l : List (Nat × Nat)) (ny : Nat → Nat) (n w : Nat) : Prop := ∀ i, i < zN l w → ∀ j, j < i → (zSg l w i = zSg l w j ↔ ny (7 * n + i) = ny (7 * n + j))
noncomputable def zhitN (l : List (Nat × Nat)) (N : Nat) (nl ny : Nat → Nat) (kv : Nat → Nat → Int) : Nat := zsum N (fun n => zsum l.length (fun w => zb (zagr l nl ny kv 1 n w ∧ zshp l ny n w)))
theorem zSg_rng {l : List (Nat × Nat)} (ho : okL l) {w i : Nat} (hw : w < l.length) (hi : i < zN l w) : zSg l w i < 20 ∧ zks (zK l w) i = (zSg l w i : Int) := by
  obtain ⟨h1, h2⟩ := okL_W ho hw
  have h3 := h2.2.2.1 i hi
  have h4 := h2.2.1
  refine ⟨by unfold zSg; omega, ?_⟩
  rw [zks_lt (by omega)]
  unfold zSg
  omega
theorem c_has4 {M : ZMem} {N : Nat} (hN : M.1 17 2 = zI N) (hN4 : N ≤ 4) {a : Int} (h1 : -2147483648 ≤ a) (h2 : a ≤ 2147483647) : f_X4_has M (zI a) = some (zI (zb (0 ≤ a ∧ a < N))) := by
  unfold f_X4_has
  rw [hN]
  by_cases c1 : a < 0
  · rw [if_pos (by simp (disch := omega) only [zk_bind, zk_chk, zk_bnd, zk_some, zlp_l, zlp_r, zb_some, zb_bnd, zI_add, zI_sub, zI_mul, zI_neg, zI_le, zI_lt, zI_eq, zI_ix, zI_inI, Int.toNat_natCast, Int.toNat_add, Int.toNat_mul, true_and, and_true]; omega), zb_f (by omega)]; rfl
  · rw [if_neg (by simp (disch := omega) only [zk_bind, zk_chk, zk_bnd, zk_some, zlp_l, zlp_r, zb_some, zb_bnd, zI_add, zI_sub, zI_mul, zI_neg, zI_le, zI_lt, zI_eq, zI_ix, zI_inI, Int.toNat_natCast, Int.toNat_add, Int.toNat_mul, true_and, and_true]; omega)]
    by_cases c2 : (N : Int) ≤ a
    · rw [if_pos (by simp (disch := omega) only [zk_bind, zk_chk, zk_bnd, zk_some, zlp_l, zlp_r, zb_some, zb_bnd, zI_add, zI_sub, zI_mul, zI_neg, zI_le, zI_lt, zI_eq, zI_ix, zI_inI, Int.toNat_natCast, Int.toNat_add, Int.toNat_mul, true_and, and_true]; omega), zb_f (by omega)]; rfl
    · rw [if_neg (by simp (disch := omega) only [zk_bind, zk_chk, zk_bnd, zk_some, zlp_l, zlp_r, zb_some, zb_bnd, zI_add, zI_sub, zI_mul, zI_neg, zI_le, zI_lt, zI_eq, zI_ix, zI_inI, Int.toNat_natCast, Int.toNat_add, Int.toNat_mul, true_and, and_true]; omega), zb_t (by omega)]; rfl
theorem c_lengthOf4 {M : ZMem} {N : Nat} {nl ny : Nat → Nat} (hn : okN N nl ny) (h : namesC N nl ny M) {n : Nat} (hnN : n < N) : f_X4_lengthOf M (zI n) = some (zI (nl n)) := by
  have := hn.1
  unfold f_X4_lengthOf
  rw [c_has4 h.1 hn.1 (by omega) (by omega), zb_some, if_neg (by rw [zb_0]; omega), zI_inI (by omega) (by omega) (by omega), zb_chk, zI_ix (by omega) (by omega), Int.toNat_natCast, (h.2 n hnN).1]
theorem c_syllableAt {M : ZMem} {N : Nat} {nl ny : Nat → Nat} (hn : okN N nl ny) (h : namesC N nl ny M) {n k : Nat} (hnN : n < N) (hk : k < nl n) : f_X4_syllableAt M (zI n) (zI k) = some (zI (ny (7 * n + k))) := by
  have := hn.1
  have h7 := (hn.2 n hnN).2.1
  unfold f_X4_syllableAt
  rw [c_has4 h.1 hn.1 (by omega) (by omega), zb_some, if_neg (by rw [zb_0]; omega), if_neg (by simp (disch := omega) only [zk_bind, zk_chk, zk_bnd, zk_some, zlp_l, zlp_r, zb_some, zb_bnd, zI_add, zI_sub, zI_mul, zI_neg, zI_le, zI_lt, zI_eq, zI_ix, zI_inI, Int.toNat_natCast, Int.toNat_add, Int.toNat_mul, true_and, and_true]; omega), zI_inI (by omega) (by omega) (by omega), zb_chk, zI_ix (by omega) (by omega), Int.toNat_natCast, (h.2 n hnN).1, if_neg (by simp (disch := omega) only [zk_bind, zk_chk, zk_bnd, zk_some, zlp_l, zlp_r, zb_some, zb_bnd, zI_add, zI_sub, zI_mul, zI_neg, zI_le, zI_lt, zI_eq, zI_ix, zI_inI, Int.toNat_natCast, Int.toNat_add, Int.toNat_mul, true_and, and_true]; omega), zI_mul, zI_add, zI_inI (by omega) (by omega) (by omega), zb_chk, zI_ix (by omega) (by omega), show ((n : Int) * 7 + k).toNat = 7 * n + k by omega, (h.2 n hnN).2 k hk]
theorem c_lengthOf2 {M : ZMem} {l : List (Nat × Nat)} (ho : okL l) (h : lexW l M) {w : Nat} (hw : w < l.length) : f_X2_lengthOf M (zI w) = some (zI (zN l w)) := by
  have := ho.1
  unfold f_X2_lengthOf
  rw [c_has2 h.1.1 ho.1 (by omega) (by omega), zb_some, if_neg (by rw [zb_0]; omega), zI_inI (by omega) (by omega) (by omega), zb_chk, zI_ix (by omega) (by omega), Int.toNat_natCast, h.2 w hw]
theorem c_sign2 {M : ZMem} {l : List (Nat × Nat)} (ho : okL l) (h : lexW l M) {w i : Nat} (hw : w < l.length) (hi : i < zN l w) : f_X2_signAt M (zI w) (zI i) = some (zI (zSg l w i)) := by
  have := (okL_W ho hw).2.2.1
  rw [c_signAt2 ho h.1 hw (by omega), (zSg_rng ho hw hi).2]
theorem c_mayBe {M : ZMem} {a b : Int} {all : Nat} (ha : -1 ≤ a) (ha' : a ≤ 9) (hb : 0 ≤ b) (hb' : b ≤ 9) (hal : all ≤ 1) : f_X3_mayBe M (zI a) (zI b) (zI all) = some (zI (zb (a = b ∨ (all = 0 ∧ a = -1)))) := by
  unfold f_X3_mayBe
  by_cases c1 : a = b
  · rw [if_pos (by rw [c1]), zb_t (Or.inl c1)]; rfl
  · rw [if_neg (by simp (disch := omega) only [zk_bind, zk_chk, zk_bnd, zk_some, zlp_l, zlp_r, zb_some, zb_bnd, zI_add, zI_sub, zI_mul, zI_neg, zI_le, zI_lt, zI_eq, zI_ix, zI_inI, Int.toNat_natCast, Int.toNat_add, Int.toNat_mul, true_and, and_true]; omega)]
    by_cases c2 : a = -1
    · rw [if_pos (by rw [c2])]
      by_cases c3 : all = 0
      · rw [if_pos (by rw [c3]; rfl), zb_t (Or.inr ⟨c3, c2⟩)]; rfl
      · rw [if_neg (by simp (disch := omega) only [zk_bind, zk_chk, zk_bnd, zk_some, zlp_l, zlp_r, zb_some, zb_bnd, zI_add, zI_sub, zI_mul, zI_neg, zI_le, zI_lt, zI_eq, zI_ix, zI_inI, Int.toNat_natCast, Int.toNat_add, Int.toNat_mul, true_and, and_true]; omega), zb_f (by omega)]; rfl
    · rw [if_neg (by simp (disch := omega) only [zk_bind, zk_chk, zk_bnd, zk_some, zlp_l, zlp_r, zb_some, zb_bnd, zI_add, zI_sub, zI_mul, zI_neg, zI_le, zI_lt, zI_eq, zI_ix, zI_inI, Int.toNat_natCast, Int.toNat_add, Int.toNat_mul, true_and, and_true]; omega), zb_f (by omega)]; rfl
/-- values that words are looked at with -/
def mchC (kv : Nat → Nat → Int) (C : ZMem) : Prop := ∀ s, s < 20 → C.1 56 s = zI (kv 0 s) ∧ C.1 57 s = zI (kv 1 s)
def okV (kv : Nat → Nat → Int) : Prop := ∀ kind s, -1 ≤ kv kind s ∧ kv kind s ≤ 9
theorem c_agrees {M : ZMem} {N : Nat} {nl ny : Nat → Nat} {l : List (Nat × Nat)} {kv : Nat → Nat → Int} (hn : okN N nl ny) (hN : namesC N nl ny M) (ho : okL l) (hl : lexW l M) (hv : okV kv) (hm : mchC kv M) {n w all : Nat} (hnN : n < N) (hw : w < l.length) (hal : all ≤ 1) : f_X3_agrees M (zI n) (zI w) (zI all) = some (zI (zb (zagr l nl ny kv all n w))) := by
  have hN4 := hn.1
  obtain ⟨n2, n7, n50⟩ := hn.2 n hnN
  have w7 := (okL_W ho hw).2.2.1
  unfold f_X3_agrees
  rw [c_lengthOf2 ho hl hw, zb_some, c_lengthOf4 hn hN hnN, zb_some]
  by_cases c1 : zN l w = nl n
  · rw [if_pos (by rw [c1])]
    apply zOk_is
    rw [zk_bind]
    refine zOk_forQ (fun i x => x = zI i ∧ ∀ j, j < i → ∀ kind, kind < 2 → kv kind (zSg l w j) = zpt kind (ny (7 * n + j)) ∨ (all = 0 ∧ kv kind (zSg l w j) = -1)) (nl n) ?_ ?_ ⟨rfl, fun j hj => absurd hj (Nat.not_lt_zero j)⟩
    · rintro i x hi ⟨rfl, e1⟩ Q hQ hR
      have s1 := (zSg_rng ho hw (i := i) (by omega)).1
      have y1 := n50 i hi
      have v0 := hv 0 (zSg l w i)
      have v1 := hv 1 (zSg l w i)
      have p0 := zpt_rng (kind := 0) (v := ny (7 * n + i)) (by omega) (by omega)
      have p1 := zpt_rng (kind := 1) (v := ny (7 * n + i)) (by omega) (by omega)
      have bad : (∃ kind, kind < 2 ∧ ¬ (kv kind (zSg l w i) = zpt kind (ny (7 * n + i)) ∨ (all = 0 ∧ kv kind (zSg l w i) = -1))) → zOk (some (.inr (.inr (zI 0))) : Option (Int32 ⊕ (Unit ⊕ Int32))) Q := by
        rintro ⟨kind, k1, k2⟩
        rw [zk_some]
        refine hR _ ?_
        show zOk (some (zI 0)) _
        rw [zk_some, zb_f (fun hz => k2 (hz.2 i hi kind k1))]
        rfl
      unfold f_X3_agrees_L24
      rw [c_lengthOf4 hn hN hnN, zb_some, if_neg (by simp (disch := omega) only [zk_bind, zk_chk, zk_bnd, zk_some, zlp_l, zlp_r, zb_some, zb_bnd, zI_add, zI_sub, zI_mul, zI_neg, zI_le, zI_lt, zI_eq, zI_ix, zI_inI, Int.toNat_natCast, Int.toNat_add, Int.toNat_mul, true_and, and_true]; omega), c_sign2 ho hl hw (by omega), zb_some, c_syllableAt hn hN hnN hi, zb_some, if_neg (by simp (disch := omega) only [zk_bind, zk_chk, zk_bnd, zk_some, zlp_l, zlp_r, zb_some, zb_bnd, zI_add, zI_sub, zI_mul, zI_neg, zI_le, zI_lt, zI_eq, zI_ix, zI_inI, Int.toNat_natCast, Int.toNat_add, Int.toNat_mul, true_and, and_true]; omega), if_neg (by simp (disch := omega) only [zk_bind, zk_chk, zk_bnd, zk_some, zlp_l, zlp_r, zb_some, zb_bnd, zI_add, zI_sub, zI_mul, zI_neg, zI_le, zI_lt, zI_eq, zI_ix, zI_inI, Int.toNat_natCast, Int.toNat_add, Int.toNat_mul, true_and, and_true]; omega), zI_inI (by omega) (by omega) (by omega), zb_chk, zI_ix (by omega) (by omega), Int.toNat_natCast, (hm _ s1).1, (hm _ s1).2, zI_rem (by omega) (by omega) (by omega) (by omega), zI_div (by omega) (by omega) (by omega) (by omega), show ((ny (7 * n + i) : Nat) : Int) / 5 = zpt 0 (ny (7 * n + i)) from rfl, show ((ny (7 * n + i) : Nat) : Int) % 5 = zpt 1 (ny (7 * n + i)) from rfl, c_mayBe v0.1 v0.2 p0.1 p0.2 hal, zb_some]
      by_cases c2 : kv 0 (zSg l w i) = zpt 0 (ny (7 * n + i)) ∨ (all = 0 ∧ kv 0 (zSg l w i) = -1)
      · rw [if_neg (by rw [zb_0]; exact not_not_intro c2), zb_chk, c_mayBe v1.1 v1.2 p1.1 p1.2 hal, zb_some]
        by_cases c3 : kv 1 (zSg l w i) = zpt 1 (ny (7 * n + i)) ∨ (all = 0 ∧ kv 1 (zSg l w i) = -1)
        · rw [if_neg (by rw [zb_0]; exact not_not_intro c3), zk_bnd, zk_some, zI_add]
          refine hQ _ ⟨zI_inj (by omega), fun j hj kind hkd => ?_⟩
          by_cases he : j = i
          · rw [he]
            by_cases hk0 : kind = 0
            · rw [hk0]; exact c2
            · rw [show kind = 1 by omega]; exact c3
          · exact e1 j (by omega) kind hkd
        · rw [if_pos (by rw [zb_0]; exact c3)]
          exact bad ⟨1, by omega, c3⟩
      · rw [if_pos (by rw [zb_0]; exact c2)]
        exact bad ⟨0, by omega, c2⟩
    · rintro x ⟨rfl, e1⟩
      refine ⟨.inl (), ?_, ?_⟩
      · unfold f_X3_agrees_L24
        rw [c_lengthOf4 hn hN hnN, zb_some, if_pos (by simp (disch := omega) only [zk_bind, zk_chk, zk_bnd, zk_some, zlp_l, zlp_r, zb_some, zb_bnd, zI_add, zI_sub, zI_mul, zI_neg, zI_le, zI_lt, zI_eq, zI_ix, zI_inI, Int.toNat_natCast, Int.toNat_add, Int.toNat_mul, true_and, and_true]; omega)]
      · show zOk (some (zI 1)) _
        rw [zk_some, zb_t ⟨c1, e1⟩]
        rfl
  · rw [if_neg (by simp (disch := omega) only [zk_bind, zk_chk, zk_bnd, zk_some, zlp_l, zlp_r, zb_some, zb_bnd, zI_add, zI_sub, zI_mul, zI_neg, zI_le, zI_lt, zI_eq, zI_ix, zI_inI, Int.toNat_natCast, Int.toNat_add, Int.toNat_mul, true_and, and_true]; omega), zb_f (fun hz => c1 hz.1)]
    rfl
theorem c_hasShape {M : ZMem} {N : Nat} {nl ny : Nat → Nat} {l : List (Nat × Nat)} (hn : okN N nl ny) (hN : namesC N nl ny M) (ho : okL l) (hl : lexW l M) {n w : Nat} (hnN : n < N) (hw : w < l.length) (hnw : zN l w = nl n) : f_X3_hasShape M (zI n) (zI w) = some (zI (zb (zshp l ny n w))) := by
  have hN4 := hn.1
  obtain ⟨n2, n7, n50⟩ := hn.2 n hnN
  apply zOk_is
  unfold f_X3_hasShape
  rw [zk_bind]
  refine zOk_forQ (fun i x => x = zI i ∧ ∀ i', i' < i → ∀ j, j < i' → (zSg l w i' = zSg l w j ↔ ny (7 * n + i') = ny (7 * n + j))) (zN l w) ?_ ?_ ⟨rfl, fun j hj => absurd hj (Nat.not_lt_zero j)⟩
  · rintro i x hi ⟨rfl, e1⟩ Q hQ hR
    have s1 := (zSg_rng ho hw hi).1
    have y1 := n50 i (by omega)
    unfold f_X3_hasShape_L2
    rw [c_lengthOf2 ho hl hw, zb_some, if_neg (by simp (disch := omega) only [zk_bind, zk_chk, zk_bnd, zk_some, zlp_l, zlp_r, zb_some, zb_bnd, zI_add, zI_sub, zI_mul, zI_neg, zI_le, zI_lt, zI_eq, zI_ix, zI_inI, Int.toNat_natCast, Int.toNat_add, Int.toNat_mul, true_and, and_true]; omega), zk_bind]
    refine zOk_forQ (fun j x => x = zI j ∧ ∀ j', j' < j → (zSg l w i = zSg l w j' ↔ ny (7 * n + i) = ny (7 * n + j'))) i ?_ ?_ ⟨rfl, fun j hj => absurd hj (Nat.not_lt_zero j)⟩
    · rintro j x hj ⟨rfl, d1⟩ Q' hQ' hR'
      have s2 := (zSg_rng ho hw (i := j) (by omega)).1
      have y2 := n50 j (by omega)
      have key : ∀ v u : Nat, v ≤ 1 → u ≤ 1 → (v = 1 ↔ zSg l w i = zSg l w j) → (u = 1 ↔ ny (7 * n + i) = ny (7 * n + j)) → zOk (f_X3_hasShape_79_L17 M (zI n) (zI w) (zI i) (zI j) (zI v) (zI u)) Q' := by
        intro v u v1 u1 hv hu
        unfold f_X3_hasShape_79_L17
        by_cases hvu : v = u
        · rw [if_pos (by rw [hvu]), zk_bnd, zk_some, zI_add]
          refine hQ' _ ⟨zI_inj (by omega), fun j' hj' => ?_⟩
          by_cases he : j' = j
          · rw [he, ← hv, ← hu, hvu]
          · exact d1 j' (by omega)
        · rw [if_neg (by simp (disch := omega) only [zk_bind, zk_chk, zk_bnd, zk_some, zlp_l, zlp_r, zb_some, zb_bnd, zI_add, zI_sub, zI_mul, zI_neg, zI_le, zI_lt, zI_eq, zI_ix, zI_inI, Int.toNat_natCast, Int.toNat_add, Int.toNat_mul, true_and, and_true]; omega), zk_some]
          refine hR' _ ?_
          show zOk (some (.inr (.inr (zI 0)))) Q
          rw [zk_some]
          refine hR _ ?_
          show zOk (some (zI 0)) _
          rw [zk_some, zb_f (fun hz => ?_)]
          · rfl
          · have := hz i hi j hj
            omega
      have key2 : ∀ v : Nat, v ≤ 1 → (v = 1 ↔ zSg l w i = zSg l w j) → zOk (f_X3_hasShape_50_L17 M (zI n) (zI w) (zI i) (zI j) (zI v)) Q' := by
        intro v v1 hv
        unfold f_X3_hasShape_50_L17
        rw [c_syllableAt hn hN hnN (by omega), zb_some, c_syllableAt hn hN hnN (by omega), zb_some]
        by_cases hy : ny (7 * n + i) = ny (7 * n + j)
        · rw [if_pos (by rw [hy])]
          exact key v 1 v1 (by omega) hv ⟨fun _ => hy, fun _ => rfl⟩
        · rw [if_neg (by simp (disch := omega) only [zk_bind, zk_chk, zk_bnd, zk_some, zlp_l, zlp_r, zb_some, zb_bnd, zI_add, zI_sub, zI_mul, zI_neg, zI_le, zI_lt, zI_eq, zI_ix, zI_inI, Int.toNat_natCast, Int.toNat_add, Int.toNat_mul, true_and, and_true]; omega)]
          exact key v 0 v1 (by omega) hv ⟨fun h => by omega, fun h => absurd h hy⟩
      unfold f_X3_hasShape_L17
      rw [if_neg (by simp (disch := omega) only [zk_bind, zk_chk, zk_bnd, zk_some, zlp_l, zlp_r, zb_some, zb_bnd, zI_add, zI_sub, zI_mul, zI_neg, zI_le, zI_lt, zI_eq, zI_ix, zI_inI, Int.toNat_natCast, Int.toNat_add, Int.toNat_mul, true_and, and_true]; omega), c_sign2 ho hl hw hi, zb_some, c_sign2 ho hl hw (by omega), zb_some]
      by_cases hs : zSg l w i = zSg l w j
      · rw [if_pos (by rw [hs])]
        exact key2 1 (by omega) ⟨fun _ => hs, fun _ => rfl⟩
      · rw [if_neg (by simp (disch := omega) only [zk_bind, zk_chk, zk_bnd, zk_some, zlp_l, zlp_r, zb_some, zb_bnd, zI_add, zI_sub, zI_mul, zI_neg, zI_le, zI_lt, zI_eq, zI_ix, zI_inI, Int.toNat_natCast, Int.toNat_add, Int.toNat_mul, true_and, and_true]; omega)]
        exact key2 0 (by omega) ⟨fun h => by omega, fun h => absurd h hs⟩
    · rintro x ⟨rfl, d1⟩
      refine ⟨.inl (), ?_, ?_⟩
      · unfold f_X3_hasShape_L17
        rw [if_pos (by simp (disch := omega) only [zk_bind, zk_chk, zk_bnd, zk_some, zlp_l, zlp_r, zb_some, zb_bnd, zI_add, zI_sub, zI_mul, zI_neg, zI_le, zI_lt, zI_eq, zI_ix, zI_inI, Int.toNat_natCast, Int.toNat_add, Int.toNat_mul, true_and, and_true]; omega)]
      · show zOk (zbnd (zI i + zI 1) (fun x3_96 => some (.inl x3_96))) Q
        rw [zk_bnd, zk_some, zI_add]
        refine hQ _ ⟨zI_inj (by omega), fun i' hi' j hj => ?_⟩
        by_cases he : i' = i
        · rw [he] at hj ⊢
          exact d1 j hj
        · exact e1 i' (by omega) j hj
  · rintro x ⟨rfl, e1⟩
    refine ⟨.inl (), ?_, ?_⟩
    · unfold f_X3_hasShape_L2
      rw [c_lengthOf2 ho hl hw, zb_some, if_pos (by simp (disch := omega) only [zk_bind, zk_chk, zk_bnd, zk_some, zlp_l, zlp_r, zb_some, zb_bnd, zI_add, zI_sub, zI_mul, zI_neg, zI_le, zI_lt, zI_eq, zI_ix, zI_inI, Int.toNat_natCast, Int.toNat_add, Int.toNat_mul, true_and, and_true]; have := (okL_W ho hw).2.2.1; omega)]
    · show zOk (some (zI 1)) _
      rw [zk_some, zb_t (p := zshp l ny n w) e1]
      rfl
theorem c_countHits {M : ZMem} {N : Nat} {nl ny : Nat → Nat} {l : List (Nat × Nat)} {kv : Nat → Nat → Int} (hn : okN N nl ny) (hN : namesC N nl ny M) (ho : okL l) (hl : lexW l M) (hv : okV kv) (hm : mchC kv M) : f_X3_countHits M = some (zI (zhitN l N nl ny kv)) := by
  have hN4 := hn.1
  have hlen := ho.1
  apply zOk_is
  unfold f_X3_countHits
  rw [zk_bind]
  refine zOk_for0 (fun n x => x = (zI (zsum n (fun n => zsum l.length (fun w => zb (zagr l nl ny kv 1 n w ∧ zshp l ny n w)))), zI n)) N ?_ ?_ rfl
  · rintro n x hnN rfl
    unfold f_X3_countHits_L4 f_X4_told
    dsimp only
    rw [zb_some, hN.1, if_neg (by simp (disch := omega) only [zk_bind, zk_chk, zk_bnd, zk_some, zlp_l, zlp_r, zb_some, zb_bnd, zI_add, zI_sub, zI_mul, zI_neg, zI_le, zI_lt, zI_eq, zI_ix, zI_inI, Int.toNat_natCast, Int.toNat_add, Int.toNat_mul, true_and, and_true]; omega), zk_bind]
    refine zOk_for0 (fun w x => x = (zI ((zsum n (fun n => zsum l.length (fun w => zb (zagr l nl ny kv 1 n w ∧ zshp l ny n w))) + zsum w (fun w => zb (zagr l nl ny kv 1 n w ∧ zshp l ny n w)) : Nat) : Int), zI w)) l.length ?_ ?_ rfl
    · rintro w x hw rfl
      unfold f_X3_countHits_L17 f_X2_held
      dsimp only
      rw [zb_some, hl.1.1, if_neg (by simp (disch := omega) only [zk_bind, zk_chk, zk_bnd, zk_some, zlp_l, zlp_r, zb_some, zb_bnd, zI_add, zI_sub, zI_mul, zI_neg, zI_le, zI_lt, zI_eq, zI_ix, zI_inI, Int.toNat_natCast, Int.toNat_add, Int.toNat_mul, true_and, and_true]; omega), show zI 1 = zI ((1 : Nat) : Int) from rfl, c_agrees hn hN ho hl hv hm hnN hw (by omega), zb_some]
      by_cases c1 : zagr l nl ny kv 1 n w
      · rw [if_neg (by rw [zb_0]; exact not_not_intro c1), c_hasShape hn hN ho hl hnN hw c1.1, zb_some]
        by_cases c2 : zshp l ny n w
        · rw [if_neg (by rw [zb_0]; exact not_not_intro c2), zk_bnd, zk_bnd, zk_some, zlp_l, zI_add, zI_add]
          exact Prod.ext (zI_inj (by rw [zsum_s, zb_t ⟨c1, c2⟩]; omega)) (zI_inj (by omega))
        · rw [if_pos (by rw [zb_0]; exact c2), zk_bnd, zk_bnd, zk_some, zlp_l, zI_add, zI_add]
          exact Prod.ext (zI_inj (by rw [zsum_s, zb_f (fun hh => c2 hh.2)]; omega)) (zI_inj (by omega))
      · rw [if_pos (by rw [zb_0]; exact c1), zk_bnd, zk_bnd, zk_some, zlp_l, zI_add, zI_add]
        exact Prod.ext (zI_inj (by rw [zsum_s, zb_f (fun hh => c1 hh.1)]; omega)) (zI_inj (by omega))
    · rintro x rfl
      unfold f_X3_countHits_L17 f_X2_held
      dsimp only
      rw [zb_some, hl.1.1, if_pos (by simp (disch := omega) only [zk_bind, zk_chk, zk_bnd, zk_some, zlp_l, zlp_r, zb_some, zb_bnd, zI_add, zI_sub, zI_mul, zI_neg, zI_le, zI_lt, zI_eq, zI_ix, zI_inI, Int.toNat_natCast, Int.toNat_add, Int.toNat_mul, true_and, and_true]; omega), zk_some, zlp_r, zk_bnd, zk_some, zlp_l, zI_add]
      exact Prod.ext rfl (zI_inj (by omega))
  · rintro x rfl
    unfold f_X3_countHits_L4 f_X4_told
    dsimp only
    rw [zb_some, hN.1, if_pos (by simp (disch := omega) only [zk_bind, zk_chk, zk_bnd, zk_some, zlp_l, zlp_r, zb_some, zb_bnd, zI_add, zI_sub, zI_mul, zI_neg, zI_le, zI_lt, zI_eq, zI_ix, zI_inI, Int.toNat_natCast, Int.toNat_add, Int.toNat_mul, true_and, and_true]; omega), zk_some, zlp_r, zk_some]
    rfl
