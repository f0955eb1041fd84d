/-! ===== ways: what is asked of two words; bits of words ===== deps: 97.w.settle -/
def zag (l : List (Nat × Nat)) (nl ny : Nat → Nat) (gr : Nat → Nat → Nat) (n w m v : Nat) : Prop := ∀ i, i < nl n → ∀ j, j < nl m → (zSg l w i = zSg l v j ↔ ny (7 * n + i) = ny (7 * m + j)) ∧ ∀ kind, kind < 2 → gr kind (zSg l w i) = gr kind (zSg l v j) → zpt kind (ny (7 * n + i)) = zpt kind (ny (7 * m + j))
theorem zag_sym {l : List (Nat × Nat)} {nl ny : Nat → Nat} {gr : Nat → Nat → Nat} {n w m v : Nat} (h : zag l nl ny gr n w m v) : zag l nl ny gr m v n w := fun i hi j hj => ⟨⟨fun e => ((h j hj i hi).1.mp e.symm).symm, fun e => ((h j hj i hi).1.mpr e.symm).symm⟩, fun kind hk e => ((h j hj i hi).2 kind hk e.symm).symm⟩
def labS (l : List (Nat × Nat)) (gr : Nat → Nat → Nat) (C : ZMem) : Prop := ∀ w i, w < l.length → i < zN l w → (C.1 44 (zSg l w i) = zI (gr 0 (zSg l w i)) ∧ C.1 48 (zSg l w i) = zI (gr 1 (zSg l w i))) ∧ gr 0 (zSg l w i) < 20 ∧ gr 1 (zSg l w i) < 20
theorem c_together {M : ZMem} {q a b : Nat} {x y : Nat} (ha : a < 20) (hb : b < 20) (hx : M.1 (q + 3) a = zI x) (hy : M.1 (q + 3) b = zI y) (hx2 : x < 20) (hy2 : y < 20) : f_X5_together q M (zI a) (zI b) = some (zI (zb (x = y))) := by
  unfold f_X5_together
  rw [c_isPlace5 ha, c_isPlace5 hb, zb_some, if_neg (by decide), zb_some, if_neg (by decide), zI_inI (by omega) (by omega) (by omega), zb_chk, zI_inI (by omega) (by omega) (by omega), zb_chk, zI_ix (by omega) (by omega), zI_ix (by omega) (by omega), Int.toNat_natCast, Int.toNat_natCast, hx, hy]
  by_cases c : x = y
  · rw [if_pos (by rw [c]), zb_t c]; rfl
  · rw [if_neg (by simp (disch := omega) only [zk_bind, zk_chk, zk_bnd, zk_some, zlp_l, zlp_r, zb_some, zb_bnd, zI_add, zI_sub, zI_mul, zI_neg, zI_le, zI_lt, zI_eq, zI_ix, zI_inI, Int.toNat_natCast, Int.toNat_add, Int.toNat_mul, true_and, and_true]; omega), zb_f c]; rfl
theorem c_goTogether {M : ZMem} {N : Nat} {nl ny : Nat → Nat} {l : List (Nat × Nat)} {gr : Nat → Nat → Nat} (hn : okN N nl ny) (hN : namesC N nl ny M) (ho : okL l) (hl : lexW l M) (hL : labS l gr M) {n w m v : Nat} (hnN : n < N) (hmN : m < N) (hw : w < l.length) (hv : v < l.length) (e1 : zN l w = nl n) (e2 : zN l v = nl m) : f_X10_goTogether M (zI n) (zI w) (zI m) (zI v) = some (zI (zb (zag l nl ny gr n w m v))) := by
  have hN4 := hn.1
  obtain ⟨n2, n7, n50⟩ := hn.2 n hnN
  obtain ⟨m2, m7, m50⟩ := hn.2 m hmN
  apply zOk_is
  unfold f_X10_goTogether
  rw [zk_bind]
  refine zOk_forQ (fun i x => x = zI i ∧ ∀ i', i' < i → ∀ j, j < nl m → (zSg l w i' = zSg l v j ↔ ny (7 * n + i') = ny (7 * m + j)) ∧ ∀ kind, kind < 2 → gr kind (zSg l w i') = gr kind (zSg l v j) → zpt kind (ny (7 * n + i')) = zpt kind (ny (7 * m + j))) (nl n) ?_ ?_ ⟨rfl, fun j hj => absurd hj (Nat.not_lt_zero j)⟩
  · rintro i x hi ⟨rfl, d1⟩ Q hQ hR
    have s1 := (zSg_rng ho hw (i := i) (by omega)).1
    have y1 := n50 i hi
    obtain ⟨⟨la, lb⟩, ga, gb⟩ := hL w i hw (by omega)
    unfold f_X10_goTogether_L3
    rw [c_lengthOf2 ho hl hw, zb_some, if_neg (by simp (disch := omega) only [zk_bind, zk_chk, zk_bnd, zk_some, zlp_l, zlp_r, zb_some, zb_bnd, zI_add, zI_sub, zI_mul, zI_neg, zI_le, zI_lt, zI_eq, zI_ix, zI_inI, Int.toNat_natCast, Int.toNat_add, Int.toNat_mul, true_and, and_true]; omega), c_sign2 ho hl hw (by omega), zb_some, c_syllableAt hn hN hnN hi, zb_some, zk_bind]
    refine zOk_forQ (fun j x => x = zI j ∧ ∀ j', j' < j → (zSg l w i = zSg l v j' ↔ ny (7 * n + i) = ny (7 * m + j')) ∧ ∀ kind, kind < 2 → gr kind (zSg l w i) = gr kind (zSg l v j') → zpt kind (ny (7 * n + i)) = zpt kind (ny (7 * m + j'))) (nl m) ?_ ?_ ⟨rfl, fun j hj => absurd hj (Nat.not_lt_zero j)⟩
    · rintro j x hj ⟨rfl, c1⟩ Q' hQ' hR'
      have s2 := (zSg_rng ho hv (i := j) (by omega)).1
      have y2 := m50 j hj
      obtain ⟨⟨lc, ld⟩, gc, gd⟩ := hL v j hv (by omega)
      have bad : ¬ ((zSg l w i = zSg l v j ↔ ny (7 * n + i) = ny (7 * m + j)) ∧ ∀ kind, kind < 2 → gr kind (zSg l w i) = gr kind (zSg l v j) → zpt kind (ny (7 * n + i)) = zpt kind (ny (7 * m + j))) → zOk (some (.inr (.inr (zI 0))) : Option (Int32 ⊕ (Unit ⊕ Int32))) Q' := by
        intro hno
        rw [zk_some]
        refine hR' _ ?_
        show zOk (some (.inr (.inr (zI 0)))) Q
        rw [zk_some]
        refine hR _ ?_
        show zOk (some (zI 0)) _
        rw [zk_some, zb_f (p := zag l nl ny gr n w m v) (fun hz => hno (hz i hi j hj))]
        rfl
      have good : ((zSg l w i = zSg l v j ↔ ny (7 * n + i) = ny (7 * m + j)) ∧ ∀ kind, kind < 2 → gr kind (zSg l w i) = gr kind (zSg l v j) → zpt kind (ny (7 * n + i)) = zpt kind (ny (7 * m + j))) → zOk (zbnd (zI j + zI 1) (fun x8_159 => (some (.inl x8_159) : Option (Int32 ⊕ (Unit ⊕ Int32))))) Q' := by
        intro hok
        rw [zk_bnd, zk_some, zI_add]
        refine hQ' _ ⟨zI_inj (by omega), fun j' hj' => ?_⟩
        by_cases he : j' = j
        · rw [he]; exact hok
        · exact c1 j' (by omega)
      have p0 : ∀ kind, kind < 2 → 0 ≤ zpt kind (ny (7 * n + i)) ∧ zpt kind (ny (7 * n + i)) ≤ 9 := fun kind _ => zpt_rng (by omega) (by omega)
      have p1 : ∀ kind, kind < 2 → 0 ≤ zpt kind (ny (7 * m + j)) ∧ zpt kind (ny (7 * m + j)) ≤ 9 := fun kind _ => zpt_rng (by omega) (by omega)
      have sc : f_X10_sameConsonant M (zI (ny (7 * n + i))) (zI (ny (7 * m + j))) = some (zI (zb (zpt 0 (ny (7 * n + i)) = zpt 0 (ny (7 * m + j))))) := by
        have a := p0 0 (by omega)
        have b := p1 0 (by omega)
        unfold f_X10_sameConsonant
        rw [zI_div (by omega) (by omega) (by omega) (by omega), zI_div (by omega) (by omega) (by omega) (by omega)]
        show (if zI (zpt 0 (ny (7 * n + i))) = zI (zpt 0 (ny (7 * m + j))) then _ else _) = _
        by_cases c : zpt 0 (ny (7 * n + i)) = zpt 0 (ny (7 * m + j))
        · rw [if_pos (by rw [c]), zb_t c]; rfl
        · rw [if_neg (by simp (disch := omega) only [zk_bind, zk_chk, zk_bnd, zk_some, zlp_l, zlp_r, zb_some, zb_bnd, zI_add, zI_sub, zI_mul, zI_neg, zI_le, zI_lt, zI_eq, zI_ix, zI_inI, Int.toNat_natCast, Int.toNat_add, Int.toNat_mul, true_and, and_true]; omega), zb_f c]; rfl
      have sv : f_X10_sameVowel M (zI (ny (7 * n + i))) (zI (ny (7 * m + j))) = some (zI (zb (zpt 1 (ny (7 * n + i)) = zpt 1 (ny (7 * m + j))))) := by
        have a := p0 1 (by omega)
        have b := p1 1 (by omega)
        unfold f_X10_sameVowel
        rw [zI_rem (by omega) (by omega) (by omega) (by omega), zI_rem (by omega) (by omega) (by omega) (by omega)]
        show (if zI (zpt 1 (ny (7 * n + i))) = zI (zpt 1 (ny (7 * m + j))) then _ else _) = _
        by_cases c : zpt 1 (ny (7 * n + i)) = zpt 1 (ny (7 * m + j))
        · rw [if_pos (by rw [c]), zb_t c]; rfl
        · rw [if_neg (by simp (disch := omega) only [zk_bind, zk_chk, zk_bnd, zk_some, zlp_l, zlp_r, zb_some, zb_bnd, zI_add, zI_sub, zI_mul, zI_neg, zI_le, zI_lt, zI_eq, zI_ix, zI_inI, Int.toNat_natCast, Int.toNat_add, Int.toNat_mul, true_and, and_true]; omega), zb_f c]; rfl
      have key3 : (zSg l w i = zSg l v j ↔ ny (7 * n + i) = ny (7 * m + j)) → (gr 0 (zSg l w i) = gr 0 (zSg l v j) → zpt 0 (ny (7 * n + i)) = zpt 0 (ny (7 * m + j))) → zOk (f_X10_goTogether_133_L43 M (zI n) (zI w) (zI m) (zI v) (zI i) (zI (zSg l w i)) (zI (ny (7 * n + i))) (zI j) (zI (zSg l v j)) (zI (ny (7 * m + j)))) Q' := by
        intro h1 h2
        unfold f_X10_goTogether_133_L43
        rw [c_together s1 s2 lb ld gb gd, zb_some]
        by_cases c2 : gr 1 (zSg l w i) = gr 1 (zSg l v j)
        · rw [if_neg (by rw [zb_0]; exact not_not_intro c2), sv, zb_some]
          by_cases c3 : zpt 1 (ny (7 * n + i)) = zpt 1 (ny (7 * m + j))
          · rw [if_neg (by rw [zb_0]; exact not_not_intro c3)]
            refine good ⟨h1, fun kind hk => ?_⟩
            by_cases hk0 : kind = 0
            · rw [hk0]; exact h2
            · rw [show kind = 1 by omega]; exact fun _ => c3
          · rw [if_pos (by rw [zb_0]; exact c3)]
            exact bad (fun hh => c3 (hh.2 1 (by omega) c2))
        · rw [if_pos (by rw [zb_0]; exact c2)]
          refine good ⟨h1, fun kind hk => ?_⟩
          by_cases hk0 : kind = 0
          · rw [hk0]; exact h2
          · rw [show kind = 1 by omega]; exact fun hh => absurd hh c2
      have key2 : ∀ a b : Nat, a ≤ 1 → b ≤ 1 → (a = 1 ↔ zSg l w i = zSg l v j) → (b = 1 ↔ ny (7 * n + i) = ny (7 * m + j)) → zOk (f_X10_goTogether_106_L43 M (zI n) (zI w) (zI m) (zI v) (zI i) (zI (zSg l w i)) (zI (ny (7 * n + i))) (zI j) (zI (zSg l v j)) (zI (ny (7 * m + j))) (zI a) (zI b)) Q' := by
        intro a b a1 b1 ha hb
        unfold f_X10_goTogether_106_L43
        by_cases hab : a = b
        · have h1 : zSg l w i = zSg l v j ↔ ny (7 * n + i) = ny (7 * m + j) := by rw [← ha, ← hb, hab]
          rw [if_pos (by rw [hab]), c_together s1 s2 la lc ga gc, zb_some]
          by_cases c2 : gr 0 (zSg l w i) = gr 0 (zSg l v j)
          · rw [if_neg (by rw [zb_0]; exact not_not_intro c2), sc, zb_some]
            by_cases c3 : zpt 0 (ny (7 * n + i)) = zpt 0 (ny (7 * m + j))
            · rw [if_neg (by rw [zb_0]; exact not_not_intro c3)]
              exact key3 h1 (fun _ => c3)
            · rw [if_pos (by rw [zb_0]; exact c3)]
              exact bad (fun hh => c3 (hh.2 0 (by omega) c2))
          · rw [if_pos (by rw [zb_0]; exact c2)]
            exact key3 h1 (fun hh => absurd hh c2)
        · rw [if_neg (by simp (disch := omega) only [zk_bind, zk_chk, zk_bnd, zk_some, zlp_l, zlp_r, zb_some, zb_bnd, zI_add, zI_sub, zI_mul, zI_neg, zI_le, zI_lt, zI_eq, zI_ix, zI_inI, Int.toNat_natCast, Int.toNat_add, Int.toNat_mul, true_and, and_true]; omega)]
          refine bad (fun hh => ?_)
          have := hh.1
          omega
      have key1 : ∀ a : Nat, a ≤ 1 → (a = 1 ↔ zSg l w i = zSg l v j) → zOk (f_X10_goTogether_94_L43 M (zI n) (zI w) (zI m) (zI v) (zI i) (zI (zSg l w i)) (zI (ny (7 * n + i))) (zI j) (zI (zSg l v j)) (zI (ny (7 * m + j))) (zI a)) Q' := by
        intro a a1 ha
        unfold f_X10_goTogether_94_L43
        by_cases hy : ny (7 * n + i) = ny (7 * m + j)
        · rw [if_pos (by rw [hy])]
          exact key2 a 1 a1 (by omega) ha ⟨fun _ => hy, fun _ => rfl⟩
        · rw [if_neg (by simp (disch := omega) only [zk_bind, zk_chk, zk_bnd, zk_some, zlp_l, zlp_r, zb_some, zb_bnd, zI_add, zI_sub, zI_mul, zI_neg, zI_le, zI_lt, zI_eq, zI_ix, zI_inI, Int.toNat_natCast, Int.toNat_add, Int.toNat_mul, true_and, and_true]; omega)]
          exact key2 a 0 a1 (by omega) ha ⟨fun h => by omega, fun h => absurd h hy⟩
      unfold f_X10_goTogether_L43
      rw [c_lengthOf2 ho hl hv, zb_some, if_neg (by simp (disch := omega) only [zk_bind, zk_chk, zk_bnd, zk_some, zlp_l, zlp_r, zb_some, zb_bnd, zI_add, zI_sub, zI_mul, zI_neg, zI_le, zI_lt, zI_eq, zI_ix, zI_inI, Int.toNat_natCast, Int.toNat_add, Int.toNat_mul, true_and, and_true]; omega), c_sign2 ho hl hv (by omega), zb_some, c_syllableAt hn hN hmN hj, zb_some]
      by_cases hs : zSg l w i = zSg l v j
      · rw [if_pos (by rw [hs])]
        exact key1 1 (by omega) ⟨fun _ => hs, fun _ => rfl⟩
      · rw [if_neg (by simp (disch := omega) only [zk_bind, zk_chk, zk_bnd, zk_some, zlp_l, zlp_r, zb_some, zb_bnd, zI_add, zI_sub, zI_mul, zI_neg, zI_le, zI_lt, zI_eq, zI_ix, zI_inI, Int.toNat_natCast, Int.toNat_add, Int.toNat_mul, true_and, and_true]; omega)]
        exact key1 0 (by omega) ⟨fun h => by omega, fun h => absurd h hs⟩
    · rintro x ⟨rfl, c1⟩
      refine ⟨.inl (), ?_, ?_⟩
      · unfold f_X10_goTogether_L43
        rw [c_lengthOf2 ho hl hv, zb_some, if_pos (by simp (disch := omega) only [zk_bind, zk_chk, zk_bnd, zk_some, zlp_l, zlp_r, zb_some, zb_bnd, zI_add, zI_sub, zI_mul, zI_neg, zI_le, zI_lt, zI_eq, zI_ix, zI_inI, Int.toNat_natCast, Int.toNat_add, Int.toNat_mul, true_and, and_true]; omega)]
      · show zOk (zbnd (zI i + zI 1) (fun x5_165 => some (.inl x5_165))) Q
        rw [zk_bnd, zk_some, zI_add]
        refine hQ _ ⟨zI_inj (by omega), fun i' hi' => ?_⟩
        by_cases he : i' = i
        · rw [he]; exact c1
        · exact d1 i' (by omega)
  · rintro x ⟨rfl, d1⟩
    refine ⟨.inl (), ?_, ?_⟩
    · unfold f_X10_goTogether_L3
      rw [c_lengthOf2 ho hl hw, zb_some, if_pos (by simp (disch := omega) only [zk_bind, zk_chk, zk_bnd, zk_some, zlp_l, zlp_r, zb_some, zb_bnd, zI_add, zI_sub, zI_mul, zI_neg, zI_le, zI_lt, zI_eq, zI_ix, zI_inI, Int.toNat_natCast, Int.toNat_add, Int.toNat_mul, true_and, and_true]; omega)]
    · show zOk (some (zI 1)) _
      rw [zk_some, zb_t (p := zag l nl ny gr n w m v) d1]
      rfl
-- bits of words, three rows of 40
def zBt (M : ZMem) (q at_ : Nat) (P : Nat → Prop) : Prop := ∀ i, i < 3 → ∃ m : Nat, M.2 q (at_ + i) = zJ m ∧ m < 2 ^ 40 ∧ ∀ b, m.testBit b = true ↔ b < 40 ∧ P (40 * i + b)
theorem zBt_0 {M : ZMem} {q at_ : Nat} {P : Nat → Prop} (h : ∀ i, i < 3 → M.2 q (at_ + i) = 0) (hP : ∀ k, ¬ P k) : zBt M q at_ P := fun i hi => ⟨0, h i hi, by decide, fun b => by rw [Nat.zero_testBit]; exact ⟨fun hb => Bool.noConfusion hb, fun hb => absurd hb.2 (hP _)⟩⟩
theorem zBt_cg {M : ZMem} {q at_ : Nat} {P P' : Nat → Prop} (h : zBt M q at_ P) (e : ∀ k, k < 120 → (P k ↔ P' k)) : zBt M q at_ P' := by
  intro i hi
  obtain ⟨m, m1, m2, m3⟩ := h i hi
  refine ⟨m, m1, m2, fun b => (m3 b).trans ⟨fun hb => ⟨hb.1, (e _ (by omega)).mp hb.2⟩, fun hb => ⟨hb.1, (e _ (by omega)).mpr hb.2⟩⟩⟩
theorem zBt_x {M M' : ZMem} {q at_ : Nat} {P : Nat → Prop} (h : zBt M q at_ P) (e : ∀ i, i < 3 → M'.2 q (at_ + i) = M.2 q (at_ + i)) : zBt M' q at_ P := fun i hi => by
  obtain ⟨m, m1, m2, m3⟩ := h i hi
  exact ⟨m, by rw [e i hi]; exact m1, m2, m3⟩
theorem zp40 {m : Nat} (h : m < 2 ^ 40) : m < 9223372036854775808 := Nat.lt_trans h (by decide)
theorem c_hasBit {M : ZMem} {q n0 at_ : Nat} {P : Nat → Prop} (h : zBt M q at_ P) (ha : at_ + 3 ≤ n0) (hn : n0 ≤ 2147483647) {k : Nat} (hk : k < 120) : f_X10_hasBit q n0 M (zI at_) (zI k) = some (zI (zb (P k))) := by
  obtain ⟨m, m1, m2, m3⟩ := h (k / 40) (by omega)
  have m63 := zp40 m2
  unfold f_X10_hasBit
  rw [if_neg (by simp (disch := omega) only [zk_bind, zk_chk, zk_bnd, zk_some, zlp_l, zlp_r, zb_some, zb_bnd, zI_add, zI_sub, zI_mul, zI_neg, zI_le, zI_lt, zI_eq, zI_ix, zI_inI, Int.toNat_natCast, Int.toNat_add, Int.toNat_mul, true_and, and_true]; omega), if_neg (by simp (disch := omega) only [zk_bind, zk_chk, zk_bnd, zk_some, zlp_l, zlp_r, zb_some, zb_bnd, zI_add, zI_sub, zI_mul, zI_neg, zI_le, zI_lt, zI_eq, zI_ix, zI_inI, Int.toNat_natCast, Int.toNat_add, Int.toNat_mul, true_and, and_true]; omega), if_neg (by simp (disch := omega) only [zk_bind, zk_chk, zk_bnd, zk_some, zlp_l, zlp_r, zb_some, zb_bnd, zI_add, zI_sub, zI_mul, zI_neg, zI_le, zI_lt, zI_eq, zI_ix, zI_inI, Int.toNat_natCast, Int.toNat_add, Int.toNat_mul, true_and, and_true]; omega), zI_rem (by omega) (by omega) (by omega) (by omega), zI_div (by omega) (by omega) (by omega) (by omega), zI_add, if_neg (by simp (disch := omega) only [zk_bind, zk_chk, zk_bnd, zk_some, zlp_l, zlp_r, zb_some, zb_bnd, zI_add, zI_sub, zI_mul, zI_neg, zI_le, zI_lt, zI_eq, zI_ix, zI_inI, Int.toNat_natCast, Int.toNat_add, Int.toNat_mul, true_and, and_true]; omega), zI_inI (by omega) (by omega) hn, zb_chk, zI_ix (by omega) (by omega), show ((at_ : Int) + (k : Int) / 40).toNat = at_ + k / 40 by omega, m1, show ((k : Int) % 40) = ((k % 40 : Nat) : Int) by omega]
  have e : zlushr (zJ m) (zI ((k % 40 : Nat) : Int)) &&& 1 = zJ ((m.testBit (k % 40)).toNat) := by
    apply zv_inj
    have hb : (m.testBit (k % 40)).toNat < 18446744073709551616 := by cases m.testBit (k % 40) <;> decide
    rw [zv_and, zv_ushr _ _ (by omega), zv_J (by omega), zv_J hb, show zv (1 : Int64) = 2 ^ 1 - 1 from rfl, Nat.and_two_pow_sub_one_eq_mod, Nat.testBit_eq_decide_div_mod_eq]
    rcases Nat.mod_two_eq_zero_or_one (m / 2 ^ (k % 40)) with h | h <;> simp [h]
  rw [e]
  have hm := m3 (k % 40)
  rw [show 40 * (k / 40) + k % 40 = k by omega] at hm
  by_cases hp : P k
  · rw [hm.mpr ⟨by omega, hp⟩, zb_t hp, if_pos (by decide)]; rfl
  · cases hb : m.testBit (k % 40) with
    | true => exact absurd (hm.mp hb).2 hp
    | false => rw [zb_f hp, if_neg (by decide)]; rfl
theorem c_putBit {M : ZMem} {q n0 at_ : Nat} {P : Nat → Prop} (h : zBt M q at_ P) (ha : at_ + 3 ≤ n0) (hn : n0 ≤ 2147483647) {k : Nat} (hk : k < 120) : zOk (f_X10_putBit q n0 M (zI at_) (zI k)) (fun M' => zBt M' q at_ (fun x => P x ∨ x = k) ∧ M'.1 = M.1 ∧ ∀ a i, (a ≠ q ∨ i < at_ ∨ at_ + 3 ≤ i) → M'.2 a i = M.2 a i) := by
  obtain ⟨m, m1, m2, m3⟩ := h (k / 40) (by omega)
  have m63 := zp40 m2
  unfold f_X10_putBit
  rw [if_neg (by simp (disch := omega) only [zk_bind, zk_chk, zk_bnd, zk_some, zlp_l, zlp_r, zb_some, zb_bnd, zI_add, zI_sub, zI_mul, zI_neg, zI_le, zI_lt, zI_eq, zI_ix, zI_inI, Int.toNat_natCast, Int.toNat_add, Int.toNat_mul, true_and, and_true]; omega), if_neg (by simp (disch := omega) only [zk_bind, zk_chk, zk_bnd, zk_some, zlp_l, zlp_r, zb_some, zb_bnd, zI_add, zI_sub, zI_mul, zI_neg, zI_le, zI_lt, zI_eq, zI_ix, zI_inI, Int.toNat_natCast, Int.toNat_add, Int.toNat_mul, true_and, and_true]; omega), if_neg (by simp (disch := omega) only [zk_bind, zk_chk, zk_bnd, zk_some, zlp_l, zlp_r, zb_some, zb_bnd, zI_add, zI_sub, zI_mul, zI_neg, zI_le, zI_lt, zI_eq, zI_ix, zI_inI, Int.toNat_natCast, Int.toNat_add, Int.toNat_mul, true_and, and_true]; omega), zI_rem (by omega) (by omega) (by omega) (by omega), zI_div (by omega) (by omega) (by omega) (by omega), zI_add, if_neg (by simp (disch := omega) only [zk_bind, zk_chk, zk_bnd, zk_some, zlp_l, zlp_r, zb_some, zb_bnd, zI_add, zI_sub, zI_mul, zI_neg, zI_le, zI_lt, zI_eq, zI_ix, zI_inI, Int.toNat_natCast, Int.toNat_add, Int.toNat_mul, true_and, and_true]; omega), zI_inI (by omega) (by omega) hn, zb_chk, zb_chk, zI_ix (by omega) (by omega), show ((at_ : Int) + (k : Int) / 40).toNat = at_ + k / 40 by omega, m1, show ((k : Int) % 40) = ((k % 40 : Nat) : Int) by omega, zk_bnd, zk_some]
  have hpw : 2 ^ (k % 40) < 2 ^ 40 := Nat.pow_lt_pow_right (by decide) (by omega)
  have e : zJ m ||| ((1 : Int64) <<< (Int32.toInt64 (zI ((k % 40 : Nat) : Int)) &&& 63)) = zJ (m ||| 2 ^ (k % 40)) := by
    apply zv_inj
    have hor : m ||| 2 ^ (k % 40) < 2 ^ 40 := Nat.or_lt_two_pow m2 hpw
    have := zp40 hor
    have := zp40 hpw
    rw [zv_or, zv_J (by omega), zv_shl _ _ (by omega), zv_J (by omega), show zv (1 : Int64) = 1 from rfl, Nat.one_mul, Nat.mod_eq_of_lt (by omega)]
  rw [e]
  refine ⟨fun i hi => ?_, rfl, fun a i hh => ?_⟩
  · by_cases he : i = k / 40
    · refine ⟨m ||| 2 ^ (k % 40), ?_, Nat.or_lt_two_pow m2 hpw, fun b => ?_⟩
      · rw [zm_L, if_pos ⟨rfl, by rw [he]⟩]
      · rw [zor_bit, m3 b, he]
        constructor
        · rintro (hb | rfl)
          · exact ⟨hb.1, Or.inl hb.2⟩
          · exact ⟨by omega, Or.inr (by omega)⟩
        · rintro ⟨b1, b2 | b2⟩
          · exact Or.inl ⟨b1, b2⟩
          · exact Or.inr (by omega)
    · obtain ⟨m', a1, a2, a3⟩ := h i hi
      refine ⟨m', ?_, a2, fun b => (a3 b).trans ⟨fun hb => ⟨hb.1, Or.inl hb.2⟩, fun hb => ⟨hb.1, hb.2.elim id (fun hb' => ?_)⟩⟩⟩
      · rw [zm_L, if_neg (fun hh => he (by omega))]
        exact a1
      · exact absurd (show i = k / 40 by omega) he
  · rw [zm_L, if_neg (by omega)]
