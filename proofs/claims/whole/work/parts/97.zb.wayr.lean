/-! ===== ways: the reference ===== deps: 97.za.wset -/
theorem r_agree {M : ZMem} {F N : Nat} {nl ny : Nat → Nat} {l : List (Nat × Nat)} {gr : Nat → Nat → Nat} (hF : F ≤ 20) (hn : okN N nl ny) (hN : namesR N nl ny M) (ho : okL l) (hl : lexR l M) (hS : ∀ w i, w < l.length → i < zN l w → zSg l w i < F) (hg : grpR F gr M) (hgl : ∀ kind f, f < F → gr kind f < 20) {n m w v : Nat} (hnN : n < N) (hmN : m < N) (hw : w < l.length) (hv : v < l.length) (gn : M.1 26 n = zI w) (gm : M.1 26 m = zI v) (e1 : zN l w = nl n) (e2 : zN l v = nl m) : f_X12_agree M (zI n) (zI m) = some (zI (zb (zag l nl ny gr n w m v))) := by
  have hN4 := hn.1
  have hlen := ho.1
  obtain ⟨n2, n7, n50⟩ := hn.2 n hnN
  obtain ⟨m2, m7, m50⟩ := hn.2 m hmN
  obtain ⟨n7', n8⟩ := hN.2 n hnN
  obtain ⟨m7', m8⟩ := hN.2 m hmN
  apply zOk_is
  unfold f_X12_agree
  rw [zk_bind]
  refine zOk_forQ (fun i x => x = zI i ∧ ∀ i', i' < i → ∀ j, j < nl m → (zSg l w i' = zSg l v j ↔ ny (7 * n + i') = ny (7 * m + j)) ∧ ∀ kind, kind < 2 → gr kind (zSg l w i') = gr kind (zSg l v j) → zpt kind (ny (7 * n + i')) = zpt kind (ny (7 * m + j))) (nl n) ?_ ?_ ⟨rfl, fun j hj => absurd hj (Nat.not_lt_zero j)⟩
  · rintro i x hi ⟨rfl, d1⟩ Q hQ hR
    have s1 := hS w i hw (by omega)
    have y1 := n50 i hi
    unfold f_X12_agree_L2
    rw [zI_inI (by omega) (by omega) (by omega), zb_chk, zI_ix (by omega) (by omega), Int.toNat_natCast, n7', if_neg (by simp (disch := omega) only [zk_bind, zk_chk, zk_bnd, zk_some, zlp_l, zlp_r, zb_some, zb_bnd, zI_add, zI_sub, zI_mul, zI_neg, zI_le, zI_lt, zI_eq, zI_ix, zI_inI, Int.toNat_natCast, Int.toNat_add, Int.toNat_mul, true_and, and_true]; omega), zk_bind]
    refine zOk_forQ (fun j x => x = zI j ∧ ∀ j', j' < j → (zSg l w i = zSg l v j' ↔ ny (7 * n + i) = ny (7 * m + j')) ∧ ∀ kind, kind < 2 → gr kind (zSg l w i) = gr kind (zSg l v j') → zpt kind (ny (7 * n + i)) = zpt kind (ny (7 * m + j'))) (nl m) ?_ ?_ ⟨rfl, fun j hj => absurd hj (Nat.not_lt_zero j)⟩
    · rintro j x hj ⟨rfl, c1⟩ Q' hQ' hR'
      have s2 := hS v j hv (by omega)
      have y2 := m50 j hj
      have g0a := hg 0 _ (by decide) s1
      have g0b := hg 0 _ (by decide) s2
      have g1a := hg 1 _ (by decide) s1
      have g1b := hg 1 _ (by decide) s2
      rw [Nat.mul_zero, Nat.zero_add] at g0a g0b
      rw [Nat.mul_one] at g1a g1b
      have l0a := hgl 0 _ s1
      have l0b := hgl 0 _ s2
      have l1a := hgl 1 _ s1
      have l1b := hgl 1 _ s2
      have bad : ¬ ((zSg l w i = zSg l v j ↔ ny (7 * n + i) = ny (7 * m + j)) ∧ ∀ kind, kind < 2 → gr kind (zSg l w i) = gr kind (zSg l v j) → zpt kind (ny (7 * n + i)) = zpt kind (ny (7 * m + j))) → zOk (some (.inr (.inr (zI 0))) : Option (Int32 ⊕ (Unit ⊕ Int32))) Q' := by
        intro hno
        rw [zk_some]
        refine hR' _ ?_
        show zOk (some (.inr (.inr (zI 0)))) Q
        rw [zk_some]
        refine hR _ ?_
        show zOk (some (zI 0)) _
        rw [zk_some, zb_f (p := zag l nl ny gr n w m v) (fun hz => hno (hz i hi j hj))]
        rfl
      have good : ((zSg l w i = zSg l v j ↔ ny (7 * n + i) = ny (7 * m + j)) ∧ ∀ kind, kind < 2 → gr kind (zSg l w i) = gr kind (zSg l v j) → zpt kind (ny (7 * n + i)) = zpt kind (ny (7 * m + j))) → zOk (zbnd (zI j + zI 1) (fun x8_159 => (some (.inl x8_159) : Option (Int32 ⊕ (Unit ⊕ Int32))))) Q' := by
        intro hok
        rw [zk_bnd, zk_some, zI_add]
        refine hQ' _ ⟨zI_inj (by omega), fun j' hj' => ?_⟩
        by_cases he : j' = j
        · rw [he]; exact hok
        · exact c1 j' (by omega)
      have p0 : ∀ kind, kind < 2 → 0 ≤ zpt kind (ny (7 * n + i)) ∧ zpt kind (ny (7 * n + i)) ≤ 9 := fun kind _ => zpt_rng (by omega) (by omega)
      have p1 : ∀ kind, kind < 2 → 0 ≤ zpt kind (ny (7 * m + j)) ∧ zpt kind (ny (7 * m + j)) ≤ 9 := fun kind _ => zpt_rng (by omega) (by omega)
      have p00 := p0 0 (by omega)
      have p01 := p0 1 (by omega)
      have p10 := p1 0 (by omega)
      have p11 := p1 1 (by omega)
      have key3 : (zSg l w i = zSg l v j ↔ ny (7 * n + i) = ny (7 * m + j)) → (gr 0 (zSg l w i) = gr 0 (zSg l v j) → zpt 0 (ny (7 * n + i)) = zpt 0 (ny (7 * m + j))) → zOk (f_X12_agree_135_L15 M (zI n) (zI m) (zI i) (zI j) (zI (zSg l w i)) (zI (zSg l v j)) (zI (ny (7 * n + i))) (zI (ny (7 * m + j)))) Q' := by
        intro h1 h2
        unfold f_X12_agree_135_L15
        rw [zI_add, zI_inI (by omega) (by omega) (by omega), zb_chk, zI_add, zI_inI (by omega) (by omega) (by omega), zb_chk, zI_ix (by omega) (by omega), zI_ix (by omega) (by omega), show (20 + (zSg l w i : Int)).toNat = 20 + zSg l w i by omega, show (20 + (zSg l v j : Int)).toNat = 20 + zSg l v j by omega, g1a, g1b]
        by_cases c2 : gr 1 (zSg l w i) = gr 1 (zSg l v j)
        · rw [if_pos (by rw [c2]), zI_rem (by omega) (by omega) (by omega) (by omega), zI_rem (by omega) (by omega) (by omega) (by omega)]
          show zOk (if zI (zpt 1 (ny (7 * n + i))) = zI (zpt 1 (ny (7 * m + j))) then _ else _) _
          by_cases c3 : zpt 1 (ny (7 * n + i)) = zpt 1 (ny (7 * m + j))
          · rw [if_pos (by rw [c3])]
            refine good ⟨h1, fun kind hk => ?_⟩
            by_cases hk0 : kind = 0
            · rw [hk0]; exact h2
            · rw [show kind = 1 by omega]; exact fun _ => c3
          · rw [if_neg (by simp (disch := omega) only [zk_bind, zk_chk, zk_bnd, zk_some, zlp_l, zlp_r, zb_some, zb_bnd, zI_add, zI_sub, zI_mul, zI_neg, zI_le, zI_lt, zI_eq, zI_ix, zI_inI, Int.toNat_natCast, Int.toNat_add, Int.toNat_mul, true_and, and_true]; omega)]
            exact bad (fun hh => c3 (hh.2 1 (by omega) c2))
        · rw [if_neg (by simp (disch := omega) only [zk_bind, zk_chk, zk_bnd, zk_some, zlp_l, zlp_r, zb_some, zb_bnd, zI_add, zI_sub, zI_mul, zI_neg, zI_le, zI_lt, zI_eq, zI_ix, zI_inI, Int.toNat_natCast, Int.toNat_add, Int.toNat_mul, true_and, and_true]; omega)]
          refine good ⟨h1, fun kind hk => ?_⟩
          by_cases hk0 : kind = 0
          · rw [hk0]; exact h2
          · rw [show kind = 1 by omega]; exact fun hh => absurd hh c2
      have key2 : ∀ a b : Nat, a ≤ 1 → b ≤ 1 → (a = 1 ↔ zSg l w i = zSg l v j) → (b = 1 ↔ ny (7 * n + i) = ny (7 * m + j)) → zOk (f_X12_agree_104_L15 M (zI n) (zI m) (zI i) (zI j) (zI (zSg l w i)) (zI (zSg l v j)) (zI (ny (7 * n + i))) (zI (ny (7 * m + j))) (zI a) (zI b)) Q' := by
        intro a b a1 b1 ha hb
        unfold f_X12_agree_104_L15
        by_cases hab : a = b
        · have h1 : zSg l w i = zSg l v j ↔ ny (7 * n + i) = ny (7 * m + j) := by rw [← ha, ← hb, hab]
          rw [if_pos (by rw [hab]), zI_inI (by omega) (by omega) (by omega), zb_chk, zI_inI (by omega) (by omega) (by omega), zb_chk, zI_ix (by omega) (by omega), zI_ix (by omega) (by omega), Int.toNat_natCast, Int.toNat_natCast, g0a, g0b]
          by_cases c2 : gr 0 (zSg l w i) = gr 0 (zSg l v j)
          · rw [if_pos (by rw [c2]), zI_div (by omega) (by omega) (by omega) (by omega), zI_div (by omega) (by omega) (by omega) (by omega)]
            show zOk (if zI (zpt 0 (ny (7 * n + i))) = zI (zpt 0 (ny (7 * m + j))) then _ else _) _
            by_cases c3 : zpt 0 (ny (7 * n + i)) = zpt 0 (ny (7 * m + j))
            · rw [if_pos (by rw [c3])]
              exact key3 h1 (fun _ => c3)
            · rw [if_neg (by simp (disch := omega) only [zk_bind, zk_chk, zk_bnd, zk_some, zlp_l, zlp_r, zb_some, zb_bnd, zI_add, zI_sub, zI_mul, zI_neg, zI_le, zI_lt, zI_eq, zI_ix, zI_inI, Int.toNat_natCast, Int.toNat_add, Int.toNat_mul, true_and, and_true]; omega)]
              exact bad (fun hh => c3 (hh.2 0 (by omega) c2))
          · rw [if_neg (by simp (disch := omega) only [zk_bind, zk_chk, zk_bnd, zk_some, zlp_l, zlp_r, zb_some, zb_bnd, zI_add, zI_sub, zI_mul, zI_neg, zI_le, zI_lt, zI_eq, zI_ix, zI_inI, Int.toNat_natCast, Int.toNat_add, Int.toNat_mul, true_and, and_true]; omega)]
            exact key3 h1 (fun hh => absurd hh c2)
        · rw [if_neg (by simp (disch := omega) only [zk_bind, zk_chk, zk_bnd, zk_some, zlp_l, zlp_r, zb_some, zb_bnd, zI_add, zI_sub, zI_mul, zI_neg, zI_le, zI_lt, zI_eq, zI_ix, zI_inI, Int.toNat_natCast, Int.toNat_add, Int.toNat_mul, true_and, and_true]; omega)]
          refine bad (fun hh => ?_)
          have := hh.1
          omega
      have key1 : ∀ a : Nat, a ≤ 1 → (a = 1 ↔ zSg l w i = zSg l v j) → zOk (f_X12_agree_92_L15 M (zI n) (zI m) (zI i) (zI j) (zI (zSg l w i)) (zI (zSg l v j)) (zI (ny (7 * n + i))) (zI (ny (7 * m + j))) (zI a)) Q' := by
        intro a a1 ha
        unfold f_X12_agree_92_L15
        by_cases hy : ny (7 * n + i) = ny (7 * m + j)
        · rw [if_pos (by rw [hy])]
          exact key2 a 1 a1 (by omega) ha ⟨fun _ => hy, fun _ => rfl⟩
        · rw [if_neg (by simp (disch := omega) only [zk_bind, zk_chk, zk_bnd, zk_some, zlp_l, zlp_r, zb_some, zb_bnd, zI_add, zI_sub, zI_mul, zI_neg, zI_le, zI_lt, zI_eq, zI_ix, zI_inI, Int.toNat_natCast, Int.toNat_add, Int.toNat_mul, true_and, and_true]; omega)]
          exact key2 a 0 a1 (by omega) ha ⟨fun h => by omega, fun h => absurd h hy⟩
      unfold f_X12_agree_L15
      rw [zI_inI (by omega) (by omega) (by omega), zb_chk, zI_ix (a := (m : Int)) (by omega) (by omega), Int.toNat_natCast, m7', if_neg (by simp (disch := omega) only [zk_bind, zk_chk, zk_bnd, zk_some, zlp_l, zlp_r, zb_some, zb_bnd, zI_add, zI_sub, zI_mul, zI_neg, zI_le, zI_lt, zI_eq, zI_ix, zI_inI, Int.toNat_natCast, Int.toNat_add, Int.toNat_mul, true_and, and_true]; omega), zI_inI (by omega) (by omega) (by omega), zb_chk, zI_ix (a := (n : Int)) (by omega) (by omega), Int.toNat_natCast, gn, r_wordSign ho hl hw (by omega), zb_some, zI_inI (by omega) (by omega) (by omega), zb_chk, gm, r_wordSign ho hl hv (by omega), zb_some, zI_mul, zI_add, zI_inI (by omega) (by omega) (by omega), zb_chk, zI_ix (by omega) (by omega), show (7 * (n : Int) + i).toNat = 7 * n + i by omega, n8 i hi, zk_bnd, zI_mul, zI_add, zI_inI (by omega) (by omega) (by omega), zb_chk, zI_ix (by omega) (by omega), show (7 * (m : Int) + j).toNat = 7 * m + j by omega, m8 j hj, zk_bnd]
      by_cases hs : zSg l w i = zSg l v j
      · rw [if_pos (by rw [hs])]
        exact key1 1 (by omega) ⟨fun _ => hs, fun _ => rfl⟩
      · rw [if_neg (by simp (disch := omega) only [zk_bind, zk_chk, zk_bnd, zk_some, zlp_l, zlp_r, zb_some, zb_bnd, zI_add, zI_sub, zI_mul, zI_neg, zI_le, zI_lt, zI_eq, zI_ix, zI_inI, Int.toNat_natCast, Int.toNat_add, Int.toNat_mul, true_and, and_true]; omega)]
        exact key1 0 (by omega) ⟨fun h => by omega, fun h => absurd h hs⟩
    · rintro x ⟨rfl, c1⟩
      refine ⟨.inl (), ?_, ?_⟩
      · unfold f_X12_agree_L15
        rw [zI_inI (by omega) (by omega) (by omega), zb_chk, zI_ix (by omega) (by omega), Int.toNat_natCast, m7', if_pos (by simp (disch := omega) only [zk_bind, zk_chk, zk_bnd, zk_some, zlp_l, zlp_r, zb_some, zb_bnd, zI_add, zI_sub, zI_mul, zI_neg, zI_le, zI_lt, zI_eq, zI_ix, zI_inI, Int.toNat_natCast, Int.toNat_add, Int.toNat_mul, true_and, and_true]; omega)]
      · show zOk (zbnd (zI i + zI 1) (fun x5_165 => some (.inl x5_165))) Q
        rw [zk_bnd, zk_some, zI_add]
        refine hQ _ ⟨zI_inj (by omega), fun i' hi' => ?_⟩
        by_cases he : i' = i
        · rw [he]; exact c1
        · exact d1 i' (by omega)
  · rintro x ⟨rfl, d1⟩
    refine ⟨.inl (), ?_, ?_⟩
    · unfold f_X12_agree_L2
      rw [zI_inI (by omega) (by omega) (by omega), zb_chk, zI_ix (by omega) (by omega), Int.toNat_natCast, n7', if_pos (by simp (disch := omega) only [zk_bind, zk_chk, zk_bnd, zk_some, zlp_l, zlp_r, zb_some, zb_bnd, zI_add, zI_sub, zI_mul, zI_neg, zI_le, zI_lt, zI_eq, zI_ix, zI_inI, Int.toNat_natCast, Int.toNat_add, Int.toNat_mul, true_and, and_true]; omega)]
    · show zOk (some (zI 1)) _
      rw [zk_some, zb_t (p := zag l nl ny gr n w m v) d1]
      rfl
def ctxR (F : Nat) (l : List (Nat × Nat)) (N : Nat) (nl ny : Nat → Nat) (kv : Nat → Nat → Int) (gr : Nat → Nat → Nat) (M : ZMem) : Prop := namesR N nl ny M ∧ lexR l M ∧ grpR F gr M ∧ knV F kv M
theorem r_canBe {M : ZMem} {F N : Nat} {nl ny : Nat → Nat} {l : List (Nat × Nat)} {kv : Nat → Nat → Int} {gr : Nat → Nat → Nat} (hF : F ≤ 20) (hn : okN N nl ny) (ho : okL l) (hx : ctxR F l N nl ny kv gr M) (hS : ∀ w i, w < l.length → i < zN l w → zSg l w i < F) (hv : okV kv) (hgl : ∀ kind f, f < F → gr kind f < 20) {p : List Nat} {w : Nat} (hpN : p.length < N) (hw : w < l.length) (hgw : M.1 26 p.length = zI w) (hgp : ∀ m, m < p.length → M.1 26 m = zI (p.getD m 0) ∧ p.getD m 0 < l.length ∧ zc1 l nl ny kv gr m (p.getD m 0)) : f_X12_canBe M (zI p.length) = some (zI (zb (zok (zc1 l nl ny kv gr) (zc2 l nl ny gr) p p.length w))) := by
  have hN4 := hn.1
  have hlen := ho.1
  obtain ⟨x1, x2, x3, x4⟩ := hx
  unfold f_X12_canBe
  rw [zI_inI (by omega) (by omega) (by omega), zb_chk, zI_ix (by omega) (by omega), Int.toNat_natCast, hgw, r_fitsName hF hn x1 ho x2 hS hv x4 hpN hw, zb_some]
  by_cases c1 : zagr l nl ny kv 0 p.length w ∧ zshp l ny p.length w
  · rw [if_neg (by rw [zb_0]; exact not_not_intro c1)]
    apply zOk_is
    rw [zk_bind]
    refine zOk_forQ (fun m x => x = zI m ∧ ∀ m', m' < m → (m' < p.length → zc2 l nl ny gr m' (p.getD m' 0) p.length w) ∧ (m' = p.length → zag l nl ny gr p.length w p.length w)) (p.length + 1) ?_ ?_ ⟨rfl, fun m hm => absurd hm (Nat.not_lt_zero m)⟩
    · rintro m x hm ⟨rfl, e1⟩ Q hQ hR
      have bad : ¬ zok (zc1 l nl ny kv gr) (zc2 l nl ny gr) p p.length w → Q (.inr (.inr (zI 0))) := by
        intro hno
        refine hR _ ?_
        show zOk (some (zI 0)) _
        rw [zk_some, zb_f hno]
        rfl
      unfold f_X12_canBe_L18
      rw [if_neg (by simp (disch := omega) only [zk_bind, zk_chk, zk_bnd, zk_some, zlp_l, zlp_r, zb_some, zb_bnd, zI_add, zI_sub, zI_mul, zI_neg, zI_le, zI_lt, zI_eq, zI_ix, zI_inI, Int.toNat_natCast, Int.toNat_add, Int.toNat_mul, true_and, and_true]; omega)]
      by_cases hmp : m = p.length
      · rw [if_pos (by simp (disch := omega) only [zk_bind, zk_chk, zk_bnd, zk_some, zlp_l, zlp_r, zb_some, zb_bnd, zI_add, zI_sub, zI_mul, zI_neg, zI_le, zI_lt, zI_eq, zI_ix, zI_inI, Int.toNat_natCast, Int.toNat_add, Int.toNat_mul, true_and, and_true]; omega)]
        unfold f_X12_canBe_43_L18
        rw [hmp, r_agree hF hn x1 ho x2 hS x3 hgl hpN hpN hw hw hgw hgw c1.1.1 c1.1.1, zb_some]
        by_cases c2 : zag l nl ny gr p.length w p.length w
        · rw [if_neg (by rw [zb_0]; exact not_not_intro c2), zk_bnd, zk_some, zI_add]
          refine hQ _ ⟨zI_inj (by omega), fun m' hm' => ⟨fun h => (e1 m' (by omega)).1 h, fun _ => c2⟩⟩
        · rw [if_pos (by rw [zb_0]; exact c2), zk_some]
          exact bad (fun hz => c2 hz.1.2)
      · obtain ⟨g1, g2, g3⟩ := hgp m (by omega)
        rw [if_neg (by simp (disch := omega) only [zk_bind, zk_chk, zk_bnd, zk_some, zlp_l, zlp_r, zb_some, zb_bnd, zI_add, zI_sub, zI_mul, zI_neg, zI_le, zI_lt, zI_eq, zI_ix, zI_inI, Int.toNat_natCast, Int.toNat_add, Int.toNat_mul, true_and, and_true]; omega), zI_inI (by omega) (by omega) (by omega), zb_chk, zI_inI (by omega) (by omega) (by omega), zb_chk, zI_ix (by omega) (by omega), zI_ix (by omega) (by omega), Int.toNat_natCast, Int.toNat_natCast, g1, hgw]
        by_cases c2 : p.getD m 0 = w
        · rw [if_pos (by rw [c2]), zk_some]
          exact bad (fun hz => (hz.2 m (by omega)).1 c2)
        · rw [if_neg (by simp (disch := omega) only [zk_bind, zk_chk, zk_bnd, zk_some, zlp_l, zlp_r, zb_some, zb_bnd, zI_add, zI_sub, zI_mul, zI_neg, zI_le, zI_lt, zI_eq, zI_ix, zI_inI, Int.toNat_natCast, Int.toNat_add, Int.toNat_mul, true_and, and_true]; omega)]
          unfold f_X12_canBe_43_L18
          rw [r_agree hF hn x1 ho x2 hS x3 hgl hpN (by omega) hw g2 hgw g1 c1.1.1 g3.1.1.1, zb_some]
          by_cases c3 : zag l nl ny gr p.length w m (p.getD m 0)
          · rw [if_neg (by rw [zb_0]; exact not_not_intro c3), zk_bnd, zk_some, zI_add]
            refine hQ _ ⟨zI_inj (by omega), fun m' hm' => ?_⟩
            by_cases he : m' = m
            · rw [he]
              exact ⟨fun _ => ⟨c2, zag_sym c3⟩, fun h => absurd h hmp⟩
            · exact e1 m' (by omega)
          · rw [if_pos (by rw [zb_0]; exact c3), zk_some]
            exact bad (fun hz => c3 (zag_sym (hz.2 m (by omega)).2))
    · rintro x ⟨rfl, e1⟩
      refine ⟨.inl (), ?_, ?_⟩
      · unfold f_X12_canBe_L18
        rw [if_pos (by simp (disch := omega) only [zk_bind, zk_chk, zk_bnd, zk_some, zlp_l, zlp_r, zb_some, zb_bnd, zI_add, zI_sub, zI_mul, zI_neg, zI_le, zI_lt, zI_eq, zI_ix, zI_inI, Int.toNat_natCast, Int.toNat_add, Int.toNat_mul, true_and, and_true]; omega)]
      · show zOk (some (zI 1)) _
        rw [zk_some, zb_t (p := zok (zc1 l nl ny kv gr) (zc2 l nl ny gr) p p.length w) ⟨⟨c1, (e1 p.length (by omega)).2 rfl⟩, fun m hm => (e1 m (by omega)).1 hm⟩]
        rfl
  · rw [if_pos (by rw [zb_0]; exact c1), zb_f (fun hz => c1 hz.1.1)]
    rfl
