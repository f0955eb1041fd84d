/-! ===== ways: the class settles them ===== deps: 97.z.choose2 -/
theorem c_fillL {q n : Nat} (hn : n ≤ 2147483647) (M : ZMem) (v : Int64) : zOk (f_J7_fill_d0a16 q n M v) (fun M' => (∀ k, k < n → M'.2 q k = v) ∧ M'.1 = M.1 ∧ ∀ a, a ≠ q → M'.2 a = M.2 a) := by
  unfold f_J7_fill_d0a16
  rw [zk_bnd, zk_bind]
  refine zOk_for0 (fun i s => s.2 = zI i ∧ (∀ k, k < i → s.1.2 q k = v) ∧ s.1.1 = M.1 ∧ ∀ a, a ≠ q → s.1.2 a = M.2 a) n ?_ ?_ ⟨rfl, fun k hk => absurd hk (Nat.not_lt_zero k), rfl, fun _ _ => rfl⟩
  · rintro i ⟨x1, x2⟩ hi ⟨e1, e2, e3, e4⟩
    dsimp only at e1 e2 e3 e4
    unfold f_J7_fill_d0a16_L6
    dsimp only
    rw [e1, if_neg (by simp (disch := omega) only [zk_bind, zk_chk, zk_bnd, zk_some, zlp_l, zlp_r, zb_some, zb_bnd, zI_add, zI_sub, zI_mul, zI_neg, zI_le, zI_lt, zI_eq, zI_ix, zI_inI, Int.toNat_natCast, Int.toNat_add, Int.toNat_mul, true_and, and_true]; omega), zI_inI (by omega) (by omega) hn, zb_chk, zI_ix (by omega) (by omega), Int.toNat_natCast, zk_bnd, zk_bnd, zk_some, zlp_l, zI_add]
    refine ⟨zI_inj (by omega), fun k hk => ?_, e3, fun a ha => ?_⟩
    · rw [zm_L]
      split
      · rfl
      · exact e2 k (by omega)
    · rw [zm_Lq _ _ _ _ ha]; exact e4 a ha
  · rintro ⟨x1, x2⟩ ⟨e1, e2, e3, e4⟩
    dsimp only at e1 e2 e3 e4
    unfold f_J7_fill_d0a16_L6
    dsimp only
    rw [e1, if_pos (by simp (disch := omega) only [zk_bind, zk_chk, zk_bnd, zk_some, zlp_l, zlp_r, zb_some, zb_bnd, zI_add, zI_sub, zI_mul, zI_neg, zI_le, zI_lt, zI_eq, zI_ix, zI_inI, Int.toNat_natCast, Int.toNat_add, Int.toNat_mul, true_and, and_true]; omega), zk_some, zlp_r, zk_some]
    exact ⟨e2, e3, e4⟩
def zpix (a b k : Nat) : Nat := ((b * (b - 1) / 2 + a) * 120 + k) * 3
theorem zpix_ne {a b k a' b' k' : Nat} (h1 : a < b) (h2 : b < 4) (h3 : k < 120) (h1' : a' < b') (h2' : b' < 4) (h3' : k' < 120) (hne : ¬ (a = a' ∧ b = b' ∧ k = k')) : zpix a b k + 3 ≤ zpix a' b' k' ∨ zpix a' b' k' + 3 ≤ zpix a b k := by
  unfold zpix
  have e1 : b = 1 ∨ b = 2 ∨ b = 3 := by omega
  have e2 : b' = 1 ∨ b' = 2 ∨ b' = 3 := by omega
  rcases e1 with rfl | rfl | rfl <;> rcases e2 with rfl | rfl | rfl <;> omega
noncomputable def zc1 (l : List (Nat × Nat)) (nl ny : Nat → Nat) (kv : Nat → Nat → Int) (gr : Nat → Nat → Nat) (n w : Nat) : Prop := (zagr l nl ny kv 0 n w ∧ zshp l ny n w) ∧ zag l nl ny gr n w n w
noncomputable def zc2 (l : List (Nat × Nat)) (nl ny : Nat → Nat) (gr : Nat → Nat → Nat) (m v n w : Nat) : Prop := v ≠ w ∧ zag l nl ny gr m v n w
noncomputable def zwall (l : List (Nat × Nat)) (N : Nat) (nl ny : Nat → Nat) (kv : Nat → Nat → Int) (gr : Nat → Nat → Nat) : List (List Nat) := zwy (zc1 l nl ny kv gr) (zc2 l nl ny gr) l.length N []
def waysC (l : List (Nat × Nat)) (N : Nat) (nl ny : Nat → Nat) (kv : Nat → Nat → Int) (gr : Nat → Nat → Nat) (C : ZMem) : Prop := C.1 59 9 = zI ((min 999 (zwall l N nl ny kv gr).length : Nat) : Int) ∧ ∀ x, (zwall l N nl ny kv gr).head? = some x → ∀ m, m < N → C.1 63 m = zI (x.getD m 0)
theorem c_isFitting {M : ZMem} {N : Nat} {nl ny : Nat → Nat} {l : List (Nat × Nat)} {kv : Nat → Nat → Int} (hN4 : N ≤ 4) (ho : okL l) (hf : fitC l N nl ny kv M) {n w : Nat} (hn : n < N) (hw : w < l.length) : f_X3_isFitting M (zI n) (zI w) = some (zI (zb (zagr l nl ny kv 0 n w ∧ zshp l ny n w))) := by
  have hlen := ho.1
  unfold f_X3_isFitting f_X3_isPlace
  rw [if_neg (by simp (disch := omega) only [zk_bind, zk_chk, zk_bnd, zk_some, zlp_l, zlp_r, zb_some, zb_bnd, zI_add, zI_sub, zI_mul, zI_neg, zI_le, zI_lt, zI_eq, zI_ix, zI_inI, Int.toNat_natCast, Int.toNat_add, Int.toNat_mul, true_and, and_true]; omega), if_neg (by simp (disch := omega) only [zk_bind, zk_chk, zk_bnd, zk_some, zlp_l, zlp_r, zb_some, zb_bnd, zI_add, zI_sub, zI_mul, zI_neg, zI_le, zI_lt, zI_eq, zI_ix, zI_inI, Int.toNat_natCast, Int.toNat_add, Int.toNat_mul, true_and, and_true]; omega), if_neg (by simp (disch := omega) only [zk_bind, zk_chk, zk_bnd, zk_some, zlp_l, zlp_r, zb_some, zb_bnd, zI_add, zI_sub, zI_mul, zI_neg, zI_le, zI_lt, zI_eq, zI_ix, zI_inI, Int.toNat_natCast, Int.toNat_add, Int.toNat_mul, true_and, and_true]; omega), if_neg (by simp (disch := omega) only [zk_bind, zk_chk, zk_bnd, zk_some, zlp_l, zlp_r, zb_some, zb_bnd, zI_add, zI_sub, zI_mul, zI_neg, zI_le, zI_lt, zI_eq, zI_ix, zI_inI, Int.toNat_natCast, Int.toNat_add, Int.toNat_mul, true_and, and_true]; omega), zb_some, if_neg (by decide), zI_mul, zI_add, zI_inI (by omega) (by omega) (by omega), zb_chk, zI_ix (by omega) (by omega), show ((n : Int) * 120 + w).toNat = 120 * n + w by omega, hf n w hn hw]
  by_cases c : zagr l nl ny kv 0 n w ∧ zshp l ny n w
  · rw [if_neg (by rw [zb_0]; exact not_not_intro c), zb_t c]; rfl
  · rw [if_pos (by rw [zb_0]; exact c), zb_f c]; rfl
def ctxW (l : List (Nat × Nat)) (N : Nat) (nl ny : Nat → Nat) (kv : Nat → Nat → Int) (gr : Nat → Nat → Nat) (M : ZMem) : Prop := namesC N nl ny M ∧ lexW l M ∧ labS l gr M ∧ fitC l N nl ny kv M
theorem ctxW_x {l : List (Nat × Nat)} {N : Nat} {nl ny : Nat → Nat} {kv : Nat → Nat → Int} {gr : Nat → Nat → Nat} {M M' : ZMem} (h1 : M'.1 = M.1) (h2 : M'.2 35 = M.2 35) (h : ctxW l N nl ny kv gr M) : ctxW l N nl ny kv gr M' := by
  obtain ⟨a, b, c, d⟩ := h
  refine ⟨namesC_x (by rw [h1]) (fun _ => by rw [h1]) (fun _ => by rw [h1]) a, lexW_y (by rw [h1]) (fun _ => by rw [h1]) (fun _ => by rw [h1]) h2 b, fun w i hw hi => by rw [h1]; exact c w i hw hi, fun n w hn hw => by rw [h1]; exact d n w hn hw⟩
theorem c_pairWords {M : ZMem} {l : List (Nat × Nat)} {N : Nat} {nl ny : Nat → Nat} {kv : Nat → Nat → Int} {gr : Nat → Nat → Nat} (hn : okN N nl ny) (ho : okL l) (hx : ctxW l N nl ny kv gr M) {a n : Nat} (han : a < n) (hnN : n < N) (hoa : zBt M 61 (a * 3) (fun k => k < l.length ∧ zc1 l nl ny kv gr a k)) (hon : zBt M 61 (n * 3) (fun k => k < l.length ∧ zc1 l nl ny kv gr n k)) (hz : ∀ k i, k < 120 → i < 3 → M.2 60 (zpix a n k + i) = 0) : zOk (f_X10_pairWords M (zI a) (zI n)) (fun M' => M'.1 = M.1 ∧ (∀ q i, (q ≠ 60 ∨ ∀ k, k < 120 → i < zpix a n k ∨ zpix a n k + 3 ≤ i) → M'.2 q i = M.2 q i) ∧ ∀ k, k < l.length → zc1 l nl ny kv gr a k → zBt M' 60 (zpix a n k) (fun x => x < l.length ∧ zc1 l nl ny kv gr n x ∧ zc2 l nl ny gr a k n x)) := by
  have hN4 := hn.1
  have hlen := ho.1
  have oAt : ∀ (M : ZMem) (b : Nat), b < 4 → f_X10_openAt M (zI 0) (zI b) = some (zI ((b * 3 : Nat) : Int)) := by
    intro M b hb
    have := c_openAt (M := M) (a := 0) (b := b) (by decide) hb
    rwa [show (0 * 4 + b) * 3 = b * 3 by omega] at this
  have hpx : ∀ k, k < 120 → zpix a n k + 3 ≤ 2160 := fun k hk => zpart_rng han (by omega) hk
  unfold f_X10_pairWords
  rw [zk_bind]
  refine zOk_forQ (fun k x => x.2 = zI k ∧ x.1.1 = M.1 ∧ (∀ q i, (q ≠ 60 ∨ ∀ k', k' < k → i < zpix a n k' ∨ zpix a n k' + 3 ≤ i) → x.1.2 q i = M.2 q i) ∧ ∀ k', k' < k → zc1 l nl ny kv gr a k' → zBt x.1 60 (zpix a n k') (fun x => x < l.length ∧ zc1 l nl ny kv gr n x ∧ zc2 l nl ny gr a k' n x)) l.length ?_ ?_ ⟨rfl, rfl, fun _ _ _ => rfl, fun k hk => absurd hk (Nat.not_lt_zero k)⟩
  · rintro k ⟨x1, x2⟩ hk ⟨e1, e2, e3, e4⟩ Q hQ _
    dsimp only at e1 e2 e3 e4
    have hctx : ∀ {M' : ZMem}, M'.1 = M.1 → M'.2 35 = M.2 35 → ctxW l N nl ny kv gr M' := fun h1 h2 => ctxW_x h1 h2 hx
    have hl1 := (hctx e2 (funext (fun i => e3 35 i (Or.inl (by decide))))).2.1
    have hoa1 : zBt x1 61 (a * 3) (fun k => k < l.length ∧ zc1 l nl ny kv gr a k) := zBt_x hoa (fun i _ => e3 61 _ (Or.inl (by decide)))
    have hon1 : zBt x1 61 (n * 3) (fun k => k < l.length ∧ zc1 l nl ny kv gr n k) := zBt_x hon (fun i _ => e3 61 _ (Or.inl (by decide)))
    unfold f_X10_pairWords_L2 f_X2_held
    dsimp only
    rw [zb_some, hl1.1.1, e1, if_neg (by simp (disch := omega) only [zk_bind, zk_chk, zk_bnd, zk_some, zlp_l, zlp_r, zb_some, zb_bnd, zI_add, zI_sub, zI_mul, zI_neg, zI_le, zI_lt, zI_eq, zI_ix, zI_inI, Int.toNat_natCast, Int.toNat_add, Int.toNat_mul, true_and, and_true]; omega), oAt x1 a (by omega), zb_some, c_hasBit hoa1 (by omega) (by omega) (by omega), zb_some]
    by_cases hc : zc1 l nl ny kv gr a k
    · rw [if_neg (by rw [zb_0]; exact not_not_intro ⟨hk, hc⟩), zk_bind]
      refine zOk_forQ (fun x y => y.2 = zI x ∧ y.1.1 = M.1 ∧ (∀ q i, (q ≠ 60 ∨ i < zpix a n k ∨ zpix a n k + 3 ≤ i) → y.1.2 q i = x1.2 q i) ∧ zBt y.1 60 (zpix a n k) (fun x' => x' < x ∧ x' < l.length ∧ zc1 l nl ny kv gr n x' ∧ zc2 l nl ny gr a k n x')) l.length ?_ ?_ ⟨rfl, e2, fun _ _ _ => rfl, zBt_0 (fun i hi => ?_) (fun x hx => absurd hx.1 (Nat.not_lt_zero x))⟩
      · rintro x ⟨y1, y2⟩ hxl ⟨d1, d2, d3, d4⟩ Q' hQ' _
        dsimp only at d1 d2 d3 d4
        have hy := hctx d2 (funext (fun i => by rw [d3 35 i (Or.inl (by decide)), e3 35 i (Or.inl (by decide))]))
        have hon2 : zBt y1 61 (n * 3) (fun k => k < l.length ∧ zc1 l nl ny kv gr n k) := zBt_x hon1 (fun i _ => d3 61 _ (Or.inl (by decide)))
        have skip : ¬ (zc1 l nl ny kv gr n x ∧ zc2 l nl ny gr a k n x) → zOk (zbnd (zI x + zI 1) (fun x4_94 => (some (.inl (y1, x4_94)) : Option ((ZMem × Int32) ⊕ ZMem)))) Q' := by
          intro hno
          rw [zk_bnd, zk_some, zI_add]
          refine hQ' _ ⟨zI_inj (by omega), d2, d3, zBt_cg d4 (fun x' _ => ⟨fun hh => ⟨by omega, hh.2⟩, fun hh => ⟨?_, hh.2⟩⟩)⟩
          by_cases he : x' = x
          · rw [he] at hh
            exact absurd hh.2.2 hno
          · omega
        unfold f_X10_pairWords_L32 f_X2_held
        dsimp only
        rw [zb_some, hy.2.1.1.1, d1, if_neg (by simp (disch := omega) only [zk_bind, zk_chk, zk_bnd, zk_some, zlp_l, zlp_r, zb_some, zb_bnd, zI_add, zI_sub, zI_mul, zI_neg, zI_le, zI_lt, zI_eq, zI_ix, zI_inI, Int.toNat_natCast, Int.toNat_add, Int.toNat_mul, true_and, and_true]; omega)]
        by_cases hkx : k = x
        · rw [if_pos (by rw [hkx])]
          exact skip (fun hh => hh.2.1 hkx)
        · rw [if_neg (by simp (disch := omega) only [zk_bind, zk_chk, zk_bnd, zk_some, zlp_l, zlp_r, zb_some, zb_bnd, zI_add, zI_sub, zI_mul, zI_neg, zI_le, zI_lt, zI_eq, zI_ix, zI_inI, Int.toNat_natCast, Int.toNat_add, Int.toNat_mul, true_and, and_true]; omega), oAt y1 n (by omega), zb_some, c_hasBit hon2 (by omega) (by omega) (by omega), zb_some]
          by_cases hcx : zc1 l nl ny kv gr n x
          · rw [if_neg (by rw [zb_0]; exact not_not_intro ⟨hxl, hcx⟩), c_goTogether hn hy.1 ho hy.2.1 hy.2.2.1 (by omega) hnN hk hxl hc.1.1.1 hcx.1.1.1, zb_some]
            by_cases hg : zag l nl ny gr a k n x
            · rw [if_neg (by rw [zb_0]; exact not_not_intro hg), c_partnersAt han (by omega) (by omega), zb_some, zk_bind]
              refine zOk_mono (c_putBit (at_ := zpix a n k) d4 (hpx k (by omega)) (by omega) (by omega)) (fun M3 h3 => ?_)
              obtain ⟨g1, g2, g3⟩ := h3
              rw [zk_bnd, zk_some, zI_add]
              refine hQ' _ ⟨zI_inj (by omega), by rw [g2, d2], fun q i hh => by rw [g3 q i hh]; exact d3 q i hh, zBt_cg g1 (fun x' _ => ⟨?_, ?_⟩)⟩
              · rintro (hh | rfl)
                · exact ⟨by omega, hh.2⟩
                · exact ⟨by omega, hxl, hcx, hkx, hg⟩
              · rintro ⟨h1, h2⟩
                by_cases he : x' = x
                · exact Or.inr he
                · exact Or.inl ⟨by omega, h2⟩
            · rw [if_pos (by rw [zb_0]; exact hg)]
              exact skip (fun hh => hg hh.2.2)
          · rw [if_pos (by rw [zb_0]; exact fun hh => hcx hh.2)]
            exact skip (fun hh => hcx hh.1)
      · rintro ⟨y1, y2⟩ ⟨d1, d2, d3, d4⟩
        dsimp only at d1 d2 d3 d4
        have hy := hctx d2 (funext (fun i => by rw [d3 35 i (Or.inl (by decide)), e3 35 i (Or.inl (by decide))]))
        refine ⟨y1, ?_, ?_⟩
        · unfold f_X10_pairWords_L32 f_X2_held
          dsimp only
          rw [zb_some, hy.2.1.1.1, d1, if_pos (by simp (disch := omega) only [zk_bind, zk_chk, zk_bnd, zk_some, zlp_l, zlp_r, zb_some, zb_bnd, zI_add, zI_sub, zI_mul, zI_neg, zI_le, zI_lt, zI_eq, zI_ix, zI_inI, Int.toNat_natCast, Int.toNat_add, Int.toNat_mul, true_and, and_true]; omega)]
        · rw [zk_bnd, zk_some, zI_add]
          refine hQ _ ⟨zI_inj (by omega), d2, fun q i hh => ?_, fun k' hk' hck => ?_⟩
          · rw [d3 q i (hh.imp id (fun hh => hh k (by omega)))]
            exact e3 q i (hh.imp id (fun hh k' hk' => hh k' (by omega)))
          · by_cases he : k' = k
            · rw [he]
              exact zBt_cg d4 (fun x' _ => ⟨fun hh => hh.2, fun hh => ⟨hh.1, hh⟩⟩)
            · refine zBt_x (e4 k' (by omega) hck) (fun i hi => d3 60 _ (Or.inr ?_))
              have := zpix_ne (a := a) (b := n) (k := k) (a' := a) (b' := n) (k' := k') han (by omega) (by omega) han (by omega) (by omega) (fun hh => he hh.2.2.symm)
              omega
      · rw [e3 60 _ (Or.inr (fun k' hk' => ?_)), hz k i (by omega) hi]
        have := zpix_ne (a := a) (b := n) (k := k) (a' := a) (b' := n) (k' := k') han (by omega) (by omega) han (by omega) (by omega) (fun hh => by omega)
        omega
    · rw [if_pos (by rw [zb_0]; exact fun hh => hc hh.2), zk_bnd, zk_some, zI_add]
      refine hQ _ ⟨zI_inj (by omega), e2, fun q i hh => e3 q i (hh.imp id (fun hh k' hk' => hh k' (by omega))), fun k' hk' hck => ?_⟩
      by_cases he : k' = k
      · rw [he] at hck
        exact absurd hck hc
      · exact e4 k' (by omega) hck
  · rintro ⟨x1, x2⟩ ⟨e1, e2, e3, e4⟩
    dsimp only at e1 e2 e3 e4
    have hl1 := (ctxW_x e2 (funext (fun i => e3 35 i (Or.inl (by decide)))) hx).2.1
    refine ⟨x1, ?_, ?_⟩
    · unfold f_X10_pairWords_L2 f_X2_held
      dsimp only
      rw [zb_some, hl1.1.1, e1, if_pos (by simp (disch := omega) only [zk_bind, zk_chk, zk_bnd, zk_some, zlp_l, zlp_r, zb_some, zb_bnd, zI_add, zI_sub, zI_mul, zI_neg, zI_le, zI_lt, zI_eq, zI_ix, zI_inI, Int.toNat_natCast, Int.toNat_add, Int.toNat_mul, true_and, and_true]; omega)]
    · rw [zk_some]
      exact ⟨e2, fun q i hh => e3 q i (hh.imp id (fun hh k' hk' => hh k' (by omega))), e4⟩
theorem c_waysSettle {M : ZMem} {l : List (Nat × Nat)} {N : Nat} {nl ny : Nat → Nat} {kv : Nat → Nat → Int} {gr : Nat → Nat → Nat} (hn : okN N nl ny) (ho : okL l) (hx : ctxW l N nl ny kv gr M) : zOk (f_X10_settle M) (fun M' => waysC l N nl ny kv gr M' ∧ zP2 zWw zVw M M') := by
  have hN4 := hn.1
  have hlen := ho.1
  have oAt : ∀ (M : ZMem) (b : Nat), b < 4 → f_X10_openAt M (zI 0) (zI b) = some (zI ((b * 3 : Nat) : Int)) := by
    intro M b hb
    have := c_openAt (M := M) (a := 0) (b := b) (by decide) hb
    rwa [show (0 * 4 + b) * 3 = b * 3 by omega] at this
  have main : ∀ t : Nat, t ≤ 1 → (t = 1 ↔ N = 0) → zOk (f_X10_settle_16 M (zI t)) (fun M' => waysC l N nl ny kv gr M' ∧ zP2 zWw zVw M M') := by
    intro t ht1 ht
    unfold f_X10_settle_16
    rw [zk_bnd, zk_bind]
    refine zOk_mono (c_fillL (q := 61) (n := 48) (by decide) _ _) (fun M1 h1 => ?_)
    rw [zk_bind]
    refine zOk_mono (c_fillL (q := 60) (n := 2160) (by decide) _ _) (fun M2 h2 => ?_)
    obtain ⟨a1, a2, a3⟩ := h1
    obtain ⟨b1, b2, b3⟩ := h2
    have m2 : M2.1 = (zstI M 59 9 (zI t)).1 := by rw [b2, a2]
    have fr2 : zP2 zWw zVw M M2 := ⟨fun a k ha => by rw [m2, zm_I, if_neg (fun hh => by rw [hh.1] at ha; cases ha)], fun a ha => by
      have h60 : a ≠ 60 := fun he => by rw [he] at ha; cases ha
      have h61 : a ≠ 61 := fun he => by rw [he] at ha; cases ha
      rw [b3 a h60, a3 a h61]
      rfl⟩
    have z61 : ∀ i, i < 48 → M2.2 61 i = 0 := fun i hi => by rw [b3 61 (by decide)]; exact a1 i hi
    have hx2 : ctxW l N nl ny kv gr M2 := by
      obtain ⟨x1, x2, x3, x4⟩ := hx
      exact ⟨namesC_x (fr2.1 17 2 rfl) (fun k => fr2.1 18 k rfl) (fun k => fr2.1 19 k rfl) x1, lexW_y (fr2.1 34 6 rfl) (fun k => fr2.1 36 k rfl) (fun k => fr2.1 37 k rfl) (fr2.2 35 rfl) x2, fun w i hw hi => by rw [fr2.1 44 _ rfl, fr2.1 48 _ rfl]; exact x3 w i hw hi, fun n w hn hw => by rw [fr2.1 55 _ rfl]; exact x4 n w hn hw⟩
    rw [zk_bind]
    refine zOk_forQ (fun n x => x.2 = zI n ∧ x.1.1 = M2.1 ∧ (∀ a, a ≠ 60 → a ≠ 61 → x.1.2 a = M2.2 a) ∧ (∀ b, b < n → zBt x.1 61 (b * 3) (fun k => k < l.length ∧ zc1 l nl ny kv gr b k)) ∧ (∀ i, n * 3 ≤ i → i < 48 → x.1.2 61 i = 0) ∧ (∀ a b k, a < b → b < n → k < l.length → zc1 l nl ny kv gr a k → zBt x.1 60 (zpix a b k) (fun x => x < l.length ∧ zc1 l nl ny kv gr b x ∧ zc2 l nl ny gr a k b x)) ∧ ∀ a b k i, a < b → n ≤ b → b < 4 → k < 120 → i < 3 → x.1.2 60 (zpix a b k + i) = 0) N ?_ ?_ ⟨rfl, rfl, fun _ _ _ => rfl, fun b hb => absurd hb (Nat.not_lt_zero b), fun i _ hi => z61 i hi, fun a b k _ hb => absurd hb (Nat.not_lt_zero b), fun a b k i h1 _ h3 h4 h5 => b1 _ (by have := zpart_rng h1 h3 h4; unfold zpix; omega)⟩
    · rintro n ⟨x1, x2⟩ hnN ⟨e1, e2, e3, e4, e5, e6, e7⟩ Q hQ _
      dsimp only at e1 e2 e3 e4 e5 e6 e7
      have hc1 := ctxW_x e2 (e3 35 (by decide) (by decide)) hx2
      unfold f_X10_settle_L37 f_X4_told
      dsimp only
      rw [zb_some, hc1.1.1, e1, if_neg (by simp (disch := omega) only [zk_bind, zk_chk, zk_bnd, zk_some, zlp_l, zlp_r, zb_some, zb_bnd, zI_add, zI_sub, zI_mul, zI_neg, zI_le, zI_lt, zI_eq, zI_ix, zI_inI, Int.toNat_natCast, Int.toNat_add, Int.toNat_mul, true_and, and_true]; omega), zk_bind]
      refine zOk_forQ (fun w y => y.2 = zI w ∧ y.1.1 = M2.1 ∧ (∀ a i, (a ≠ 61 ∨ i < n * 3 ∨ n * 3 + 3 ≤ i) → y.1.2 a i = x1.2 a i) ∧ zBt y.1 61 (n * 3) (fun k => k < w ∧ k < l.length ∧ zc1 l nl ny kv gr n k)) l.length ?_ ?_ ⟨rfl, e2, fun _ _ _ => rfl, zBt_0 (fun i hi => e5 _ (by omega) (by omega)) (fun k hk => absurd hk.1 (Nat.not_lt_zero k))⟩
      · rintro w ⟨y1, y2⟩ hw ⟨d1, d2, d3, d4⟩ Q' hQ' _
        dsimp only at d1 d2 d3 d4
        have hc2 := ctxW_x d2 (funext (fun i => by rw [d3 35 i (Or.inl (by decide)), e3 35 (by decide) (by decide)])) hx2
        have skip : ¬ zc1 l nl ny kv gr n w → zOk (zbnd (zI w + zI 1) (fun x2_97 => (some (.inl (y1, x2_97)) : Option ((ZMem × Int32) ⊕ ZMem)))) Q' := by
          intro hno
          rw [zk_bnd, zk_some, zI_add]
          refine hQ' _ ⟨zI_inj (by omega), d2, d3, zBt_cg d4 (fun x' _ => ⟨fun hh => ⟨by omega, hh.2⟩, fun hh => ⟨?_, hh.2⟩⟩)⟩
          by_cases he : x' = w
          · rw [he] at hh
            exact absurd hh.2.2 hno
          · omega
        unfold f_X10_settle_L50 f_X2_held
        dsimp only
        rw [zb_some, hc2.2.1.1.1, d1, if_neg (by simp (disch := omega) only [zk_bind, zk_chk, zk_bnd, zk_some, zlp_l, zlp_r, zb_some, zb_bnd, zI_add, zI_sub, zI_mul, zI_neg, zI_le, zI_lt, zI_eq, zI_ix, zI_inI, Int.toNat_natCast, Int.toNat_add, Int.toNat_mul, true_and, and_true]; omega), c_isFitting hN4 ho hc2.2.2.2 hnN hw, zb_some]
        by_cases k1 : zagr l nl ny kv 0 n w ∧ zshp l ny n w
        · rw [if_neg (by rw [zb_0]; exact not_not_intro k1), c_goTogether hn hc2.1 ho hc2.2.1 hc2.2.2.1 hnN hnN hw hw k1.1.1 k1.1.1, zb_some]
          by_cases k2 : zag l nl ny gr n w n w
          · rw [if_neg (by rw [zb_0]; exact not_not_intro k2), oAt y1 n (by omega), zb_some, zk_bind]
            refine zOk_mono (c_putBit d4 (by omega) (by omega) (by omega)) (fun M3 h3 => ?_)
            obtain ⟨g1, g2, g3⟩ := h3
            rw [zk_bnd, zk_some, zI_add]
            refine hQ' _ ⟨zI_inj (by omega), by rw [g2, d2], fun a i hh => by rw [g3 a i hh]; exact d3 a i hh, zBt_cg g1 (fun x' _ => ⟨?_, ?_⟩)⟩
            · rintro (hh | rfl)
              · exact ⟨by omega, hh.2⟩
              · exact ⟨by omega, hw, k1, k2⟩
            · rintro ⟨h1, h2⟩
              by_cases he : x' = w
              · exact Or.inr he
              · exact Or.inl ⟨by omega, h2⟩
          · rw [if_pos (by rw [zb_0]; exact k2)]
            exact skip (fun hh => k2 hh.2)
        · rw [if_pos (by rw [zb_0]; exact k1)]
          exact skip (fun hh => k1 hh.1)
      · rintro ⟨y1, y2⟩ ⟨d1, d2, d3, d4⟩
        dsimp only at d1 d2 d3 d4
        have hc2 := ctxW_x d2 (funext (fun i => by rw [d3 35 i (Or.inl (by decide)), e3 35 (by decide) (by decide)])) hx2
        refine ⟨y1, ?_, ?_⟩
        · unfold f_X10_settle_L50 f_X2_held
          dsimp only
          rw [zb_some, hc2.2.1.1.1, d1, if_pos (by simp (disch := omega) only [zk_bind, zk_chk, zk_bnd, zk_some, zlp_l, zlp_r, zb_some, zb_bnd, zI_add, zI_sub, zI_mul, zI_neg, zI_le, zI_lt, zI_eq, zI_ix, zI_inI, Int.toNat_natCast, Int.toNat_add, Int.toNat_mul, true_and, and_true]; omega)]
        · have d4' : zBt y1 61 (n * 3) (fun k => k < l.length ∧ zc1 l nl ny kv gr n k) := zBt_cg d4 (fun x' _ => ⟨fun hh => hh.2, fun hh => ⟨hh.1, hh⟩⟩)
          have op : ∀ b, b < n + 1 → zBt y1 61 (b * 3) (fun k => k < l.length ∧ zc1 l nl ny kv gr b k) := by
            intro b hb
            by_cases he : b = n
            · rw [he]; exact d4'
            · exact zBt_x (e4 b (by omega)) (fun i hi => d3 61 _ (by omega))
          rw [zk_bind]
          refine zOk_for0 (fun a z => z.2 = zI a ∧ z.1.1 = M2.1 ∧ (∀ q i, (q ≠ 60 ∨ ∀ a' k, a' < a → k < 120 → i < zpix a' n k ∨ zpix a' n k + 3 ≤ i) → z.1.2 q i = y1.2 q i) ∧ ∀ a' k, a' < a → k < l.length → zc1 l nl ny kv gr a' k → zBt z.1 60 (zpix a' n k) (fun x => x < l.length ∧ zc1 l nl ny kv gr n x ∧ zc2 l nl ny gr a' k n x)) n ?_ ?_ ⟨rfl, d2, fun _ _ _ => rfl, fun a' k ha => absurd ha (Nat.not_lt_zero a')⟩
          · rintro a ⟨z1, z2⟩ han ⟨c1, c2, c3, c4⟩
            dsimp only at c1 c2 c3 c4
            have hc3 := ctxW_x c2 (funext (fun i => by rw [c3 35 i (Or.inl (by decide)), d3 35 i (Or.inl (by decide)), e3 35 (by decide) (by decide)])) hx2
            unfold f_X10_settle_L105
            dsimp only
            rw [c1, if_neg (by simp (disch := omega) only [zk_bind, zk_chk, zk_bnd, zk_some, zlp_l, zlp_r, zb_some, zb_bnd, zI_add, zI_sub, zI_mul, zI_neg, zI_le, zI_lt, zI_eq, zI_ix, zI_inI, Int.toNat_natCast, Int.toNat_add, Int.toNat_mul, true_and, and_true]; omega), zk_bind]
            refine zOk_mono (c_pairWords hn ho hc3 han hnN (zBt_x (op a (by omega)) (fun i _ => c3 61 _ (Or.inl (by decide)))) (zBt_x (op n (by omega)) (fun i _ => c3 61 _ (Or.inl (by decide)))) (fun k i hk hi => ?_)) (fun M4 h4 => ?_)
            · rw [c3 60 _ (Or.inr (fun a' k' ha' hk' => ?_)), d3 60 _ (Or.inl (by decide)), e7 a n k i han (Nat.le_refl n) (by omega) hk hi]
              have := zpix_ne (a := a) (b := n) (k := k) (a' := a') (b' := n) (k' := k') han (by omega) hk (by omega) (by omega) hk' (fun hh => by omega)
              omega
            · obtain ⟨g1, g2, g3⟩ := h4
              rw [zk_bnd, zk_some, zlp_l, zI_add]
              refine ⟨zI_inj (by omega), by rw [g1, c2], fun q i hh => ?_, fun a' k ha' hk hck => ?_⟩
              · rw [g2 q i (hh.imp id (fun hh k hk => hh a k (by omega) hk))]
                exact c3 q i (hh.imp id (fun hh a' k ha' hk => hh a' k (by omega) hk))
              · by_cases he : a' = a
                · rw [he] at hck ⊢
                  exact g3 k hk hck
                · refine zBt_x (c4 a' k (by omega) hk hck) (fun i hi => g2 60 _ (Or.inr (fun k' hk' => ?_)))
                  have := zpix_ne (a := a) (b := n) (k := k') (a' := a') (b' := n) (k' := k) han (by omega) hk' (by omega) (by omega) (by omega) (fun hh => he hh.1.symm)
                  omega
          · rintro ⟨z1, z2⟩ ⟨c1, c2, c3, c4⟩
            dsimp only at c1 c2 c3 c4
            unfold f_X10_settle_L105
            dsimp only
            rw [c1, if_pos (by simp (disch := omega) only [zk_bind, zk_chk, zk_bnd, zk_some, zlp_l, zlp_r, zb_some, zb_bnd, zI_add, zI_sub, zI_mul, zI_neg, zI_le, zI_lt, zI_eq, zI_ix, zI_inI, Int.toNat_natCast, Int.toNat_add, Int.toNat_mul, true_and, and_true]; omega), zk_some, zlp_r, zk_bnd, zk_some, zI_add]
            have far : ∀ a b k, a < b → b ≠ n → b < 4 → k < 120 → ∀ i, i < 3 → z1.2 60 (zpix a b k + i) = x1.2 60 (zpix a b k + i) := by
              intro a b k hab hbn hb4 hk i hi
              rw [c3 60 _ (Or.inr (fun a' k' ha' hk' => ?_)), d3 60 _ (Or.inl (by decide))]
              have := zpix_ne (a := a) (b := b) (k := k) (a' := a') (b' := n) (k' := k') hab hb4 hk ha' (by omega) hk' (fun hh => hbn hh.2.1)
              omega
            refine hQ _ ⟨zI_inj (by omega), c2, fun a h60 h61 => funext (fun i => by rw [c3 a i (Or.inl h60), d3 a i (Or.inl h61), e3 a h60 h61]), fun b hb => zBt_x (op b hb) (fun i _ => c3 61 _ (Or.inl (by decide))), fun i h1 h2 => by rw [c3 61 _ (Or.inl (by decide)), d3 61 i (by omega)]; exact e5 i (by omega) h2, fun a b k hab hb hk hck => ?_, fun a b k i hab hnb hb4 hk hi => ?_⟩
            · by_cases he : b = n
              · rw [he] at hab ⊢
                exact c4 a k hab hk hck
              · exact zBt_x (e6 a b k hab (by omega) hk hck) (fun i hi => far a b k hab he (by omega) (by omega) i hi)
            · rw [far a b k hab (by omega) hb4 hk i hi]
              exact e7 a b k i hab (by omega) hb4 hk hi
    · rintro ⟨x1, x2⟩ ⟨e1, e2, e3, e4, e5, e6, e7⟩
      dsimp only at e1 e2 e3 e4 e5 e6 e7
      have hc1 := ctxW_x e2 (e3 35 (by decide) (by decide)) hx2
      have fr3 : zP2 zWw zVw M x1 := ⟨fun a k ha => by rw [e2]; exact fr2.1 a k ha, fun a ha => by
        have h60 : a ≠ 60 := fun he => by rw [he] at ha; cases ha
        have h61 : a ≠ 61 := fun he => by rw [he] at ha; cases ha
        rw [e3 a h60 h61]; exact fr2.2 a ha⟩
      have htot : x1.1 59 9 = zI t := by rw [e2, m2, zm_Is]
      refine ⟨x1, ?_, ?_⟩
      · unfold f_X10_settle_L37 f_X4_told
        dsimp only
        rw [zb_some, hc1.1.1, e1, if_pos (by simp (disch := omega) only [zk_bind, zk_chk, zk_bnd, zk_some, zlp_l, zlp_r, zb_some, zb_bnd, zI_add, zI_sub, zI_mul, zI_neg, zI_le, zI_lt, zI_eq, zI_ix, zI_inI, Int.toNat_natCast, Int.toNat_add, Int.toNat_mul, true_and, and_true]; omega)]
      · rw [zk_bind]
        by_cases hN0 : N = 0
        · have ht2 : t = 1 := ht.mpr hN0
          show zOk (f_X10_choose (f_X10_chooseN 4) x1 (zI 0)) _
          unfold f_X10_choose f_X4_told
          rw [if_neg (by decide), if_neg (by decide), zb_some, hc1.1.1, hN0, if_neg (by decide), zk_some, zk_some]
          refine ⟨⟨?_, fun x hx' m hm => absurd hm (by omega)⟩, fr3⟩
          rw [htot, ht2]
          unfold zwall zwy
          rfl
        · have ht2 : t = 0 := by omega
          refine zOk_mono (c_chooseN (c1 := zc1 l nl ny kv gr) (c2 := zc2 l nl ny gr) (W := l.length) hN4 hlen 5 N x1 [] 0 (by omega) (by simp) (by omega) ⟨hc1.1.1, hc1.2.1.1.1, fun b _ hb => ?_, fun a b k h1 h2 h3 h4 => e6 a b k h1 h2 h3 h4, by rw [htot, ht2], by omega, fun m hm => absurd hm (Nat.not_lt_zero m)⟩) (fun M' h' => ?_)
          · have := e4 b hb
            refine zBt_cg (at_ := (([] : List Nat).length * 4 + b) * 3) ?_ (fun k _ => ?_) (P := fun k => k < l.length ∧ zc1 l nl ny kv gr b k)
            · rw [show (([] : List Nat).length * 4 + b) * 3 = b * 3 by simp]
              exact this
            · exact and_congr Iff.rfl ⟨fun hh => ⟨hh, fun m hm => absurd hm (Nat.not_lt_zero m)⟩, fun hh => hh.1⟩
          · rw [zk_some]
            obtain ⟨g1, g2, g3, _⟩ := h'
            refine ⟨⟨?_, fun x hx' m hm => g3 rfl x hx' m hm⟩, zP2_tr fr3 g1⟩
            rw [g2, Nat.zero_add]
            rfl
  unfold f_X10_settle f_X4_told
  rw [zb_some, hx.1.1]
  by_cases hN0 : N = 0
  · rw [if_pos (by rw [hN0]; rfl)]
    exact main 1 (by omega) ⟨fun _ => hN0, fun _ => rfl⟩
  · rw [if_neg (by simp (disch := omega) only [zk_bind, zk_chk, zk_bnd, zk_some, zlp_l, zlp_r, zb_some, zb_bnd, zI_add, zI_sub, zI_mul, zI_neg, zI_le, zI_lt, zI_eq, zI_ix, zI_inI, Int.toNat_natCast, Int.toNat_add, Int.toNat_mul, true_and, and_true]; omega)]
    exact main 0 (by omega) ⟨fun h => by omega, fun h => absurd h hN0⟩
