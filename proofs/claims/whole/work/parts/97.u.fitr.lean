/-! ===== which words fit which names: the reference ===== deps: 97.t.match -/
def knV (F : Nat) (kv : Nat → Nat → Int) (R : ZMem) : Prop := ∀ kind s, kind < 2 → s < F → R.1 25 (20 * kind + s) = zI (kv kind s)
theorem r_wordSign {M : ZMem} {l : List (Nat × Nat)} (ho : okL l) (hl : lexR l M) {w i : Nat} (hw : w < l.length) (hi : i < zN l w) : f_X12_wordSign M (zI w) (zI i) = some (zI (zSg l w i)) := by
  have hlen := ho.1
  have w7 := (okL_W ho hw).2.2.1
  have h3 := (okL_W ho hw).2.2.2.1 i hi
  unfold f_X12_wordSign
  rw [zI_mul, zI_add, zI_inI (by omega) (by omega) (by omega), zb_chk, zI_ix (by omega) (by omega), show (7 * (w : Int) + i).toNat = 7 * w + i by omega, (lexR_w hl hw).2 i (by omega)]
  exact congrArg some (zI_inj (by unfold zSg; omega))
theorem r_fitsName {M : ZMem} {F N : Nat} {nl ny : Nat → Nat} {l : List (Nat × Nat)} {kv : Nat → Nat → Int} (hF : F ≤ 20) (hn : okN N nl ny) (hN : namesR N nl ny M) (ho : okL l) (hl : lexR l M) (hS : ∀ w i, w < l.length → i < zN l w → zSg l w i < F) (hv : okV kv) (hk : knV F kv M) {n w : Nat} (hnN : n < N) (hw : w < l.length) : f_X12_fitsName M (zI w) (zI n) = some (zI (zb (zagr l nl ny kv 0 n w ∧ zshp l ny n w))) := by
  have hN4 := hn.1
  have hlen := ho.1
  obtain ⟨n2, n7, n50⟩ := hn.2 n hnN
  obtain ⟨h7, h8⟩ := hN.2 n hnN
  have w7 := (okL_W ho hw).2.2.1
  unfold f_X12_fitsName
  rw [zI_inI (by omega) (by omega) (by omega), zb_chk, zI_inI (by omega) (by omega) (by omega), zb_chk, zI_ix (by omega) (by omega), zI_ix (by omega) (by omega), Int.toNat_natCast, Int.toNat_natCast, (lexR_w hl hw).1, h7]
  by_cases c1 : zN l w = nl n
  · rw [if_pos (by rw [c1])]
    apply zOk_is
    rw [zk_bind]
    refine zOk_forQ (fun k x => x = zI k ∧ ∀ i, i < k → (∀ kind, kind < 2 → kv kind (zSg l w i) = zpt kind (ny (7 * n + i)) ∨ (0 = 0 ∧ kv kind (zSg l w i) = -1)) ∧ ∀ j, j < i → (zSg l w i = zSg l w j ↔ ny (7 * n + i) = ny (7 * n + j))) (nl n) ?_ ?_ ⟨rfl, fun j hj => absurd hj (Nat.not_lt_zero j)⟩
    · rintro k x hkn ⟨rfl, e1⟩ Q hQ hR
      have s1 := hS w k hw (by omega)
      have y1 := n50 k hkn
      have bad : ¬ (zagr l nl ny kv 0 n w ∧ zshp l ny n w) → Q (.inr (.inr (zI 0))) := by
        intro hno
        refine hR _ ?_
        show zOk (some (zI 0)) _
        rw [zk_some, zb_f hno]
        rfl
      unfold f_X12_fitsName_L19
      rw [zI_inI (by omega) (by omega) (by omega), zb_chk, zI_ix (by omega) (by omega), Int.toNat_natCast, h7, if_neg (by simp (disch := omega) only [zk_bind, zk_chk, zk_bnd, zk_some, zlp_l, zlp_r, zb_some, zb_bnd, zI_add, zI_sub, zI_mul, zI_neg, zI_le, zI_lt, zI_eq, zI_ix, zI_inI, Int.toNat_natCast, Int.toNat_add, Int.toNat_mul, true_and, and_true]; omega), zI_mul, zI_add, zI_inI (by omega) (by omega) (by omega), zb_chk, zI_ix (by omega) (by omega), show (7 * (n : Int) + k).toNat = 7 * n + k by omega, h8 k hkn, zk_bnd, zk_bind]
      refine zOk_forQ (fun kind x => x = zI kind ∧ ∀ kd, kd < kind → kv kd (zSg l w k) = zpt kd (ny (7 * n + k)) ∨ (0 = 0 ∧ kv kd (zSg l w k) = -1)) 2 ?_ ?_ ⟨rfl, fun j hj => absurd hj (Nat.not_lt_zero j)⟩
      · rintro kind x hkd ⟨rfl, d1⟩ Q' hQ' hR'
        have vr := hv kind (zSg l w k)
        have pr := zpt_rng (kind := kind) (v := ny (7 * n + k)) (by omega) (by omega)
        unfold f_X12_fitsName_L45
        rw [if_neg (by simp (disch := omega) only [zk_bind, zk_chk, zk_bnd, zk_some, zlp_l, zlp_r, zb_some, zb_bnd, zI_add, zI_sub, zI_mul, zI_neg, zI_le, zI_lt, zI_eq, zI_ix, zI_inI, Int.toNat_natCast, Int.toNat_add, Int.toNat_mul, true_and, and_true]; omega), r_wordSign ho hl hw (by omega), zb_some, zI_mul, zI_add, zI_inI (by omega) (by omega) (by omega), zb_chk, zI_ix (by omega) (by omega), show (20 * (kind : Int) + (zSg l w k : Nat)).toNat = 20 * kind + zSg l w k by omega, hk kind _ hkd s1, zk_bnd]
        have next : (kv kind (zSg l w k) = zpt kind (ny (7 * n + k)) ∨ (0 = 0 ∧ kv kind (zSg l w k) = -1)) → zOk (zbnd (zI kind + zI 1) (fun x5_90 => (some (.inl x5_90) : Option (Int32 ⊕ (Unit ⊕ Int32))))) Q' := by
          intro hok
          rw [zk_bnd, zk_some, zI_add]
          refine hQ' _ ⟨zI_inj (by omega), fun kd hkd' => ?_⟩
          by_cases he : kd = kind
          · rw [he]; exact hok
          · exact d1 kd (by omega)
        by_cases k1 : kv kind (zSg l w k) = -1
        · rw [if_pos (by rw [k1])]
          exact next (Or.inr ⟨rfl, k1⟩)
        · rw [if_neg (by simp (disch := omega) only [zk_bind, zk_chk, zk_bnd, zk_some, zlp_l, zlp_r, zb_some, zb_bnd, zI_add, zI_sub, zI_mul, zI_neg, zI_le, zI_lt, zI_eq, zI_ix, zI_inI, Int.toNat_natCast, Int.toNat_add, Int.toNat_mul, true_and, and_true]; omega), r_partOf hkd (by omega) (by omega), zb_some]
          by_cases k2 : kv kind (zSg l w k) = zpt kind (ny (7 * n + k))
          · rw [if_pos (by rw [k2])]
            exact next (Or.inl k2)
          · rw [if_neg (by simp (disch := omega) only [zk_bind, zk_chk, zk_bnd, zk_some, zlp_l, zlp_r, zb_some, zb_bnd, zI_add, zI_sub, zI_mul, zI_neg, zI_le, zI_lt, zI_eq, zI_ix, zI_inI, Int.toNat_natCast, Int.toNat_add, Int.toNat_mul, true_and, and_true]; omega), zk_some]
            refine hR' _ ?_
            show zOk (some (.inr (.inr (zI 0)))) Q
            rw [zk_some]
            exact bad (fun hz => (hz.1.2 k hkn kind hkd).elim k2 (fun hh => k1 hh.2))
      · rintro x ⟨rfl, d1⟩
        refine ⟨.inl (), ?_, ?_⟩
        · unfold f_X12_fitsName_L45
          rw [if_pos (by simp (disch := omega) only [zk_bind, zk_chk, zk_bnd, zk_some, zlp_l, zlp_r, zb_some, zb_bnd, zI_add, zI_sub, zI_mul, zI_neg, zI_le, zI_lt, zI_eq, zI_ix, zI_inI, Int.toNat_natCast, Int.toNat_add, Int.toNat_mul, true_and, and_true]; omega)]
        · show zOk (zbind (zloop (f_X12_fitsName_L99 M (zI w) (zI n) (zI k) (zI (ny (7 * n + k)))) (zI 0)) _) Q
          rw [zk_bind]
          refine zOk_forQ (fun i x => x = zI i ∧ ∀ j, j < i → (zSg l w k = zSg l w j ↔ ny (7 * n + k) = ny (7 * n + j))) k ?_ ?_ ⟨rfl, fun j hj => absurd hj (Nat.not_lt_zero j)⟩
          · rintro i x hi ⟨rfl, c2⟩ Q' hQ' hR'
            have s2 := hS w i hw (by omega)
            have y2 := n50 i (by omega)
            have key : ∀ v u : Nat, v ≤ 1 → u ≤ 1 → (v = 1 ↔ zSg l w k = zSg l w i) → (u = 1 ↔ ny (7 * n + k) = ny (7 * n + i)) → zOk (f_X12_fitsName_148_L99 M (zI w) (zI n) (zI k) (zI (ny (7 * n + k))) (zI i) (zI v) (zI u)) Q' := by
              intro v u v1 u1 hv' hu
              unfold f_X12_fitsName_148_L99
              by_cases hvu : v = u
              · rw [if_pos (by rw [hvu]), zk_bnd, zk_some, zI_add]
                refine hQ' _ ⟨zI_inj (by omega), fun j' hj' => ?_⟩
                by_cases he : j' = i
                · rw [he, ← hv', ← hu, hvu]
                · exact c2 j' (by omega)
              · rw [if_neg (by simp (disch := omega) only [zk_bind, zk_chk, zk_bnd, zk_some, zlp_l, zlp_r, zb_some, zb_bnd, zI_add, zI_sub, zI_mul, zI_neg, zI_le, zI_lt, zI_eq, zI_ix, zI_inI, Int.toNat_natCast, Int.toNat_add, Int.toNat_mul, true_and, and_true]; omega), zk_some]
                refine hR' _ ?_
                show zOk (some (.inr (.inr (zI 0)))) Q
                rw [zk_some]
                refine bad (fun hz => ?_)
                have := hz.2 k (by omega) i hi
                omega
            have key2 : ∀ v : Nat, v ≤ 1 → (v = 1 ↔ zSg l w k = zSg l w i) → zOk (f_X12_fitsName_126_L99 M (zI w) (zI n) (zI k) (zI (ny (7 * n + k))) (zI i) (zI v)) Q' := by
              intro v v1 hv'
              unfold f_X12_fitsName_126_L99
              rw [zI_mul, zI_add, zI_inI (by omega) (by omega) (by omega), zb_chk, zI_ix (by omega) (by omega), show (7 * (n : Int) + i).toNat = 7 * n + i by omega, h8 i (by omega)]
              by_cases hy : ny (7 * n + k) = ny (7 * n + i)
              · rw [if_pos (by rw [hy])]
                exact key v 1 v1 (by omega) hv' ⟨fun _ => hy, fun _ => rfl⟩
              · rw [if_neg (by simp (disch := omega) only [zk_bind, zk_chk, zk_bnd, zk_some, zlp_l, zlp_r, zb_some, zb_bnd, zI_add, zI_sub, zI_mul, zI_neg, zI_le, zI_lt, zI_eq, zI_ix, zI_inI, Int.toNat_natCast, Int.toNat_add, Int.toNat_mul, true_and, and_true]; omega)]
                exact key v 0 v1 (by omega) hv' ⟨fun h => by omega, fun h => absurd h hy⟩
            unfold f_X12_fitsName_L99
            rw [if_neg (by simp (disch := omega) only [zk_bind, zk_chk, zk_bnd, zk_some, zlp_l, zlp_r, zb_some, zb_bnd, zI_add, zI_sub, zI_mul, zI_neg, zI_le, zI_lt, zI_eq, zI_ix, zI_inI, Int.toNat_natCast, Int.toNat_add, Int.toNat_mul, true_and, and_true]; omega), r_wordSign ho hl hw (by omega), zb_some, r_wordSign ho hl hw (by omega), zb_some]
            by_cases hs : zSg l w k = zSg l w i
            · rw [if_pos (by rw [hs])]
              exact key2 1 (by omega) ⟨fun _ => hs, fun _ => rfl⟩
            · rw [if_neg (by simp (disch := omega) only [zk_bind, zk_chk, zk_bnd, zk_some, zlp_l, zlp_r, zb_some, zb_bnd, zI_add, zI_sub, zI_mul, zI_neg, zI_le, zI_lt, zI_eq, zI_ix, zI_inI, Int.toNat_natCast, Int.toNat_add, Int.toNat_mul, true_and, and_true]; omega)]
              exact key2 0 (by omega) ⟨fun h => by omega, fun h => absurd h hs⟩
          · rintro x ⟨rfl, c2⟩
            refine ⟨.inl (), ?_, ?_⟩
            · unfold f_X12_fitsName_L99
              rw [if_pos (by simp (disch := omega) only [zk_bind, zk_chk, zk_bnd, zk_some, zlp_l, zlp_r, zb_some, zb_bnd, zI_add, zI_sub, zI_mul, zI_neg, zI_le, zI_lt, zI_eq, zI_ix, zI_inI, Int.toNat_natCast, Int.toNat_add, Int.toNat_mul, true_and, and_true]; omega)]
            · show zOk (zbnd (zI k + zI 1) (fun x3_159 => some (.inl x3_159))) Q
              rw [zk_bnd, zk_some, zI_add]
              refine hQ _ ⟨zI_inj (by omega), fun i hi => ?_⟩
              by_cases he : i = k
              · rw [he]; exact ⟨d1, c2⟩
              · exact e1 i (by omega)
    · rintro x ⟨rfl, e1⟩
      refine ⟨.inl (), ?_, ?_⟩
      · unfold f_X12_fitsName_L19
        rw [zI_inI (by omega) (by omega) (by omega), zb_chk, zI_ix (by omega) (by omega), Int.toNat_natCast, h7, if_pos (by simp (disch := omega) only [zk_bind, zk_chk, zk_bnd, zk_some, zlp_l, zlp_r, zb_some, zb_bnd, zI_add, zI_sub, zI_mul, zI_neg, zI_le, zI_lt, zI_eq, zI_ix, zI_inI, Int.toNat_natCast, Int.toNat_add, Int.toNat_mul, true_and, and_true]; omega)]
      · show zOk (some (zI 1)) _
        rw [zk_some, zb_t ⟨⟨c1, fun i hi => (e1 i hi).1⟩, fun i hi => (e1 i (by omega)).2⟩]
        rfl
  · rw [if_neg (by simp (disch := omega) only [zk_bind, zk_chk, zk_bnd, zk_some, zlp_l, zlp_r, zb_some, zb_bnd, zI_add, zI_sub, zI_mul, zI_neg, zI_le, zI_lt, zI_eq, zI_ix, zI_inI, Int.toNat_natCast, Int.toNat_add, Int.toNat_mul, true_and, and_true]; omega), zb_f (fun hz => c1 hz.1.1)]
    rfl
theorem zagr_1 {l : List (Nat × Nat)} {nl ny : Nat → Nat} {kv : Nat → Nat → Int} {n w : Nat} (h50 : ∀ k, k < nl n → ny (7 * n + k) < 50) : (∀ i, i < zN l w → kv 0 (zSg l w i) ≠ -1 ∧ kv 1 (zSg l w i) ≠ -1) ∧ zagr l nl ny kv 0 n w ↔ zagr l nl ny kv 1 n w := by
  constructor
  · rintro ⟨h1, h2, h3⟩
    refine ⟨h2, fun i hi kind hk => ?_⟩
    rcases h3 i hi kind hk with h4 | h4
    · exact Or.inl h4
    · have := h1 i (by omega)
      by_cases hk0 : kind = 0
      · rw [hk0] at h4; exact absurd h4.2 this.1
      · rw [show kind = 1 by omega] at h4; exact absurd h4.2 this.2
  · rintro ⟨h2, h3⟩
    have h4 : ∀ i, i < nl n → ∀ kind, kind < 2 → kv kind (zSg l w i) = zpt kind (ny (7 * n + i)) := fun i hi kind hk => (h3 i hi kind hk).elim id (fun hh => by omega)
    refine ⟨fun i hi => ?_, h2, fun i hi kind hk => Or.inl (h4 i hi kind hk)⟩
    have hy := h50 i (by omega)
    have p0 := zpt_rng (kind := 0) (v := ny (7 * n + i)) (by omega) (by omega)
    have p1 := zpt_rng (kind := 1) (v := ny (7 * n + i)) (by omega) (by omega)
    rw [h4 i (by omega) 0 (by omega), h4 i (by omega) 1 (by omega)]
    omega
theorem r_hitsNow {M : ZMem} {F N : Nat} {nl ny : Nat → Nat} {l : List (Nat × Nat)} {kv : Nat → Nat → Int} (hF : F ≤ 20) (hn : okN N nl ny) (hN : namesR N nl ny M) (ho : okL l) (hl : lexR l M) (hS : ∀ w i, w < l.length → i < zN l w → zSg l w i < F) (hv : okV kv) (hk : knV F kv M) : f_X12_hitsNow M = some (zI (zhitN l N nl ny kv)) := by
  have hN4 := hn.1
  have hlen := ho.1
  apply zOk_is
  unfold f_X12_hitsNow
  rw [zk_bind]
  refine zOk_for0 (fun w x => x = (zI (zsum w (fun w => zsum N (fun n => zb (zagr l nl ny kv 1 n w ∧ zshp l ny n w)))), zI w)) l.length ?_ ?_ rfl
  · rintro w x hw rfl
    have w7 := (okL_W ho hw).2.2.1
    unfold f_X12_hitsNow_L4
    dsimp only
    rw [hl.1, if_neg (by simp (disch := omega) only [zk_bind, zk_chk, zk_bnd, zk_some, zlp_l, zlp_r, zb_some, zb_bnd, zI_add, zI_sub, zI_mul, zI_neg, zI_le, zI_lt, zI_eq, zI_ix, zI_inI, Int.toNat_natCast, Int.toNat_add, Int.toNat_mul, true_and, and_true]; omega), zk_bind]
    refine zOk_forQ (fun k x => x = (zI (zb (∀ i, i < k → kv 0 (zSg l w i) ≠ -1 ∧ kv 1 (zSg l w i) ≠ -1)), zI k)) (zN l w) ?_ ?_ ?_
    · rintro k x hkn rfl Q hQ _
      have s1 := hS w k hw hkn
      have v0 := hv 0 (zSg l w k)
      have v1 := hv 1 (zSg l w k)
      unfold f_X12_hitsNow_L17
      dsimp only
      rw [zI_inI (by omega) (by omega) (by omega), zb_chk, zI_ix (by omega) (by omega), Int.toNat_natCast, (lexR_w hl hw).1, if_neg (by simp (disch := omega) only [zk_bind, zk_chk, zk_bnd, zk_some, zlp_l, zlp_r, zb_some, zb_bnd, zI_add, zI_sub, zI_mul, zI_neg, zI_le, zI_lt, zI_eq, zI_ix, zI_inI, Int.toNat_natCast, Int.toNat_add, Int.toNat_mul, true_and, and_true]; omega)]
      by_cases c1 : ∀ i, i < k → kv 0 (zSg l w i) ≠ -1 ∧ kv 1 (zSg l w i) ≠ -1
      · have k0 := hk 0 _ (by decide) s1
        have k1 := hk 1 _ (by decide) s1
        rw [Nat.mul_zero, Nat.zero_add] at k0
        rw [Nat.mul_one] at k1
        rw [if_neg (by rw [zb_0]; exact not_not_intro c1), r_wordSign ho hl hw hkn, zb_some, r_isWhole (by omega) k0 k1 v0.1 v0.2 v1.1 v1.2, zb_some]
        by_cases c2 : kv 0 (zSg l w k) ≠ -1 ∧ kv 1 (zSg l w k) ≠ -1
        · rw [if_neg (by rw [zb_0]; exact not_not_intro c2), zk_bnd, zk_some, zI_add]
          refine hQ _ (Prod.ext ?_ (zI_inj (by omega)))
          dsimp only
          rw [zb_t (fun i hi => by by_cases he : i = k; · rw [he]; exact c2
                                   · exact c1 i (by omega))]
          rfl
        · rw [if_pos (by rw [zb_0]; exact c2), zk_bnd, zk_some, zI_add]
          refine hQ _ (Prod.ext ?_ (zI_inj (by omega)))
          dsimp only
          rw [zb_f (fun hh => c2 (hh k (by omega)))]
          rfl
      · rw [if_pos (by rw [zb_0]; exact c1), zk_bnd, zk_some, zI_add]
        refine hQ _ (Prod.ext ?_ (zI_inj (by omega)))
        dsimp only
        rw [zb_f (fun hh => c1 (fun i hi => hh i (by omega)))]
        rfl
    · rintro x rfl
      refine ⟨zI (zb (∀ i, i < zN l w → kv 0 (zSg l w i) ≠ -1 ∧ kv 1 (zSg l w i) ≠ -1)), ?_, ?_⟩
      · unfold f_X12_hitsNow_L17
        dsimp only
        rw [zI_inI (by omega) (by omega) (by omega), zb_chk, zI_ix (by omega) (by omega), Int.toNat_natCast, (lexR_w hl hw).1, if_pos (by simp (disch := omega) only [zk_bind, zk_chk, zk_bnd, zk_some, zlp_l, zlp_r, zb_some, zb_bnd, zI_add, zI_sub, zI_mul, zI_neg, zI_le, zI_lt, zI_eq, zI_ix, zI_inI, Int.toNat_natCast, Int.toNat_add, Int.toNat_mul, true_and, and_true]; omega)]
      · rw [zk_bind]
        refine zOk_forQ (fun n x => x = (zI ((zsum w (fun w => zsum N (fun n => zb (zagr l nl ny kv 1 n w ∧ zshp l ny n w))) + zsum n (fun n => zb (zagr l nl ny kv 1 n w ∧ zshp l ny n w)) : Nat) : Int), zI n)) N ?_ ?_ rfl
        · rintro n x hnN rfl Q hQ _
          have hiff := zagr_1 (l := l) (kv := kv) (w := w) (hn.2 n hnN).2.2
          have key : ∀ v : Nat, v ≤ 1 → v = zb (zagr l nl ny kv 1 n w ∧ zshp l ny n w) → zOk (f_X12_hitsNow_90_L61 M (zI w) (zI (zb (∀ i, i < zN l w → kv 0 (zSg l w i) ≠ -1 ∧ kv 1 (zSg l w i) ≠ -1))) (zI n) (zI ((zsum w (fun w => zsum N (fun n => zb (zagr l nl ny kv 1 n w ∧ zshp l ny n w))) + zsum n (fun n => zb (zagr l nl ny kv 1 n w ∧ zshp l ny n w)) : Nat) : Int)) (zI v)) Q := by
            intro v hv1 hv'
            unfold f_X12_hitsNow_90_L61
            rw [r_truth, zb_some, zk_bnd, zk_bnd, zk_some, zI_add]
            refine hQ _ (Prod.ext ?_ (zI_inj (by omega)))
            dsimp only
            rw [zsum_s (n := n), ← hv']
            by_cases h0 : v = 0
            · rw [if_pos (by rw [h0]; rfl), zI_add]; exact zI_inj (by omega)
            · rw [if_neg (by simp (disch := omega) only [zk_bind, zk_chk, zk_bnd, zk_some, zlp_l, zlp_r, zb_some, zb_bnd, zI_add, zI_sub, zI_mul, zI_neg, zI_le, zI_lt, zI_eq, zI_ix, zI_inI, Int.toNat_natCast, Int.toNat_add, Int.toNat_mul, true_and, and_true]; omega), zI_add]; exact zI_inj (by omega)
          unfold f_X12_hitsNow_L61 f_X12_hitsNow_89_L61
          dsimp only
          rw [hN.1, if_neg (by simp (disch := omega) only [zk_bind, zk_chk, zk_bnd, zk_some, zlp_l, zlp_r, zb_some, zb_bnd, zI_add, zI_sub, zI_mul, zI_neg, zI_le, zI_lt, zI_eq, zI_ix, zI_inI, Int.toNat_natCast, Int.toNat_add, Int.toNat_mul, true_and, and_true]; omega)]
          by_cases c1 : ∀ i, i < zN l w → kv 0 (zSg l w i) ≠ -1 ∧ kv 1 (zSg l w i) ≠ -1
          · rw [if_neg (by rw [zb_0]; exact not_not_intro c1), r_fitsName hF hn hN ho hl hS hv hk hnN hw, zb_some]
            by_cases c2 : zagr l nl ny kv 0 n w ∧ zshp l ny n w
            · rw [if_neg (by rw [zb_0]; exact not_not_intro c2)]
              exact key 1 (by omega) (zb_t ⟨hiff.mp ⟨c1, c2.1⟩, c2.2⟩).symm
            · rw [if_pos (by rw [zb_0]; exact c2)]
              exact key 0 (by omega) (zb_f (fun hh => c2 ⟨(hiff.mpr hh.1).2, hh.2⟩)).symm
          · rw [if_pos (by rw [zb_0]; exact c1)]
            exact key 0 (by omega) (zb_f (fun hh => c1 (hiff.mpr hh.1).1)).symm
        · rintro x rfl
          refine ⟨zI ((zsum w (fun w => zsum N (fun n => zb (zagr l nl ny kv 1 n w ∧ zshp l ny n w))) + zsum N (fun n => zb (zagr l nl ny kv 1 n w ∧ zshp l ny n w)) : Nat) : Int), ?_, ?_⟩
          · unfold f_X12_hitsNow_L61
            dsimp only
            rw [hN.1, if_pos (by simp (disch := omega) only [zk_bind, zk_chk, zk_bnd, zk_some, zlp_l, zlp_r, zb_some, zb_bnd, zI_add, zI_sub, zI_mul, zI_neg, zI_le, zI_lt, zI_eq, zI_ix, zI_inI, Int.toNat_natCast, Int.toNat_add, Int.toNat_mul, true_and, and_true]; omega)]
          · rw [zk_bnd, zk_some, zlp_l, zI_add]
            exact Prod.ext rfl (zI_inj (by omega))
    · exact Prod.ext (by rw [zb_t (fun i hi => absurd hi (Nat.not_lt_zero i))]; rfl) rfl
  · rintro x rfl
    unfold f_X12_hitsNow_L4
    dsimp only
    rw [hl.1, if_pos (by simp (disch := omega) only [zk_bind, zk_chk, zk_bnd, zk_some, zlp_l, zlp_r, zb_some, zb_bnd, zI_add, zI_sub, zI_mul, zI_neg, zI_le, zI_lt, zI_eq, zI_ix, zI_inI, Int.toNat_natCast, Int.toNat_add, Int.toNat_mul, true_and, and_true]; omega), zk_some, zlp_r, zk_some]
    unfold zhitN
    rw [zsum_swap]
