/-! ===== the match of the class ===== deps: 97.s.fitc -/
def vkC (kv : Nat → Nat → Int) (C : ZMem) : Prop := ∀ s, s < 20 → C.1 50 s = zI (kv 0 s) ∧ C.1 51 s = zI (kv 1 s)
noncomputable def zwhl (kv : Nat → Nat → Int) : List Nat := zfil (fun s => kv 0 s ≠ -1 ∧ kv 1 s ≠ -1) 20
def whlC (kv : Nat → Nat → Int) (C : ZMem) : Prop := C.1 54 7 = zI ((zwhl kv).length : Int) ∧ zArr C 58 (zwhl kv)
def fitC (l : List (Nat × Nat)) (N : Nat) (nl ny : Nat → Nat) (kv : Nat → Nat → Int) (C : ZMem) : Prop := ∀ n w, n < N → w < l.length → C.1 55 (120 * n + w) = zI (zb (zagr l nl ny kv 0 n w ∧ zshp l ny n w))
def matC (l : List (Nat × Nat)) (N : Nat) (nl ny : Nat → Nat) (kv : Nat → Nat → Int) (C : ZMem) : Prop := mchC kv C ∧ whlC kv C ∧ fitC l N nl ny kv C ∧ C.1 54 8 = zI (zhitN l N nl ny kv)
def zWmat (a k : Nat) : Bool := a == 55 || a == 56 || a == 57 || a == 58 || (a == 54 && (k == 7 || k == 8))
theorem c_takeKnown {M : ZMem} {kv : Nat → Nat → Int} (h : vkC kv M) : zOk (f_X3_takeKnown M) (fun M' => mchC kv M' ∧ zP (fun a _ => a == 56 || a == 57) M M') := by
  unfold f_X3_takeKnown
  rw [zk_bind]
  refine zOk_for0 (fun i x => x.2 = zI i ∧ zP (fun a _ => a == 56 || a == 57) M x.1 ∧ ∀ s, s < i → x.1.1 56 s = zI (kv 0 s) ∧ x.1.1 57 s = zI (kv 1 s)) 20 ?_ ?_ ⟨rfl, zP_rf, fun s hs => absurd hs (Nat.not_lt_zero s)⟩
  · rintro i ⟨x1, x2⟩ hi ⟨e1, e2, e3⟩
    dsimp only at e1 e2 e3
    unfold f_X3_takeKnown_L2 f_X9_consonantOf f_X9_vowelOf
    dsimp only
    rw [e1, if_neg (by simp (disch := omega) only [zk_bind, zk_chk, zk_bnd, zk_some, zlp_l, zlp_r, zb_some, zb_bnd, zI_add, zI_sub, zI_mul, zI_neg, zI_le, zI_lt, zI_eq, zI_ix, zI_inI, Int.toNat_natCast, Int.toNat_add, Int.toNat_mul, true_and, and_true]; omega), c_isPlace9 hi, zb_some, if_neg (by decide), zI_inI (by omega) (by omega) (by omega), zb_chk, zb_some, zb_chk, zk_bnd, c_isPlace9 hi, zb_some, if_neg (by decide), zb_chk, zb_some, zb_chk, zk_bnd, zk_bnd, zk_some, zlp_l, zI_ix (by omega) (by omega), Int.toNat_natCast, zm_Iq _ _ _ _ (by decide), e2.1 50 i rfl, e2.1 51 i rfl, (h i hi).1, (h i hi).2, zI_add]
    refine ⟨zI_inj (by omega), zP_I (zP_I e2 rfl) rfl, fun s hs => ?_⟩
    by_cases he : s = i
    · rw [he]
      exact ⟨by rw [zm_Iq _ _ _ _ (by decide), zm_Is], by rw [zm_Is]⟩
    · exact ⟨by rw [zm_Iq _ _ _ _ (by decide), zm_In _ _ _ _ he]; exact (e3 s (by omega)).1, by rw [zm_In _ _ _ _ he, zm_Iq _ _ _ _ (by decide)]; exact (e3 s (by omega)).2⟩
  · rintro ⟨x1, x2⟩ ⟨e1, e2, e3⟩
    dsimp only at e1 e2 e3
    unfold f_X3_takeKnown_L2
    dsimp only
    rw [e1, if_pos (by simp (disch := omega) only [zk_bind, zk_chk, zk_bnd, zk_some, zlp_l, zlp_r, zb_some, zb_bnd, zI_add, zI_sub, zI_mul, zI_neg, zI_le, zI_lt, zI_eq, zI_ix, zI_inI, Int.toNat_natCast, Int.toNat_add, Int.toNat_mul, true_and, and_true]; omega), zk_some, zlp_r, zk_some]
    exact ⟨e3, e2⟩
theorem c_bothKnown {M : ZMem} {kv : Nat → Nat → Int} (hv : okV kv) (h : vkC kv M) {s : Nat} (hs : s < 20) : f_X9_bothKnown M (zI s) = some (zI (zb (kv 0 s ≠ -1 ∧ kv 1 s ≠ -1))) := by
  have v0 := hv 0 s
  have v1 := hv 1 s
  unfold f_X9_bothKnown
  rw [c_isPlace9 hs, zb_some, if_neg (by decide), zI_inI (by omega) (by omega) (by omega), zb_chk, zb_chk, zI_ix (by omega) (by omega), Int.toNat_natCast, (h s hs).1, (h s hs).2]
  by_cases c0 : kv 0 s = -1
  · rw [if_pos (by rw [c0]), zb_f (fun hh => hh.1 c0)]; rfl
  · rw [if_neg (by simp (disch := omega) only [zk_bind, zk_chk, zk_bnd, zk_some, zlp_l, zlp_r, zb_some, zb_bnd, zI_add, zI_sub, zI_mul, zI_neg, zI_le, zI_lt, zI_eq, zI_ix, zI_inI, Int.toNat_natCast, Int.toNat_add, Int.toNat_mul, true_and, and_true]; omega)]
    by_cases c1 : kv 1 s = -1
    · rw [if_pos (by rw [c1]), zb_f (fun hh => hh.2 c1)]; rfl
    · rw [if_neg (by simp (disch := omega) only [zk_bind, zk_chk, zk_bnd, zk_some, zlp_l, zlp_r, zb_some, zb_bnd, zI_add, zI_sub, zI_mul, zI_neg, zI_le, zI_lt, zI_eq, zI_ix, zI_inI, Int.toNat_natCast, Int.toNat_add, Int.toNat_mul, true_and, and_true]; omega), zb_t ⟨c0, c1⟩]; rfl
theorem namesC_x {N : Nat} {nl ny : Nat → Nat} {M0 M : ZMem} (h0 : M.1 17 2 = M0.1 17 2) (h1 : ∀ k, M.1 18 k = M0.1 18 k) (h2 : ∀ k, M.1 19 k = M0.1 19 k) (h : namesC N nl ny M0) : namesC N nl ny M := ⟨by rw [h0]; exact h.1, fun n hn => ⟨by rw [h2]; exact (h.2 n hn).1, fun k hk => by rw [h1]; exact (h.2 n hn).2 k hk⟩⟩
theorem lexW_y {l : List (Nat × Nat)} {M0 M : ZMem} (h0 : M.1 34 6 = M0.1 34 6) (h1 : ∀ k, M.1 36 k = M0.1 36 k) (h2 : ∀ k, M.1 37 k = M0.1 37 k) (h3 : M.2 35 = M0.2 35) (h : lexW l M0) : lexW l M := ⟨lexC_x h0 h1 h3 h.1, fun i hi => by rw [h2]; exact h.2 i hi⟩
theorem c_matSettle {M : ZMem} {N : Nat} {nl ny : Nat → Nat} {l : List (Nat × Nat)} {kv : Nat → Nat → Int} (hn : okN N nl ny) (hN : namesC N nl ny M) (ho : okL l) (hl : lexW l M) (hv : okV kv) (hk : vkC kv M) : zOk (f_X3_settle M) (fun M' => matC l N nl ny kv M' ∧ zP zWmat M M') := by
  have hN4 := hn.1
  have hlen := ho.1
  unfold f_X3_settle
  rw [zk_bnd, zk_bind]
  refine zOk_forQ (fun i x => x.2 = zI i ∧ zP zWmat M x.1 ∧ x.1.1 54 7 = zI ((zfil (fun s => kv 0 s ≠ -1 ∧ kv 1 s ≠ -1) i).length : Int) ∧ zArr x.1 58 (zfil (fun s => kv 0 s ≠ -1 ∧ kv 1 s ≠ -1) i)) 20 ?_ ?_ ⟨rfl, zP_I zP_rf rfl, by rw [zm_Is]; rfl, fun i hi => absurd hi (Nat.not_lt_zero i)⟩
  · rintro i ⟨x1, x2⟩ hi ⟨e1, e2, e3, e4⟩ Q hQ _
    dsimp only at e1 e2 e3 e4
    have hk1 : vkC kv x1 := fun s hs => by rw [e2.1 50 s rfl, e2.1 51 s rfl]; exact hk s hs
    have hle := zfil_le (fun s => kv 0 s ≠ -1 ∧ kv 1 s ≠ -1) i
    unfold f_X3_settle_L7
    dsimp only
    rw [e1, if_neg (by simp (disch := omega) only [zk_bind, zk_chk, zk_bnd, zk_some, zlp_l, zlp_r, zb_some, zb_bnd, zI_add, zI_sub, zI_mul, zI_neg, zI_le, zI_lt, zI_eq, zI_ix, zI_inI, Int.toNat_natCast, Int.toNat_add, Int.toNat_mul, true_and, and_true]; omega), c_bothKnown hv hk1 hi, zb_some]
    by_cases c : kv 0 i ≠ -1 ∧ kv 1 i ≠ -1
    · have hs := zfil_t (P := fun s => kv 0 s ≠ -1 ∧ kv 1 s ≠ -1) (N := i) c
      rw [if_neg (by rw [zb_0]; exact not_not_intro c), e3, zI_inI (by omega) (by omega) (by omega), zb_chk, zk_bnd, zk_bnd, zk_bnd, zk_some, zI_ix (by omega) (by omega), Int.toNat_natCast, zm_Iq _ _ _ _ (by decide), e3, zI_add, zI_add]
      refine hQ _ ⟨zI_inj (by omega), zP_I (zP_I e2 rfl) rfl, ?_, ?_⟩
      · rw [zm_Is, hs, List.length_append, List.length_singleton]
        exact zI_inj (by omega)
      · rw [hs]
        refine zArr_snoc e4 (by rw [zm_Iq _ _ _ _ (by decide), zm_Is]) (fun j hj => by rw [zm_Iq _ _ _ _ (by decide), zm_In _ _ _ _ (by omega)])
    · have hs := zfil_f (P := fun s => kv 0 s ≠ -1 ∧ kv 1 s ≠ -1) (N := i) c
      rw [if_pos (by rw [zb_0]; exact c), zk_bnd, zk_some, zI_add]
      exact hQ _ ⟨zI_inj (by omega), e2, by rw [hs]; exact e3, by rw [hs]; exact e4⟩
  · rintro ⟨x1, x2⟩ ⟨e1, e2, e3, e4⟩
    dsimp only at e1 e2 e3 e4
    have hk1 : vkC kv x1 := fun s hs => by rw [e2.1 50 s rfl, e2.1 51 s rfl]; exact hk s hs
    refine ⟨x1, ?_, ?_⟩
    · unfold f_X3_settle_L7
      dsimp only
      rw [e1, if_pos (by simp (disch := omega) only [zk_bind, zk_chk, zk_bnd, zk_some, zlp_l, zlp_r, zb_some, zb_bnd, zI_add, zI_sub, zI_mul, zI_neg, zI_le, zI_lt, zI_eq, zI_ix, zI_inI, Int.toNat_natCast, Int.toNat_add, Int.toNat_mul, true_and, and_true]; omega)]
    · rw [zk_bind]
      refine zOk_mono (c_takeKnown hk1) (fun M1 h1 => ?_)
      obtain ⟨h1a, h1b⟩ := h1
      have p1 : zP zWmat M M1 := zP_tr e2 (zP_mono h1b (fun a k ha => by unfold zWmat at ha; simp at ha ⊢; omega))
      have hwh : whlC kv M1 := ⟨by rw [h1b.1 54 7 rfl]; exact e3, fun i hi => by rw [h1b.1 58 i rfl]; exact e4 i hi⟩
      rw [zk_bind]
      have hx : ∀ {M' : ZMem}, zP (fun a _ => a == 55) M1 M' → namesC N nl ny M' ∧ lexW l M' ∧ mchC kv M' := by
        intro M' hp
        have hp' : zP zWmat M M' := zP_tr p1 (zP_mono hp (fun a k ha => by unfold zWmat at ha; simp at ha ⊢; omega))
        exact ⟨namesC_x (hp'.1 17 2 rfl) (fun k => hp'.1 18 k rfl) (fun k => hp'.1 19 k rfl) hN, lexW_y (hp'.1 34 6 rfl) (fun k => hp'.1 36 k rfl) (fun k => hp'.1 37 k rfl) (by rw [hp'.2]) hl, fun s hs => by rw [hp.1 56 s rfl, hp.1 57 s rfl]; exact h1a s hs⟩
      refine zOk_for0 (fun n x => x.2 = zI n ∧ zP (fun a _ => a == 55) M1 x.1 ∧ ∀ n' w, n' < n → w < l.length → x.1.1 55 (120 * n' + w) = zI (zb (zagr l nl ny kv 0 n' w ∧ zshp l ny n' w))) N ?_ ?_ ⟨rfl, zP_rf, fun n w hn => absurd hn (Nat.not_lt_zero n)⟩
      · rintro n ⟨y1, y2⟩ hnN ⟨d1, d2, d3⟩
        dsimp only at d1 d2 d3
        unfold f_X3_settle_L56 f_X4_told
        dsimp only
        rw [zb_some, (hx d2).1.1, d1, if_neg (by simp (disch := omega) only [zk_bind, zk_chk, zk_bnd, zk_some, zlp_l, zlp_r, zb_some, zb_bnd, zI_add, zI_sub, zI_mul, zI_neg, zI_le, zI_lt, zI_eq, zI_ix, zI_inI, Int.toNat_natCast, Int.toNat_add, Int.toNat_mul, true_and, and_true]; omega), zk_bind]
        refine zOk_forQ (fun w x => x.2 = zI w ∧ zP (fun a _ => a == 55) M1 x.1 ∧ ∀ n' w', (n' < n ∧ w' < l.length) ∨ (n' = n ∧ w' < w) → x.1.1 55 (120 * n' + w') = zI (zb (zagr l nl ny kv 0 n' w' ∧ zshp l ny n' w'))) l.length ?_ ?_ ⟨rfl, d2, fun n' w' hh => hh.elim (fun hh => d3 n' w' hh.1 hh.2) (fun hh => absurd hh.2 (Nat.not_lt_zero w'))⟩
        · rintro w ⟨u1, u2⟩ hw ⟨c1, c2, c3⟩ Q hQ _
          dsimp only at c1 c2 c3
          obtain ⟨hN', hl', hm'⟩ := hx c2
          have key : ∀ v : Nat, v ≤ 1 → v = zb (zagr l nl ny kv 0 n w ∧ zshp l ny n w) → zOk (f_X3_settle_122_L69 u1 (zI n) (zI w) (zI n * zI 120 + zI w) (zI v)) Q := by
            intro v hv1 hv
            unfold f_X3_settle_122_L69
            have hb : vp_nar .boolean (zI v) = zI v := by
              by_cases h0 : v = 0
              · rw [h0]; decide
              · rw [show v = 1 by omega]; decide
            rw [zI_mul, zI_add, zI_inI (by omega) (by omega) (by omega), zb_chk, zI_ix (by omega) (by omega), show ((n : Int) * 120 + w).toNat = 120 * n + w by omega, hb, zk_bnd, zk_bnd, zk_some, zI_add]
            refine hQ _ ⟨zI_inj (by omega), zP_I c2 rfl, fun n' w' hh => ?_⟩
            by_cases he : n' = n ∧ w' = w
            · rw [he.1, he.2, zm_Is, hv]
            · rw [zm_In _ _ _ _ (by omega)]
              exact c3 n' w' (by omega)
          unfold f_X3_settle_L69 f_X2_held f_X3_isPlace f_X3_settle_121_L69
          dsimp only
          rw [zb_some, hl'.1.1, c1, if_neg (by simp (disch := omega) only [zk_bind, zk_chk, zk_bnd, zk_some, zlp_l, zlp_r, zb_some, zb_bnd, zI_add, zI_sub, zI_mul, zI_neg, zI_le, zI_lt, zI_eq, zI_ix, zI_inI, Int.toNat_natCast, Int.toNat_add, Int.toNat_mul, true_and, and_true]; omega), if_neg (by simp (disch := omega) only [zk_bind, zk_chk, zk_bnd, zk_some, zlp_l, zlp_r, zb_some, zb_bnd, zI_add, zI_sub, zI_mul, zI_neg, zI_le, zI_lt, zI_eq, zI_ix, zI_inI, Int.toNat_natCast, Int.toNat_add, Int.toNat_mul, true_and, and_true]; omega), if_neg (by simp (disch := omega) only [zk_bind, zk_chk, zk_bnd, zk_some, zlp_l, zlp_r, zb_some, zb_bnd, zI_add, zI_sub, zI_mul, zI_neg, zI_le, zI_lt, zI_eq, zI_ix, zI_inI, Int.toNat_natCast, Int.toNat_add, Int.toNat_mul, true_and, and_true]; omega), if_neg (by simp (disch := omega) only [zk_bind, zk_chk, zk_bnd, zk_some, zlp_l, zlp_r, zb_some, zb_bnd, zI_add, zI_sub, zI_mul, zI_neg, zI_le, zI_lt, zI_eq, zI_ix, zI_inI, Int.toNat_natCast, Int.toNat_add, Int.toNat_mul, true_and, and_true]; omega), if_neg (by simp (disch := omega) only [zk_bind, zk_chk, zk_bnd, zk_some, zlp_l, zlp_r, zb_some, zb_bnd, zI_add, zI_sub, zI_mul, zI_neg, zI_le, zI_lt, zI_eq, zI_ix, zI_inI, Int.toNat_natCast, Int.toNat_add, Int.toNat_mul, true_and, and_true]; omega), zb_some, if_neg (by decide), show zI 0 = zI ((0 : Nat) : Int) from rfl, c_agrees hn hN' ho hl' hv hm' hnN hw (by omega), zb_some]
          by_cases k1 : zagr l nl ny kv 0 n w
          · rw [if_neg (by rw [show zI ((0 : Nat) : Int) = zI 0 from rfl, zb_0]; exact not_not_intro k1), c_hasShape hn hN' ho hl' hnN hw k1.1, zb_some]
            by_cases k2 : zshp l ny n w
            · rw [if_neg (by rw [show zI ((0 : Nat) : Int) = zI 0 from rfl, zb_0]; exact not_not_intro k2)]
              exact key 1 (by omega) (zb_t ⟨k1, k2⟩).symm
            · rw [if_pos (by rw [show zI ((0 : Nat) : Int) = zI 0 from rfl, zb_0]; exact k2)]
              exact key 0 (by omega) (zb_f (fun hh => k2 hh.2)).symm
          · rw [if_pos (by rw [show zI ((0 : Nat) : Int) = zI 0 from rfl, zb_0]; exact k1)]
            exact key 0 (by omega) (zb_f (fun hh => k1 hh.1)).symm
        · rintro ⟨u1, u2⟩ ⟨c1, c2, c3⟩
          dsimp only at c1 c2 c3
          refine ⟨u1, ?_, ?_⟩
          · unfold f_X3_settle_L69 f_X2_held
            dsimp only
            rw [zb_some, (hx c2).2.1.1.1, c1, if_pos (by simp (disch := omega) only [zk_bind, zk_chk, zk_bnd, zk_some, zlp_l, zlp_r, zb_some, zb_bnd, zI_add, zI_sub, zI_mul, zI_neg, zI_le, zI_lt, zI_eq, zI_ix, zI_inI, Int.toNat_natCast, Int.toNat_add, Int.toNat_mul, true_and, and_true]; omega)]
          · rw [zk_bnd, zk_some, zlp_l, zI_add]
            exact ⟨zI_inj (by omega), c2, fun n' w' hn' hw' => c3 n' w' (by omega)⟩
      · rintro ⟨y1, y2⟩ ⟨d1, d2, d3⟩
        dsimp only at d1 d2 d3
        obtain ⟨hN', hl', hm'⟩ := hx d2
        unfold f_X3_settle_L56 f_X4_told
        dsimp only
        rw [zb_some, hN'.1, d1, if_pos (by simp (disch := omega) only [zk_bind, zk_chk, zk_bnd, zk_some, zlp_l, zlp_r, zb_some, zb_bnd, zI_add, zI_sub, zI_mul, zI_neg, zI_le, zI_lt, zI_eq, zI_ix, zI_inI, Int.toNat_natCast, Int.toNat_add, Int.toNat_mul, true_and, and_true]; omega), zk_some, zlp_r, c_countHits hn hN' ho hl' hv hm', zb_some, zk_bnd, zk_some]
        refine ⟨⟨fun s hs => by rw [zm_Iq _ _ _ _ (by decide), zm_Iq _ _ _ _ (by decide)]; exact hm' s hs, ⟨by rw [zm_In _ _ _ _ (by decide), d2.1 54 7 rfl]; exact hwh.1, fun i hi => by rw [zm_Iq _ _ _ _ (by decide), d2.1 58 i rfl]; exact hwh.2 i hi⟩, fun n w hn' hw' => by rw [zm_Iq _ _ _ _ (by decide)]; exact d3 n w hn' hw', by rw [zm_Is]⟩, zP_I (zP_tr p1 (zP_mono d2 (fun a k ha => by unfold zWmat at ha; simp at ha ⊢; omega))) rfl⟩
