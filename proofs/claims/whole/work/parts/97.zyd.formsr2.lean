/-! ===== forms told: forms of the reference ===== deps: 97.zyc.formsr -/
/-- a fault was met in a form -/
def y4X (t : List Nat) (n : Nat) (fr : Nat → Nat) (b : Nat) (M0 E : ZMem) : Prop := y4F t n fr b ≠ 0 ∧ E.1 0 3 = zI (y4F t n fr b) ∧ (∃ p, p ≤ 301 ∧ E.1 0 2 = zI ((p : Nat) : Int)) ∧ zP zWr4 M0 E
theorem r_116 {t : List Nat} {n : Nat} {fr : Nat → Nat} {b : Nat} {M0 E : ZMem} (h : y4X t n fr b M0 E) : zOk (f_X12_readsForm_116 E) (y4X t n fr b M0) := by
  obtain ⟨h1, h2, ⟨p, p1, p2⟩, h4⟩ := h
  unfold f_X12_readsForm_116
  rw [zk_bnd, zk_some]
  exact ⟨h1, by rw [zm_In _ _ _ _ (by decide)]; exact h2, ⟨p, p1, by rw [zm_In _ _ _ _ (by decide)]; exact p2⟩, zP_I h4 rfl⟩
theorem r_96 {t : List Nat} {n : Nat} {fr : Nat → Nat} {b : Nat} {M0 E : ZMem} (hb3 : b ≤ 300) (h : y4X t n fr b M0 E) (x : Int32) : zOk (f_X12_readsForm_96 E x) (y4X t n fr b M0) := by
  have := y4F_le (t := t) (n := n) (fr := fr) hb3
  unfold f_X12_readsForm_96
  rw [r_isWr (by omega) h.2.1, zb_some, if_pos rfl]
  exact r_116 h
theorem r_readsForm {M : ZMem} {t : List Nat} {n : Nat} {fr : Nat → Nat} {b : Nat} (hb : okB t) (ht : tapeR t M) (hb3 : b ≤ 300) (hb32 : zch t b ≠ 32) (h2 : M.1 0 2 = zI b) (h3 : M.1 0 3 = zI (-1)) (hn : n ≤ 20) (h5 : M.1 0 5 = zI n) (ho : ∀ m, m < n → ∀ r, r < 5 → M.1 3 (5 * m + r) = zI (fr (5 * m + r))) (hr : ∀ m, m < n → ∀ r, r < 5 → fr (5 * m + r) < 32) : zOk (f_X12_readsForm M) (fun E => (y4F t n fr b = 0 ∧ zP zWr4 M E ∧ E.1 0 2 = zI ((y4e t b + 1 : Nat) : Int) ∧ E.1 0 3 = zI (-1) ∧ E.1 0 5 = zI ((n + 1 : Nat) : Int) ∧ (∀ r, r < 5 → E.1 3 (5 * n + r) = zI (y4v t b r)) ∧ ∀ j, j < 5 * n → E.1 3 j = M.1 3 j) ∨ y4X t n fr b M E) := by
  have hl := hb.1
  unfold f_X12_readsForm
  rw [h2, zk_bnd, zk_bind]
  have out : ∀ E : ZMem, y4X t n fr b M E → zOk (zbind (f_X12_isRight E) (fun r_58 => if r_58 = (zI 0) then f_X12_readsForm_96 E (zI b) else zbind (f_X12_blanks E) (fun M_65 => zbind (f_X12_sign M_65) (fun r_69 => if r_69 = (zI 59) then f_X12_readsForm_86 M_65 (zI b) else zbind (f_X12_fails M_65 (zI 1) (M_65.1 0 2)) (fun M_83 => f_X12_readsForm_86 M_83 (zI b)))))) (fun E => (y4F t n fr b = 0 ∧ zP zWr4 M E ∧ E.1 0 2 = zI ((y4e t b + 1 : Nat) : Int) ∧ E.1 0 3 = zI (-1) ∧ E.1 0 5 = zI ((n + 1 : Nat) : Int) ∧ (∀ r, r < 5 → E.1 3 (5 * n + r) = zI (y4v t b r)) ∧ ∀ j, j < 5 * n → E.1 3 j = M.1 3 j) ∨ y4X t n fr b M E) := by
    intro E hE
    have := y4F_le (t := t) (n := n) (fr := fr) hb3
    rw [r_isWr (by omega) hE.2.1, zb_some, if_pos rfl]
    exact zOk_mono (r_96 hb3 hE _) (fun E' h => Or.inr h)
  refine zOk_forQ (fun k (s : ZMem × Int32) => (s.2 = zI k ∧ s.1.1 0 2 = zI (y4p t b k) ∧ s.1.1 0 3 = zI (-1) ∧ s.1.1 0 5 = zI n ∧ (∀ j, j < k → y4f t n b j = 0) ∧ (∀ r, r < k → s.1.1 3 (5 * n + r) = zI (y4v t b r)) ∧ (∀ j, j < 5 * n → s.1.1 3 j = M.1 3 j) ∧ zP zWr4 M s.1) ∨ y4X t n fr b M s.1) 5 ?_ ?_ (Or.inl ⟨rfl, h2, h3, h5, fun j hj => absurd hj (Nat.not_lt_zero j), fun j hj => absurd hj (Nat.not_lt_zero j), fun j hj => rfl, zP_rf⟩)
  · rintro k ⟨s, x2⟩ hk (⟨e1, e2, e3, e4, e5, e6, e7, e8⟩ | hX) Q hQ hE
    · dsimp only at e1 e2 e3 e4 e6 e7 e8
      have hts := tapeR_4 e8 ht
      have hp := y4p_le (t := t) hb3 k
      have hs := y4s_le (t := t) hb3 k
      have hpe : y4D t (y4B t (y4p t b k)) = y4p t b (k + 1) := rfl
      have hve : y4V t (y4B t (y4p t b k)) (y4p t b (k + 1) - y4B t (y4p t b k)) = y4v t b k := rfl
      have hf : y4f t n b k = if y4p t b (k + 1) = y4s t b k then 8 * y4s t b k + 1 else if 31 < y4v t b k then 8 * y4s t b k + 2 else if n = 20 then 8 * y4s t b k + 3 else 0 := rfl
      unfold f_X12_readsForm_L7
      dsimp only
      rw [e1, if_neg (by simp (disch := omega) only [zk_bind, zk_chk, zk_bnd, zk_some, zlp_l, zlp_r, zb_some, zb_bnd, zI_add, zI_sub, zI_mul, zI_neg, zI_le, zI_lt, zI_eq, zI_ix, zI_inI, Int.toNat_natCast, Int.toNat_add, Int.toNat_mul, true_and, and_true]; omega), r_isR e3, zb_some, if_neg (by decide), zk_bind]
      refine zOk_mono (r_number hb hts hp e2 e3) (fun r q => ?_)
      obtain ⟨q1, ⟨p, p1, p2⟩, q2⟩ := q
      rw [hpe, hve, show y4B t (y4p t b k) = y4s t b k from rfl] at q2
      have p8 := zP_tr e8 (z023_4 q1)
      rw [e4, zI_mul, zI_add, zI_inI (by omega) (by omega) (by omega), zb_chk, zk_bnd, zI_ix (by omega) (by omega), show (5 * (n : Int) + (k : Int)).toNat = 5 * n + k by omega]
      have w5 : (zstI r.1 3 (5 * n + k) r.2).1 0 5 = zI n := by rw [zm_Iq _ _ _ _ (by decide), q1.1 0 5 rfl]; exact e4
      have w3 : (zstI r.1 3 (5 * n + k) r.2).1 0 3 = r.1.1 0 3 := by rw [zm_Iq _ _ _ _ (by decide)]
      have w2 : (zstI r.1 3 (5 * n + k) r.2).1 0 2 = r.1.1 0 2 := by rw [zm_Iq _ _ _ _ (by decide)]
      have wP : zP zWr4 M (zstI r.1 3 (5 * n + k) r.2) := zP_I p8 rfl
      rw [w5]
      have bad : ∀ f : Nat, f < 3000 → f ≠ 0 → r.1.1 0 3 = zI f → y4f t n b k = f → zOk (if zI (n : Int) = zI 20 then zbind (f_X12_fails (zstI r.1 3 (5 * n + k) r.2) (zI 3) (zI b)) (fun M_48 => zbnd (zI (k : Int) + zI 1) (fun x2_51 => some (.inl (M_48, x2_51)))) else zbnd (zI (k : Int) + zI 1) (fun x2_51 => some (.inl (zstI r.1 3 (5 * n + k) r.2, x2_51)))) Q := by
        intro f hf3 hf0 hr3 hff
        have hF := y4F_1 (fr := fr) hk e5 (by rw [hff]; exact hf0)
        have hX : y4X t n fr b M (zstI r.1 3 (5 * n + k) r.2) := ⟨by rw [hF, hff]; exact hf0, by rw [hF, hff, w3]; exact hr3, ⟨p, by omega, by rw [w2]; exact p2⟩, wP⟩
        rw [r_stay hf3 (by rw [w3]; exact hr3), zb_some, ite_self, zk_bnd, zk_some]
        exact hQ _ (Or.inr hX)
      rcases q2 with ⟨c1, c2⟩ | ⟨c1, c2, c3⟩ | ⟨c1, c2, c3, c4, c5⟩
      · rw [if_pos c1] at hf
        exact bad _ (by omega) (by omega) c2 hf
      · rw [if_neg c1, if_pos c2] at hf
        exact bad _ (by omega) (by omega) c3 hf
      · rw [if_neg c1, if_neg (by omega)] at hf
        by_cases hn20 : n = 20
        · rw [if_pos hn20] at hf
          have hk0 : k = 0 := by
            apply Classical.byContradiction
            intro hh
            exact (y4f_0 (e5 0 (by omega))).2.2 hn20
          have hsb : y4s t b k = b := by
            rw [hk0]
            show y4B t b = b
            exact y4B_of (Nat.le_refl b) hb3 (fun l h1 h2 => by omega) (Or.inr hb32)
          have hF := y4F_1 (fr := fr) hk e5 (by rw [hf]; omega)
          unfold f_X12_fails
          rw [if_pos (by rw [hn20]; rfl), w3, c3, if_pos rfl, zI_mul, zI_add, zb_bnd, zb_some, zk_bnd, zk_some]
          refine hQ _ (Or.inr ⟨by rw [hF, hf]; omega, ?_, ⟨p, by omega, ?_⟩, zP_I wP rfl⟩)
          · rw [hF, hf, hsb, zm_Is]
            exact zI_inj (by omega)
          · rw [zm_In _ _ _ _ (by decide), w2]
            exact p2
        · rw [if_neg hn20] at hf
          rw [if_neg (by simp (disch := omega) only [zk_bind, zk_chk, zk_bnd, zk_some, zlp_l, zlp_r, zb_some, zb_bnd, zI_add, zI_sub, zI_mul, zI_neg, zI_le, zI_lt, zI_eq, zI_ix, zI_inI, Int.toNat_natCast, Int.toNat_add, Int.toNat_mul, true_and, and_true]; omega), zI_add, zk_bnd, zk_some]
          refine hQ _ (Or.inl ⟨zI_inj (by omega), by rw [w2]; exact c4, by rw [w3]; exact c3, w5, fun j hj => ?_, fun r' hr' => ?_, fun j hj => ?_, wP⟩)
          · by_cases hjk : j = k
            · rw [hjk]; exact hf
            · exact e5 j (by omega)
          · dsimp only
            by_cases hrk : r' = k
            · rw [hrk, zm_Is]; exact c5
            · rw [zm_In _ _ _ _ (by omega), q1.1 3 _ rfl]
              exact e6 r' (by omega)
          · dsimp only
            rw [zm_In _ _ _ _ (by omega), q1.1 3 _ rfl]
            exact e7 j hj
    · dsimp only at hX
      have := y4F_le (t := t) (n := n) (fr := fr) hb3
      unfold f_X12_readsForm_L7
      dsimp only
      rw [r_isWr (by omega) hX.2.1, zb_some, if_pos rfl, ite_self, zk_some]
      exact hE _ (out s hX)
  · rintro ⟨s, x2⟩ (⟨e1, e2, e3, e4, e5, e6, e7, e8⟩ | hX)
    · dsimp only at e1 e2 e3 e4 e6 e7 e8
      refine ⟨s, ?_, ?_⟩
      · unfold f_X12_readsForm_L7
        dsimp only
        rw [e1, if_pos (by simp (disch := omega) only [zk_bind, zk_chk, zk_bnd, zk_some, zlp_l, zlp_r, zb_some, zb_bnd, zI_add, zI_sub, zI_mul, zI_neg, zI_le, zI_lt, zI_eq, zI_ix, zI_inI, Int.toNat_natCast, Int.toNat_add, Int.toNat_mul, true_and, and_true]; omega)]
      · have hts := tapeR_4 e8 ht
        have hp := y4p_le (t := t) hb3 5
        have he : y4e t b ≤ 300 := (y4B_le (t := t) hp).2
        have hv : ∀ r, r < 5 → y4v t b r < 32 := fun r hr => by have := (y4f_0 (e5 r hr)).2.1; omega
        have hn20 := (y4f_0 (e5 0 (by omega))).2.2
        have hz := zch_rng hb (y4e t b)
        rw [r_isR e3, zb_some, if_neg (by decide), zk_bind]
        refine zOk_mono (r_blanks hb hts (by omega) e2) (fun N g => ?_)
        obtain ⟨g1, g2⟩ := g
        have g1 : N.1 0 2 = zI ((y4e t b : Nat) : Int) := (g1 hp).1
        have p1 := zP_tr e8 (z023_4 (z02_3 g2))
        have n3 : N.1 0 3 = zI (-1) := by rw [g2.1 0 3 rfl]; exact e3
        have n5 : N.1 0 5 = zI n := by rw [g2.1 0 5 rfl]; exact e4
        rw [r_sign hb (tapeR_4 p1 ht) (by omega) g1, zb_some]
        by_cases c1 : zch t (y4e t b) = 59
        · have w3 : (zstI N 0 2 (zI ((y4e t b : Nat) : Int) + zI 1)).1 0 3 = zI (-1) := by rw [zm_In _ _ _ _ (by decide)]; exact n3
          have w5 : (zstI N 0 2 (zI ((y4e t b : Nat) : Int) + zI 1)).1 0 5 = zI n := by rw [zm_In _ _ _ _ (by decide)]; exact n5
          have wn : ∀ r, r < 5 → (zstI N 0 2 (zI ((y4e t b : Nat) : Int) + zI 1)).1 3 (5 * n + r) = zI (y4v t b r) := fun r hr' => by rw [zm_Iq _ _ _ _ (by decide), g2.1 3 _ rfl]; exact e6 r hr'
          have wo : ∀ j, j < 5 * n → (zstI N 0 2 (zI ((y4e t b : Nat) : Int) + zI 1)).1 3 j = M.1 3 j := fun j hj => by rw [zm_Iq _ _ _ _ (by decide), g2.1 3 _ rfl]; exact e7 j hj
          have w2 : (zstI N 0 2 (zI ((y4e t b : Nat) : Int) + zI 1)).1 0 2 = zI ((y4e t b + 1 : Nat) : Int) := by rw [zm_Is, zI_add]; exact zI_inj (by omega)
          have wP : zP zWr4 M (zstI N 0 2 (zI ((y4e t b : Nat) : Int) + zI 1)) := zP_I p1 rfl
          rw [if_pos (by rw [c1])]
          unfold f_X12_readsForm_86
          rw [g1, zk_bnd]
          generalize zstI N 0 2 (zI ((y4e t b : Nat) : Int) + zI 1) = N2 at w3 w5 wn wo w2 wP ⊢
          unfold f_X12_readsForm_96
          rw [r_isR w3, zb_some, if_neg (by decide), r_isTold hn w5 (fun m hm r hr' => by rw [wo _ (by omega)]; exact ho m hm r hr') wn hr hv, zb_some, show (∃ m, m < n ∧ ∀ r, r < 5 → fr (5 * m + r) = y4v t b r) = y4d t n fr b from rfl]
          by_cases hd : y4d t n fr b
          · have hF := y4F_3 e5 c1 hd
            rw [if_neg (fun hh => zb_0.mp hh hd)]
            unfold f_X12_fails
            rw [w3, if_pos rfl, zI_mul, zI_add, zb_bnd, zb_some]
            refine zOk_mono (r_116 (t := t) (n := n) (fr := fr) (b := b) (M0 := M) ⟨by omega, ?_, ⟨y4e t b + 1, by omega, ?_⟩, zP_I wP rfl⟩) (fun E' h => Or.inr h)
            · rw [hF, zm_Is]
              exact zI_inj (by omega)
            · rw [zm_In _ _ _ _ (by decide)]
              exact w2
          · have hF := y4F_0 e5 c1 hd
            rw [if_pos (zb_0.mpr hd)]
            unfold f_X12_readsForm_116
            rw [w5, zI_add, zk_bnd, zk_some]
            refine Or.inl ⟨hF, zP_I wP rfl, ?_, ?_, ?_, fun r hr' => ?_, fun j hj => ?_⟩
            · rw [zm_In _ _ _ _ (by decide)]; exact w2
            · rw [zm_In _ _ _ _ (by decide)]; exact w3
            · rw [zm_Is]; exact zI_inj (by omega)
            · rw [zm_Iq _ _ _ _ (by decide)]; exact wn r hr'
            · rw [zm_Iq _ _ _ _ (by decide)]; exact wo j hj
        · have hF := y4F_2 (fr := fr) e5 c1
          rw [if_neg (by simp (disch := omega) only [zk_bind, zk_chk, zk_bnd, zk_some, zlp_l, zlp_r, zb_some, zb_bnd, zI_add, zI_sub, zI_mul, zI_neg, zI_le, zI_lt, zI_eq, zI_ix, zI_inI, Int.toNat_natCast, Int.toNat_add, Int.toNat_mul, true_and, and_true]; omega)]
          unfold f_X12_fails
          rw [n3, if_pos rfl, g1, zI_mul, zI_add, zb_bnd, zb_some]
          unfold f_X12_readsForm_86
          rw [zk_bnd]
          refine zOk_mono (r_96 (t := t) (n := n) (fr := fr) (b := b) (M0 := M) hb3 ⟨by omega, ?_, ⟨y4e t b + 1, by omega, ?_⟩, zP_I (zP_I p1 rfl) rfl⟩ _) (fun E' h => Or.inr h)
          · rw [hF, zm_In _ _ _ _ (by decide), zm_Is]
            exact zI_inj (by omega)
          · rw [zm_Is, zm_In _ _ _ _ (by decide), g1, zI_add]
            exact zI_inj (by omega)
    · dsimp only at hX
      have := y4F_le (t := t) (n := n) (fr := fr) hb3
      refine ⟨s, ?_, out s hX⟩
      unfold f_X12_readsForm_L7
      dsimp only
      rw [r_isWr (by omega) hX.2.1, zb_some, if_pos rfl, ite_self]
