/-! ===== forms told: forms of the class ===== deps: 97.zy.forms -/
theorem y4h_lt {v : Nat → Nat} (h : ∀ r, r < 5 → v r < 32) : y4h v 5 < 33554432 := by
  have b0 := h 0 (by omega)
  have b1 := h 1 (by omega)
  have b2 := h 2 (by omega)
  have b3 := h 3 (by omega)
  have b4 := h 4 (by omega)
  show ((((0 * 32 + v 0) * 32 + v 1) * 32 + v 2) * 32 + v 3) * 32 + v 4 < 33554432
  omega
theorem c_isStaged {M : ZMem} {n : Nat} {fr v : Nat → Nat} (hn : n ≤ 20) (h8 : M.1 3 8 = zI n) (h5 : ∀ m, m < n → M.1 5 m = zI (zform fr m)) (hr : ∀ m, m < n → ∀ r, r < 5 → fr (5 * m + r) < 32) (hv : ∀ r, r < 5 → v r < 32) : f_X0_isStaged M (zI (y4h v 5)) = some (zI (zb (∃ m, m < n ∧ ∀ r, r < 5 → fr (5 * m + r) = v r))) := by
  have hh := y4h_lt hv
  unfold f_X0_isStaged
  refine zOk_is ?_
  rw [zk_bind]
  refine zOk_forQ (fun i s => s = zI i ∧ ∀ m, m < i → ¬ (∀ r, r < 5 → fr (5 * m + r) = v r)) n ?_ ?_ ⟨rfl, fun j hj => absurd hj (Nat.not_lt_zero j)⟩
  · rintro i s hi ⟨rfl, e2⟩ Q hQ hE
    have hf := zform_lt (hr i hi)
    unfold f_X0_isStaged_L2
    rw [h8, if_neg (by simp (disch := omega) only [zk_bind, zk_chk, zk_bnd, zk_some, zlp_l, zlp_r, zb_some, zb_bnd, zI_add, zI_sub, zI_mul, zI_neg, zI_le, zI_lt, zI_eq, zI_ix, zI_inI, Int.toNat_natCast, Int.toNat_add, Int.toNat_mul, true_and, and_true]; omega), zI_inI (by omega) (by omega) (by omega), zb_chk, zI_ix (by omega) (by omega), Int.toNat_natCast, h5 i hi]
    by_cases he : zform fr i = y4h v 5
    · rw [if_pos (by rw [he]), zk_some]
      refine hE _ ?_
      show zOk (some (zI 1)) _
      rw [zk_some, zb_t ⟨i, hi, (zform_inj (hr i hi) hv).mp he⟩]
      rfl
    · rw [if_neg (by simp (disch := omega) only [zk_bind, zk_chk, zk_bnd, zk_some, zlp_l, zlp_r, zb_some, zb_bnd, zI_add, zI_sub, zI_mul, zI_neg, zI_le, zI_lt, zI_eq, zI_ix, zI_inI, Int.toNat_natCast, Int.toNat_add, Int.toNat_mul, true_and, and_true]; omega), zk_bnd, zk_some, zI_add]
      refine hQ _ ⟨zI_inj (by omega), fun m hm => ?_⟩
      by_cases hmi : m = i
      · rw [hmi]; exact fun hh => he ((zform_inj (hr i hi) hv).mpr hh)
      · exact e2 m (by omega)
  · rintro s ⟨rfl, e2⟩
    refine ⟨.inl (), ?_, ?_⟩
    · unfold f_X0_isStaged_L2
      rw [h8, if_pos (by simp (disch := omega) only [zk_bind, zk_chk, zk_bnd, zk_some, zlp_l, zlp_r, zb_some, zb_bnd, zI_add, zI_sub, zI_mul, zI_neg, zI_le, zI_lt, zI_eq, zI_ix, zI_inI, Int.toNat_natCast, Int.toNat_add, Int.toNat_mul, true_and, and_true]; omega)]
    · show zOk (some (zI 0)) _
      rw [zk_some, zb_f (fun hh => by obtain ⟨m, h1, h2⟩ := hh; exact e2 m h1 h2)]
      rfl
theorem c_stageForm {M : ZMem} {t : List Nat} {n : Nat} {fr : Nat → Nat} {b : Nat} (hb : okB t) (ht : tapeC t M) (hb3 : b ≤ 300) (h9 : M.1 3 9 = zI b) (hn : n ≤ 20) (h8 : M.1 3 8 = zI n) (h5 : ∀ m, m < n → M.1 5 m = zI (zform fr m)) (hr : ∀ m, m < n → ∀ r, r < 5 → fr (5 * m + r) < 32) : zOk (f_X0_stageForm M) (fun r => zP zW4 M r.1 ∧ ((y4F t n fr b = 0 ∧ r.2 = zI 0 ∧ r.1.1 3 9 = zI ((y4e t b + 1 : Nat) : Int) ∧ r.1.1 3 8 = zI ((n + 1 : Nat) : Int) ∧ r.1.1 5 n = zI (y4h (y4v t b) 5) ∧ ∀ m, m < n → r.1.1 5 m = M.1 5 m) ∨ (y4F t n fr b ≠ 0 ∧ r.2 = zI (-2 - (y4F t n fr b : Int))))) := by
  have hl := hb.1
  unfold f_X0_stageForm
  rw [h9, zk_bnd, zk_bind]
  refine zOk_forQ (fun k s => s.2.2 = zI k ∧ s.2.1 = zI (y4h (y4v t b) k) ∧ s.1.1 3 9 = zI (y4p t b k) ∧ (∀ j, j < k → y4f t n b j = 0) ∧ zP z39 M s.1) 5 ?_ ?_ ⟨rfl, rfl, h9, fun j hj => absurd hj (Nat.not_lt_zero j), zP_rf⟩
  · rintro k ⟨s, x3, x4⟩ hk ⟨e1, e2, e3, e4, e5⟩ Q hQ hE
    dsimp only at e1 e2 e3 e5
    have hts := tapeC_39 (z39_4 e5) ht
    have hp := y4p_le (t := t) hb3 k
    have hs := y4s_le (t := t) hb3 k
    have hd := y4D_le (t := t) hs
    have fault : ∀ N : ZMem, zP z39 M N → y4f t n b k ≠ 0 → Q (.inr (.inr (N, zI (-2 - (y4f t n b k : Int))))) := by
      intro N hN hf
      refine hE _ ?_
      show zOk (some (N, zI (-2 - (y4f t n b k : Int)))) _
      rw [zk_some]
      have := y4F_1 (fr := fr) hk e4 hf
      exact ⟨z39_4 hN, Or.inr ⟨by rw [this]; exact hf, by rw [this]⟩⟩
    unfold f_X0_stageForm_L10
    dsimp only
    rw [e1, if_neg (by simp (disch := omega) only [zk_bind, zk_chk, zk_bnd, zk_some, zlp_l, zlp_r, zb_some, zb_bnd, zI_add, zI_sub, zI_mul, zI_neg, zI_le, zI_lt, zI_eq, zI_ix, zI_inI, Int.toNat_natCast, Int.toNat_add, Int.toNat_mul, true_and, and_true]; omega), zk_bind]
    refine zOk_mono (c_skip hb hts hp e3) (fun N1 g => ?_)
    obtain ⟨g1, g2⟩ := g
    have g1 : N1.1 3 9 = zI ((y4s t b k : Nat) : Int) := g1
    have p1 := zP_tr e5 g2
    rw [zk_bnd, zk_bind, g1]
    refine zOk_mono (c_number hb (tapeC_39 (z39_4 p1) ht) hs g1) (fun r q => ?_)
    obtain ⟨q1, q2, q3⟩ := q
    have p2 := zP_tr p1 q3
    have hf : y4f t n b k = if y4p t b (k + 1) = y4s t b k then 8 * y4s t b k + 1 else if 31 < y4v t b k then 8 * y4s t b k + 2 else if n = 20 then 8 * y4s t b k + 3 else 0 := rfl
    have hpe : y4p t b (k + 1) = y4D t (y4s t b k) := rfl
    have hve : y4v t b k = y4V t (y4s t b k) (y4D t (y4s t b k) - y4s t b k) := rfl
    rw [← hve] at q2
    rw [← hpe] at q1 hd
    unfold f_X11_faultAt
    rw [q1]
    by_cases c1 : y4p t b (k + 1) = y4s t b k
    · rw [if_pos c1] at hf
      rw [if_pos (by rw [c1]), zI_mul, zI_add, zI_sub, zb_some, zk_some]
      have := fault r.1 p2 (by omega)
      rw [hf] at this
      rw [show (8 * ((y4p t b (k + 1) : Nat) : Int) + 1) = ((8 * y4s t b k + 1 : Nat) : Int) by omega]
      exact this
    · rw [if_neg c1] at hf
      rw [if_neg (by simp (disch := omega) only [zk_bind, zk_chk, zk_bnd, zk_some, zlp_l, zlp_r, zb_some, zb_bnd, zI_add, zI_sub, zI_mul, zI_neg, zI_le, zI_lt, zI_eq, zI_ix, zI_inI, Int.toNat_natCast, Int.toNat_add, Int.toNat_mul, true_and, and_true]; omega), q2]
      by_cases c2 : 31 < y4v t b k
      · rw [if_pos c2] at hf
        rw [if_neg (by simp (disch := omega) only [zk_bind, zk_chk, zk_bnd, zk_some, zlp_l, zlp_r, zb_some, zb_bnd, zI_add, zI_sub, zI_mul, zI_neg, zI_le, zI_lt, zI_eq, zI_ix, zI_inI, Int.toNat_natCast, Int.toNat_add, Int.toNat_mul, true_and, and_true]; omega), zI_mul, zI_add, zI_sub, zb_some, zk_some]
        have := fault r.1 p2 (by omega)
        rw [hf] at this
        rw [show (8 * ((y4s t b k : Nat) : Int) + 2) = ((8 * y4s t b k + 2 : Nat) : Int) by omega]
        exact this
      · rw [if_neg c2] at hf
        rw [if_pos (by simp (disch := omega) only [zk_bind, zk_chk, zk_bnd, zk_some, zlp_l, zlp_r, zb_some, zb_bnd, zI_add, zI_sub, zI_mul, zI_neg, zI_le, zI_lt, zI_eq, zI_ix, zI_inI, Int.toNat_natCast, Int.toNat_add, Int.toNat_mul, true_and, and_true]; omega), p2.1 3 8 rfl, h8]
        by_cases c3 : n = 20
        · rw [if_pos c3] at hf
          rw [if_neg (by simp (disch := omega) only [zk_bind, zk_chk, zk_bnd, zk_some, zlp_l, zlp_r, zb_some, zb_bnd, zI_add, zI_sub, zI_mul, zI_neg, zI_le, zI_lt, zI_eq, zI_ix, zI_inI, Int.toNat_natCast, Int.toNat_add, Int.toNat_mul, true_and, and_true]; omega), zI_mul, zI_add, zI_sub, zb_some, zk_some]
          have := fault r.1 p2 (by omega)
          rw [hf] at this
          rw [show (8 * ((y4s t b k : Nat) : Int) + 3) = ((8 * y4s t b k + 3 : Nat) : Int) by omega]
          exact this
        · rw [if_neg c3] at hf
          rw [if_pos (by simp (disch := omega) only [zk_bind, zk_chk, zk_bnd, zk_some, zlp_l, zlp_r, zb_some, zb_bnd, zI_add, zI_sub, zI_mul, zI_neg, zI_le, zI_lt, zI_eq, zI_ix, zI_inI, Int.toNat_natCast, Int.toNat_add, Int.toNat_mul, true_and, and_true]; omega), e2, zI_mul, zI_add, zk_bnd, zI_add, zk_bnd, zk_some]
          refine hQ _ ⟨zI_inj (by omega), ?_, q1, fun j hj => ?_, p2⟩
          · show zI ((y4h (y4v t b) k : Int) * 32 + ((min 32 (y4v t b k) : Nat) : Int)) = zI ((y4h (y4v t b) k * 32 + y4v t b k : Nat) : Int)
            exact zI_inj (by omega)
          · by_cases hjk : j = k
            · rw [hjk]; exact hf
            · exact e4 j (by omega)
  · rintro ⟨s, x3, x4⟩ ⟨e1, e2, e3, e4, e5⟩
    dsimp only at e1 e2 e3 e5
    refine ⟨.inl (s, x3), ?_, ?_⟩
    · unfold f_X0_stageForm_L10
      dsimp only
      rw [e1, if_pos (by simp (disch := omega) only [zk_bind, zk_chk, zk_bnd, zk_some, zlp_l, zlp_r, zb_some, zb_bnd, zI_add, zI_sub, zI_mul, zI_neg, zI_le, zI_lt, zI_eq, zI_ix, zI_inI, Int.toNat_natCast, Int.toNat_add, Int.toNat_mul, true_and, and_true]; omega)]
    · have hts := tapeC_39 (z39_4 e5) ht
      have hp := y4p_le (t := t) hb3 5
      have he : y4e t b ≤ 300 := (y4B_le (t := t) hp).2
      have hv : ∀ r, r < 5 → y4v t b r < 32 := fun r hr => by have := (y4f_0 (e4 r hr)).2.1; omega
      have hn20 := (y4f_0 (e4 0 (by omega))).2.2
      have hz := zch_rng hb (y4e t b)
      show zOk (zbind (f_X0_skipBlanks s) (fun M_98 => zbind (f_X8_byteAt M_98 (M_98.1 3 9)) (fun r_106 => if r_106 = (zI 59) then zbnd (zstI M_98 3 9 ((M_98.1 3 9) + (zI 1))) (fun M_130 => zbind (f_X0_isStaged M_130 x3) (fun r_135 => if r_135 = (zI 0) then zchk (zin (M_130.1 3 8) 20) (zbnd (zstI M_130 5 (zix (M_130.1 3 8)) x3) (fun M_156 => zbnd (zstI M_156 3 8 ((M_156.1 3 8) + (zI 1))) (fun M_164 => some (M_164, (zI 0))))) else zbind (f_X11_faultAt M_130 (zI b) (zI 4)) (fun r_143 => some (M_130, r_143)))) else zbind (f_X11_faultAt M_98 (M_98.1 3 9) (zI 1)) (fun r_119 => some (M_98, r_119))))) _
      rw [zk_bind]
      refine zOk_mono (c_skip hb hts hp e3) (fun N g => ?_)
      obtain ⟨g1, g2⟩ := g
      have g1 : N.1 3 9 = zI ((y4e t b : Nat) : Int) := g1
      have p1 := zP_tr e5 g2
      unfold f_X11_faultAt
      rw [g1, c_byteAt hb (tapeC_39 (z39_4 p1) ht) (by omega), zb_some]
      by_cases c1 : zch t (y4e t b) = 59
      · have w8 : (zstI N 3 9 (zI ((y4e t b : Nat) : Int) + zI 1)).1 3 8 = zI n := by rw [zm_In _ _ _ _ (by decide), p1.1 3 8 rfl]; exact h8
        have w5 : ∀ m, (zstI N 3 9 (zI ((y4e t b : Nat) : Int) + zI 1)).1 5 m = M.1 5 m := fun m => by rw [zm_Iq _ _ _ _ (by decide), p1.1 5 m rfl]
        rw [if_pos (by rw [c1]), zk_bnd, e2, c_isStaged (v := y4v t b) hn w8 (fun m hm => by rw [w5]; exact h5 m hm) hr hv, zb_some, show (∃ m, m < n ∧ ∀ r, r < 5 → fr (5 * m + r) = y4v t b r) = y4d t n fr b from rfl]
        by_cases hd : y4d t n fr b
        · have hf := y4F_3 e4 c1 hd
          rw [if_neg (fun hh => zb_0.mp hh hd), zI_mul, zI_add, zI_sub, zb_some, zk_some]
          refine ⟨zP_I (z39_4 p1) rfl, Or.inr ⟨by omega, ?_⟩⟩
          rw [hf]
          exact zI_inj (by omega)
        · have hf := y4F_0 e4 c1 hd
          rw [if_pos (zb_0.mpr hd), w8, zI_inI (by omega) (by omega) (by omega), zb_chk, zk_bnd, zI_ix (by omega) (by omega), Int.toNat_natCast, zm_Iq _ _ _ _ (by decide), w8, zI_add, zI_add, zk_bnd, zk_some]
          refine ⟨zP_I (zP_I (zP_I (z39_4 p1) rfl) rfl) rfl, Or.inl ⟨hf, rfl, ?_, ?_, ?_, fun m hm => ?_⟩⟩
          · dsimp only
            rw [zm_In _ _ _ _ (by decide), zm_Iq _ _ _ _ (by decide), zm_Is]
            exact zI_inj (by omega)
          · dsimp only
            rw [zm_Is]
            exact zI_inj (by omega)
          · dsimp only
            rw [zm_Iq _ _ _ _ (by decide), zm_Is]
          · dsimp only
            rw [zm_Iq _ _ _ _ (by decide), zm_In _ _ _ _ (by omega), zm_Iq _ _ _ _ (by decide), p1.1 5 m rfl]
      · have hf := y4F_2 (fr := fr) e4 c1
        rw [if_neg (by simp (disch := omega) only [zk_bind, zk_chk, zk_bnd, zk_some, zlp_l, zlp_r, zb_some, zb_bnd, zI_add, zI_sub, zI_mul, zI_neg, zI_le, zI_lt, zI_eq, zI_ix, zI_inI, Int.toNat_natCast, Int.toNat_add, Int.toNat_mul, true_and, and_true]; omega), zI_mul, zI_add, zI_sub, zb_some, zk_some]
        refine ⟨z39_4 p1, Or.inr ⟨by omega, ?_⟩⟩
        rw [hf]
        exact zI_inj (by omega)
def zWke (a k : Nat) : Bool := a == 4 || a == 6 || a == 7 || a == 8 || (a == 3 && (k == 7 || k == 10))
theorem c_keep {M : ZMem} {n : Nat} {fr : Nat → Nat} (hn : n ≤ 20) (h8 : M.1 3 8 = zI n) (h5 : ∀ m, m < n → M.1 5 m = zI (zform fr m)) (hr : ∀ m, m < n → ∀ r, r < 5 → fr (5 * m + r) < 32) : zOk (f_X0_keepStaged M) (fun M' => formsC n fr M' ∧ treeC n fr 10400 M' ∧ zP zWke M M') := by
  unfold f_X0_keepStaged
  rw [zk_bnd, zcpI (by omega) (by omega) (by omega) (by omega) (by omega) (by omega) (by omega), zb_chk, zk_bnd, zk_bind, zI_ix (by omega) (by omega), zI_ix (by omega) (by omega), h8]
  have p0 : zP zWke M (zstF (zstI M 3 7 (zI n)) 4 (va_cpy ((zstI M 3 7 (zI n)).1 5) ((zstI M 3 7 (zI n)).1 4) (0 : Int).toNat (0 : Int).toNat (20 : Int).toNat)) := zP_F (zP_I zP_rf rfl) (fun k => rfl)
  have q7 : (zstF (zstI M 3 7 (zI n)) 4 (va_cpy ((zstI M 3 7 (zI n)).1 5) ((zstI M 3 7 (zI n)).1 4) (0 : Int).toNat (0 : Int).toNat (20 : Int).toNat)).1 3 7 = zI n := by rw [zm_Fq _ _ _ (by decide), zm_Is]
  have q4 : ∀ m, m < n → (zstF (zstI M 3 7 (zI n)) 4 (va_cpy ((zstI M 3 7 (zI n)).1 5) ((zstI M 3 7 (zI n)).1 4) (0 : Int).toNat (0 : Int).toNat (20 : Int).toNat)).1 4 m = zI (zform fr m) := by
    intro m hm
    rw [zm_Fs]
    unfold va_cpy
    rw [if_pos (by omega), show (0 : Int).toNat + (m - (0 : Int).toNat) = m by omega, zm_Iq _ _ _ _ (by decide)]
    exact h5 m hm
  generalize zstF (zstI M 3 7 (zI n)) 4 (va_cpy ((zstI M 3 7 (zI n)).1 5) ((zstI M 3 7 (zI n)).1 4) (0 : Int).toNat (0 : Int).toNat (20 : Int).toNat) = M1 at p0 q7 q4 ⊢
  -- what is done of the table
  refine zOk_for0 (fun i x => x.2 = zI i ∧ zP zWke M x.1 ∧ x.1.1 3 7 = zI n ∧ (∀ m, m < n → x.1.1 4 m = zI (zform fr m)) ∧ ∀ a b, a < n → b < n → min a b < i → x.1.1 6 (20 * a + b) = zI (zU fr a b)) n ?_ ?_ ⟨rfl, p0, q7, q4, fun a b _ _ h => absurd h (Nat.not_lt_zero _)⟩
  · rintro i ⟨N, x1⟩ hi ⟨e1, e2, e3, e4, e5⟩
    dsimp only at e1 e2 e3 e4 e5
    unfold f_X0_keepStaged_L25
    dsimp only
    rw [e1, e3, if_neg (by simp (disch := omega) only [zk_bind, zk_chk, zk_bnd, zk_some, zlp_l, zlp_r, zb_some, zb_bnd, zI_add, zI_sub, zI_mul, zI_neg, zI_le, zI_lt, zI_eq, zI_ix, zI_inI, Int.toNat_natCast, Int.toNat_add, Int.toNat_mul, true_and, and_true]; omega), zk_bind]
    refine zOk_forQ (fun j x => x.2 = zI ((i + j : Nat) : Int) ∧ zP zWke M x.1 ∧ x.1.1 3 7 = zI n ∧ (∀ m, m < n → x.1.1 4 m = zI (zform fr m)) ∧ ∀ a b, a < n → b < n → (min a b < i ∨ (min a b = i ∧ max a b < i + j)) → x.1.1 6 (20 * a + b) = zI (zU fr a b)) (n - i) ?_ ?_ ⟨rfl, e2, e3, e4, fun a b h1 h2 h3 => e5 a b h1 h2 (by omega)⟩
    · rintro j ⟨D, x2⟩ hj ⟨d1, d2, d3, d4, d5⟩ Q hQ _
      dsimp only at d1 d2 d3 d4 d5
      unfold f_X0_keepStaged_L35
      dsimp only
      rw [d1, d3, if_neg (by simp (disch := omega) only [zk_bind, zk_chk, zk_bnd, zk_some, zlp_l, zlp_r, zb_some, zb_bnd, zI_add, zI_sub, zI_mul, zI_neg, zI_le, zI_lt, zI_eq, zI_ix, zI_inI, Int.toNat_natCast, Int.toNat_add, Int.toNat_mul, true_and, and_true]; omega), zI_inI (by omega) (by omega) (by omega), zb_chk, zI_inI (by omega) (by omega) (by omega), zb_chk, zI_ix (by omega) (by omega), zI_ix (by omega) (by omega), Int.toNat_natCast, Int.toNat_natCast, d4 i hi, d4 (i + j) (by omega), c_leastUnlike (hr i hi) (hr (i + j) (by omega)), zb_some, zI_mul, zI_add, zI_inI (by omega) (by omega) (by omega), zb_chk, zk_bnd, zI_mul, zI_add, zI_inI (by omega) (by omega) (by omega), zb_chk, zk_bnd, zI_add, zk_bnd, zk_some, zI_ix (by omega) (by omega), zI_ix (by omega) (by omega), show ((i : Int) * 20 + ((i + j : Nat) : Int)).toNat = 20 * i + (i + j) by omega, show (((i + j : Nat) : Int) * 20 + (i : Int)).toNat = 20 * (i + j) + i by omega]
      refine hQ _ ⟨zI_inj (by omega), zP_I (zP_I d2 rfl) rfl, ?_, fun m hm => ?_, fun a b ha hb hab => ?_⟩
      · dsimp only
        rw [zm_Iq _ _ _ _ (by decide), zm_Iq _ _ _ _ (by decide)]
        exact d3
      · dsimp only
        rw [zm_Iq _ _ _ _ (by decide), zm_Iq _ _ _ _ (by decide)]
        exact d4 m hm
      · dsimp only
        by_cases h1 : a = i + j ∧ b = i
        · rw [h1.1, h1.2, zm_Is, zU_sym]
        · rw [zm_In _ _ _ _ (by omega)]
          by_cases h2 : a = i ∧ b = i + j
          · rw [h2.1, h2.2, zm_Is]
          · rw [zm_In _ _ _ _ (by omega)]
            exact d5 a b ha hb (by omega)
    · rintro ⟨D, x2⟩ ⟨d1, d2, d3, d4, d5⟩
      dsimp only at d1 d2 d3 d4 d5
      refine ⟨D, ?_, ?_⟩
      · unfold f_X0_keepStaged_L35
        dsimp only
        rw [d1, d3, if_pos (by simp (disch := omega) only [zk_bind, zk_chk, zk_bnd, zk_some, zlp_l, zlp_r, zb_some, zb_bnd, zI_add, zI_sub, zI_mul, zI_neg, zI_le, zI_lt, zI_eq, zI_ix, zI_inI, Int.toNat_natCast, Int.toNat_add, Int.toNat_mul, true_and, and_true]; omega)]
      · rw [zI_add, zk_bnd, zk_some, zlp_l]
        exact ⟨zI_inj (by omega), d2, d3, d4, fun a b ha hb hab => d5 a b ha hb (by omega)⟩
  · rintro ⟨N, x1⟩ ⟨e1, e2, e3, e4, e5⟩
    dsimp only at e1 e2 e3 e4 e5
    unfold f_X0_keepStaged_L25
    dsimp only
    rw [e1, e3, if_pos (by simp (disch := omega) only [zk_bind, zk_chk, zk_bnd, zk_some, zlp_l, zlp_r, zb_some, zb_bnd, zI_add, zI_sub, zI_mul, zI_neg, zI_le, zI_lt, zI_eq, zI_ix, zI_inI, Int.toNat_natCast, Int.toNat_add, Int.toNat_mul, true_and, and_true]; omega), zk_some, zlp_r, zk_bind]
    have hf : formsC n fr N := ⟨hn, e3, fun k hk => by have := hr (k / 5) (by omega) (k % 5) (by omega); rwa [show 5 * (k / 5) + k % 5 = k by omega] at this, e4, fun a b ha hb => e5 a b ha hb (by omega)⟩
    refine zOk_mono (c_growTree hf) (fun N' h => ?_)
    rw [zk_some]
    exact ⟨formsC_x (fun a k hk => h.2.1 a k (by unfold dformsC at hk; unfold zWtr; simp at hk ⊢; omega)) hf, h.1, zP_tr e2 (zP_mono h.2 (fun a k ha => by unfold zWke at ha; unfold zWtr; simp at ha ⊢; omega))⟩
def zWtk (a k : Nat) : Bool := zW4 a k || zWke a k
theorem c_takeForms {M : ZMem} {t : List Nat} (hb : okB t) (ht : tapeC t M) : zOk (f_X0_takeFrom M) (fun r => (∃ n, y4ok t n ∧ r.2 = zI n ∧ formsC n (y4N t n).2 r.1 ∧ treeC n (y4N t n).2 10400 r.1 ∧ zP zWtk M r.1) ∨ ∃ f, y4ft t f ∧ r.2 = zI (-2 - (f : Int)) ∧ zP zW4 M r.1) := by
  unfold f_X0_takeFrom
  rw [zk_bnd, zk_bnd, zk_bind]
  have st : zP zW4 M (zstI (zstI M 3 9 (zI 0)) 3 8 (zI 0)) := zP_I (zP_I zP_rf rfl) rfl
  refine zOk_forQ (fun n (s : ZMem × Int32 × Int32) => (s.2.1 = zI 0 ∧ s.2.2 = zI n ∧ y4w t n ∧ zP zW4 M s.1 ∧ s.1.1 3 9 = zI ((y4N t n).1 : Nat) ∧ s.1.1 3 8 = zI n ∧ ∀ m, m < n → s.1.1 5 m = zI (zform (y4N t n).2 m)) ∨ (∃ f, y4ft t f ∧ s.2.1 = zI (-2 - (f : Int)) ∧ zP zW4 M s.1)) 21 ?_ ?_ (Or.inl ⟨rfl, rfl, fun m hm => absurd hm (Nat.not_lt_zero m), st, by rw [zm_In _ _ _ _ (by decide), zm_Is]; rfl, by rw [zm_Is]; rfl, fun m hm => absurd hm (Nat.not_lt_zero m)⟩)
  · rintro n ⟨s, x1, x3⟩ hn (⟨e1, e2, e3, e4, e5, e6, e7⟩ | ⟨f, f1, f2, f3⟩) Q hQ hE
    · dsimp only at e1 e2 e4 e5 e6 e7
      have hp := y4N_le hb e3
      have hbl : y4b t n ≤ 300 := (y4B_le (t := t) hp).2
      have hz := zch_rng hb (y4b t n)
      unfold f_X0_takeFrom_L14
      dsimp only
      rw [e1, e2, if_neg (by simp (disch := omega) only [zk_bind, zk_chk, zk_bnd, zk_some, zlp_l, zlp_r, zb_some, zb_bnd, zI_add, zI_sub, zI_mul, zI_neg, zI_le, zI_lt, zI_eq, zI_ix, zI_inI, Int.toNat_natCast, Int.toNat_add, Int.toNat_mul, true_and, and_true]; omega), if_pos rfl, zk_bind]
      refine zOk_mono (c_skip hb (tapeC_39 e4 ht) hp e5) (fun N g => ?_)
      obtain ⟨g1, g2⟩ := g
      have g1 : N.1 3 9 = zI ((y4b t n : Nat) : Int) := g1
      have p1 := zP_tr e4 (z39_4 g2)
      have g8 : N.1 3 8 = zI n := by rw [g2.1 3 8 rfl]; exact e6
      have g5 : ∀ m, m < n → N.1 5 m = zI (zform (y4N t n).2 m) := fun m hm => by rw [g2.1 5 m rfl]; exact e7 m hm
      rw [g1, c_byteAt hb (tapeC_39 p1 ht) (by omega), zb_some]
      by_cases c1 : zch t (y4b t n) = -1
      · rw [if_pos (by rw [c1]), zk_bind]
        refine zOk_mono (c_keep (by omega) g8 g5 (y4N_32 e3)) (fun N' h => ?_)
        rw [zk_some]
        refine hE _ ?_
        show zOk (some (N', N'.1 3 7)) _
        rw [zk_some]
        exact Or.inl ⟨n, ⟨e3, c1⟩, h.1.2.1, h.1, h.2.1, zP_tr (zP_mono p1 (fun a k ha => by unfold zWtk at ha; rw [Bool.or_eq_false_iff] at ha; exact ha.1)) (zP_mono h.2.2 (fun a k ha => by unfold zWtk at ha; rw [Bool.or_eq_false_iff] at ha; exact ha.2))⟩
      · rw [if_neg (by simp (disch := omega) only [zk_bind, zk_chk, zk_bnd, zk_some, zlp_l, zlp_r, zb_some, zb_bnd, zI_add, zI_sub, zI_mul, zI_neg, zI_le, zI_lt, zI_eq, zI_ix, zI_inI, Int.toNat_natCast, Int.toNat_add, Int.toNat_mul, true_and, and_true]; omega), zk_bind]
        refine zOk_mono (c_stageForm hb (tapeC_39 p1 ht) hbl g1 (by omega) g8 g5 (y4N_32 e3)) (fun r h => ?_)
        obtain ⟨h0, h⟩ := h
        have p2 := zP_tr p1 h0
        rw [zI_add, zk_bnd, zk_some]
        rcases h with ⟨k0, k1, k2, k3, k4, k5⟩ | ⟨k0, k1⟩
        · have hw := y4w_s e3 c1 k0
          refine hQ _ (Or.inl ⟨k1, zI_inj (by omega), hw, p2, k2, k3, fun m hm => ?_⟩)
          have hv : ∀ r, r < 5 → y4v t (y4b t n) r < 32 := fun r hr => by have := (y4f_0 ((y4F_i k0).1 r hr)).2.1; omega
          have hrow : ∀ j, (y4N t (n + 1)).2 j = if 5 * n ≤ j then y4v t (y4b t n) (j - 5 * n) else (y4N t n).2 j := fun j => rfl
          (try dsimp only)
          by_cases hmn : m = n
          · rw [hmn, k4]
            refine congrArg zI (congrArg Int.ofNat (Eq.symm ?_))
            refine (zform_inj (fun r hr => ?_) hv).mpr (fun r hr => ?_)
            · rw [hrow, if_pos (by omega), show 5 * n + r - 5 * n = r by omega]
              exact hv r hr
            · rw [hrow, if_pos (by omega), show 5 * n + r - 5 * n = r by omega]
          · rw [k5 m (by omega), g5 m (by omega)]
            unfold zform
            rw [hrow, hrow, hrow, hrow, hrow, if_neg (by omega), if_neg (by omega), if_neg (by omega), if_neg (by omega), if_neg (by omega)]
        · exact hQ _ (Or.inr ⟨y4G t n, ⟨n, e3, c1, k0, rfl⟩, k1, p2⟩)
    · dsimp only at f2 f3
      have ff : f < 3000 := by
        obtain ⟨m, m1, m2, m3, m4⟩ := f1
        have : y4G t m ≤ 2404 := y4F_le (t := t) (n := m) (fr := (y4N t m).2) (y4B_le (t := t) (y4N_le hb m1)).2
        omega
      unfold f_X0_takeFrom_L14
      dsimp only
      rw [f2, if_neg (c := zI (-2 - (f : Int)) = zI 0) (by simp (disch := omega) only [zk_bind, zk_chk, zk_bnd, zk_some, zlp_l, zlp_r, zb_some, zb_bnd, zI_add, zI_sub, zI_mul, zI_neg, zI_le, zI_lt, zI_eq, zI_ix, zI_inI, Int.toNat_natCast, Int.toNat_add, Int.toNat_mul, true_and, and_true]; omega), ite_self, zk_some]
      refine hE _ ?_
      show zOk (some (s, zI (-2 - (f : Int)))) _
      rw [zk_some]
      exact Or.inr ⟨f, f1, rfl, f3⟩
  · rintro ⟨s, x1, x3⟩ (⟨e1, e2, e3, e4, e5, e6, e7⟩ | ⟨f, f1, f2, f3⟩)
    · exact absurd (y4w_20 e3) (by omega)
    · dsimp only at f2 f3
      have ff : f < 3000 := by
        obtain ⟨m, m1, m2, m3, m4⟩ := f1
        have : y4G t m ≤ 2404 := y4F_le (t := t) (n := m) (fr := (y4N t m).2) (y4B_le (t := t) (y4N_le hb m1)).2
        omega
      refine ⟨.inl (s, zI (-2 - (f : Int))), ?_, ?_⟩
      · unfold f_X0_takeFrom_L14
        dsimp only
        rw [f2, if_neg (c := zI (-2 - (f : Int)) = zI 0) (by simp (disch := omega) only [zk_bind, zk_chk, zk_bnd, zk_some, zlp_l, zlp_r, zb_some, zb_bnd, zI_add, zI_sub, zI_mul, zI_neg, zI_le, zI_lt, zI_eq, zI_ix, zI_inI, Int.toNat_natCast, Int.toNat_add, Int.toNat_mul, true_and, and_true]; omega), ite_self]
      · show zOk (some (s, zI (-2 - (f : Int)))) _
        rw [zk_some]
        exact Or.inr ⟨f, f1, rfl, f3⟩
