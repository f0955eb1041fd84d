/-! ===== stones told: reference ===== deps: 97.zx.stone -/
def zWsr (S : Nat) (a k : Nat) : Bool := (a == 0 && (k == 2 || k == 3)) || (a == 4 && k == S) || (a == 5 && 4 * S ≤ k) || (a == 6 && 40 * S ≤ k)
/-- one row of places -/
def zplR (M : ZMem) (q l n e : Nat) (X : Nat → Nat) : Prop := M.1 5 q = zI ((l + n + e : Nat) : Int) ∧ (∀ k, k < l → M.1 6 (10 * q + k) = zI (-1)) ∧ (∀ k, k < n → M.1 6 (10 * q + (l + k)) = zI (X (10 * q + k))) ∧ ∀ k, k < e → M.1 6 (10 * q + (l + n + k)) = zI (-1)
def zclR (S : Nat) (z : ZQ) (M : ZMem) : Prop := ∀ r, r < qr z → zplR M (4 * S + r) (qL z (4 * S + r)) (qN z (4 * S + r)) (qE z (4 * S + r)) (qX z)
def zrt (i : Nat) (M : ZMem) : Prop := M.1 0 2 = zI i ∧ M.1 0 3 = zI (-1)
/-- in a row -/
def zRR (S : Nat) (z : ZQ) (i : Nat) (M0 M : ZMem) : Prop := zP (zWsr S) M0 M ∧ zrt i M ∧ M.1 4 S = zI (qr z) ∧ zclR S z M ∧ zplR M (4 * S + qr z) (ql z) (qn z) (qe z) (qX z)
theorem zplR_x {M0 M : ZMem} {q l n e : Nat} {X : Nat → Nat} (h5 : M.1 5 q = M0.1 5 q) (h6 : ∀ k, k < 10 → M.1 6 (10 * q + k) = M0.1 6 (10 * q + k)) (hl : l + n + e ≤ 10) (h : zplR M0 q l n e X) : zplR M q l n e X := ⟨by rw [h5]; exact h.1, fun k hk => by rw [h6 k (by omega)]; exact h.2.1 k hk, fun k hk => by rw [h6 _ (by omega)]; exact h.2.2.1 k hk, fun k hk => by rw [h6 _ (by omega)]; exact h.2.2.2 k hk⟩
theorem zplR_X {M : ZMem} {q l n e : Nat} {X Y : Nat → Nat} (hx : ∀ k, k < n → X (10 * q + k) = Y (10 * q + k)) (h : zplR M q l n e X) : zplR M q l n e Y := ⟨h.1, h.2.1, fun k hk => by rw [h.2.2.1 k hk, hx k hk], h.2.2.2⟩
theorem r_placeTaken {M0 D : ZMem} {F S i : Nat} {t : List Nat} {z : ZQ} (hF : F ≤ 20) (hS : S < 6) (hF0 : M0.1 0 4 = zI F) (hb : okB t) (ht : tapeR t M0) (hz : zqb F S z) (hr : qr z < 4) (hi : i ≤ 300) (h : zRR S z i M0 D) (hc : zch t i = 46 ∨ ((97 ≤ zch t i ∧ zch t i ≤ 122) ∧ qe z = 0)) : zOk (f_X12_placeTaken D (zI ((4 * S + qr z : Nat) : Int))) (fun D' => (zqf F (zch t i) z 0 ∧ zRR S (zq1 S (zch t i) z) (i + 1) M0 D') ∨ (∃ k, k ≠ 0 ∧ zqf F (zch t i) z k ∧ D'.1 0 3 = zI ((8 * i + k : Nat) : Int) ∧ D'.1 0 2 = zI i ∧ zP (zWsr S) M0 D')) := by
  obtain ⟨p1, ⟨p2, p3⟩, p4, p5, p6⟩ := h
  obtain ⟨z1, z2, z3, z4, z5, z6⟩ := hz
  have htD : tapeR t D := ⟨by rw [p1.1 0 1 rfl]; exact ht.1, fun j hj => by rw [p1.1 1 j rfl]; exact ht.2 j hj⟩
  have hFD : D.1 0 4 = zI F := by rw [p1.1 0 4 rfl]; exact hF0
  have hcr := zch_rng hb i
  have isR : ∀ E : ZMem, E.1 0 3 = zI (-1) → f_X12_isRight E = some (zI 1) := fun E hE => by unfold f_X12_isRight; rw [hE, if_pos rfl]
  have isW : ∀ (E : ZMem) (f : Nat), f < 3000 → E.1 0 3 = zI f → f_X12_isRight E = some (zI 0) := fun E f hf hE => by unfold f_X12_isRight; rw [hE, if_neg (by simp (disch := omega) only [zk_bind, zk_chk, zk_bnd, zk_some, zlp_l, zlp_r, zb_some, zb_bnd, zI_add, zI_sub, zI_mul, zI_neg, zI_le, zI_lt, zI_eq, zI_ix, zI_inI, Int.toNat_natCast, Int.toNat_add, Int.toNat_mul, true_and, and_true]; omega)]
  have hb47 : zch t i ≠ -1 ∧ zch t i ≠ 47 := by omega
  have bad : ∀ (E : ZMem) (k : Nat) (x2 : Int32), k ≠ 0 → k ≤ 3 → zqf F (zch t i) z k → E.1 0 3 = zI ((8 * i + k : Nat) : Int) → E.1 0 2 = zI i → zP (zWsr S) M0 E → zOk (f_X12_placeTaken_52 E (zI ((4 * S + qr z : Nat) : Int)) x2) (fun D' => (zqf F (zch t i) z 0 ∧ zRR S (zq1 S (zch t i) z) (i + 1) M0 D') ∨ (∃ k, k ≠ 0 ∧ zqf F (zch t i) z k ∧ D'.1 0 3 = zI ((8 * i + k : Nat) : Int) ∧ D'.1 0 2 = zI i ∧ zP (zWsr S) M0 D')) := by
    intro E k x2 k0 k3 kf e3 e2 eP
    unfold f_X12_placeTaken_52
    rw [isW E _ (by omega) e3, zb_some, if_pos rfl, zk_some]
    exact Or.inr ⟨k, k0, kf, e3, e2, eP⟩
  -- store one place
  have sto : ∀ v : Int, ¬ zqm z → zqf F (zch t i) z 0 → ((zch t i = 46 ∧ v = -1) ∨ (zch t i ≠ 46 ∧ v = zch t i - 97)) → zOk (f_X12_placeTaken_87 D (zI ((4 * S + qr z : Nat) : Int)) (zI (10 * ((4 * S + qr z : Nat) : Int) + ((ql z + qn z + qe z : Nat) : Int))) (zI v)) (fun D' => (zqf F (zch t i) z 0 ∧ zRR S (zq1 S (zch t i) z) (i + 1) M0 D') ∨ (∃ k, k ≠ 0 ∧ zqf F (zch t i) z k ∧ D'.1 0 3 = zI ((8 * i + k : Nat) : Int) ∧ D'.1 0 2 = zI i ∧ zP (zWsr S) M0 D')) := by
    intro v hm hf hv
    unfold zqm at hm
    have hq : 10 * (4 * S + qr z) + (ql z + qn z + qe z) < 280 := by omega
    have ei : (10 * ((4 * S + qr z : Nat) : Int) + ((ql z + qn z + qe z : Nat) : Int)).toNat = 10 * (4 * S + qr z) + (ql z + qn z + qe z) := by omega
    unfold f_X12_placeTaken_87
    rw [zI_inI (by omega) (by omega) (by omega), zb_chk, zk_bnd, zI_ix (by omega) (by omega), ei, zI_inI (by omega) (by omega) (by omega), zb_chk, zb_chk, zk_bnd, zk_bnd, zk_some, zI_ix (by omega) (by omega), Int.toNat_natCast, zm_Iq (a := 5) _ _ _ _ (by decide), p6.1, zI_add, zm_Iq (a := 0) _ _ _ _ (by decide), zm_Iq (a := 0) _ _ _ _ (by decide), p2, zI_add]
    have g6 : ∀ k, (zstI (zstI (zstI D 6 (10 * (4 * S + qr z) + (ql z + qn z + qe z)) (zI v)) 5 (4 * S + qr z) (zI (((ql z + qn z + qe z : Nat) : Int) + 1))) 0 2 (zI ((i : Int) + 1))).1 6 k = if k = 10 * (4 * S + qr z) + (ql z + qn z + qe z) then zI v else D.1 6 k := fun k => by
      rw [zm_Iq _ _ _ _ (by decide), zm_Iq _ _ _ _ (by decide)]
      by_cases hk : k = 10 * (4 * S + qr z) + (ql z + qn z + qe z)
      · rw [hk, zm_Is, if_pos rfl]
      · rw [zm_In _ _ _ _ hk, if_neg hk]
    have g5 : ∀ k, (zstI (zstI (zstI D 6 (10 * (4 * S + qr z) + (ql z + qn z + qe z)) (zI v)) 5 (4 * S + qr z) (zI (((ql z + qn z + qe z : Nat) : Int) + 1))) 0 2 (zI ((i : Int) + 1))).1 5 k = if k = 4 * S + qr z then zI (((ql z + qn z + qe z : Nat) : Int) + 1) else D.1 5 k := fun k => by
      rw [zm_Iq _ _ _ _ (by decide)]
      by_cases hk : k = 4 * S + qr z
      · rw [hk, zm_Is, if_pos rfl]
      · rw [zm_In _ _ _ _ hk, if_neg hk, zm_Iq _ _ _ _ (by decide)]
    have gP : zP (zWsr S) M0 (zstI (zstI (zstI D 6 (10 * (4 * S + qr z) + (ql z + qn z + qe z)) (zI v)) 5 (4 * S + qr z) (zI (((ql z + qn z + qe z : Nat) : Int) + 1))) 0 2 (zI ((i : Int) + 1))) := zP_I (zP_I (zP_I p1 (by unfold zWsr; simp; omega)) (by unfold zWsr; simp)) (by unfold zWsr; simp)
    have gr : zrt (i + 1) (zstI (zstI (zstI D 6 (10 * (4 * S + qr z) + (ql z + qn z + qe z)) (zI v)) 5 (4 * S + qr z) (zI (((ql z + qn z + qe z : Nat) : Int) + 1))) 0 2 (zI ((i : Int) + 1))) := ⟨by rw [zm_Is]; exact zI_inj (by omega), by rw [zm_In _ _ _ _ (by decide), zm_Iq _ _ _ _ (by decide), zm_Iq _ _ _ _ (by decide)]; exact p3⟩
    have g4 : (zstI (zstI (zstI D 6 (10 * (4 * S + qr z) + (ql z + qn z + qe z)) (zI v)) 5 (4 * S + qr z) (zI (((ql z + qn z + qe z : Nat) : Int) + 1))) 0 2 (zI ((i : Int) + 1))).1 4 S = zI (qr z) := by rw [zm_Iq _ _ _ _ (by decide), zm_Iq _ _ _ _ (by decide), zm_Iq _ _ _ _ (by decide)]; exact p4
    generalize zstI (zstI (zstI D 6 (10 * (4 * S + qr z) + (ql z + qn z + qe z)) (zI v)) 5 (4 * S + qr z) (zI (((ql z + qn z + qe z : Nat) : Int) + 1))) 0 2 (zI ((i : Int) + 1)) = E at g6 g5 gP gr g4 ⊢
    have old : ∀ r, r < qr z → zplR E (4 * S + r) (qL z (4 * S + r)) (qN z (4 * S + r)) (qE z (4 * S + r)) (qX z) := fun r hr' => zplR_x (by rw [g5, if_neg (by omega)]) (fun k hk => by rw [g6, if_neg (by omega)]) (z5 r hr').2.1 (p5 r hr')
    refine Or.inl ⟨hf, ?_⟩
    by_cases c46 : zch t i = 46
    · have hv1 : v = -1 := by omega
      by_cases cn : qn z = 0
      · have e1 : zq1 S (zch t i) z = ((qr z, ql z + 1, qn z, qe z), z.2) := by unfold zq1; rw [if_neg (by omega), if_pos c46, if_pos cn]
        have he := z4 cn
        rw [e1]
        refine ⟨gP, gr, g4, old, ⟨?_, fun k hk => ?_, fun k hk => ?_, fun k hk => ?_⟩⟩
        · show E.1 5 (4 * S + qr z) = zI ((ql z + 1 + qn z + qe z : Nat) : Int)
          rw [g5, if_pos rfl]
          exact zI_inj (by omega)
        · have hk2 : k < ql z + 1 := hk
          show E.1 6 (10 * (4 * S + qr z) + k) = zI (-1)
          rw [g6]
          by_cases hkl : k = ql z
          · rw [if_pos (by omega), hv1]
          · rw [if_neg (by omega)]
            exact p6.2.1 k (by omega)
        · have hk2 : k < qn z := hk
          omega
        · have hk2 : k < qe z := hk
          omega
      · have e1 : zq1 S (zch t i) z = ((qr z, ql z, qn z, qe z + 1), z.2) := by unfold zq1; rw [if_neg (by omega), if_pos c46, if_neg cn]
        rw [e1]
        refine ⟨gP, gr, g4, old, ⟨?_, fun k hk => ?_, fun k hk => ?_, fun k hk => ?_⟩⟩
        · show E.1 5 (4 * S + qr z) = zI ((ql z + qn z + (qe z + 1) : Nat) : Int)
          rw [g5, if_pos rfl]
          exact zI_inj (by omega)
        · have hk2 : k < ql z := hk
          show E.1 6 (10 * (4 * S + qr z) + k) = zI (-1)
          rw [g6, if_neg (by omega)]
          exact p6.2.1 k hk2
        · have hk2 : k < qn z := hk
          show E.1 6 (10 * (4 * S + qr z) + (ql z + k)) = zI ((qX z (10 * (4 * S + qr z) + k) : Nat) : Int)
          rw [g6, if_neg (by omega)]
          exact p6.2.2.1 k hk2
        · have hk2 : k < qe z + 1 := hk
          show E.1 6 (10 * (4 * S + qr z) + (ql z + qn z + k)) = zI (-1)
          rw [g6]
          by_cases hkl : k = qe z
          · rw [if_pos (by omega), hv1]
          · rw [if_neg (by omega)]
            exact p6.2.2.2 k (by omega)
    · have hv1 : v = zch t i - 97 := by omega
      have hl : (97 ≤ zch t i ∧ zch t i ≤ 122) ∧ qe z = 0 := by omega
      have e1 : zq1 S (zch t i) z = ((qr z, ql z, qn z + 1, qe z), qL z, qN z, qE z, zup (qX z) (10 * (4 * S + qr z) + qn z) (zch t i - 97).toNat) := by unfold zq1; rw [if_neg (by omega), if_neg c46]
      rw [e1]
      refine ⟨gP, gr, g4, fun r hr' => ?_, ⟨?_, fun k hk => ?_, fun k hk => ?_, fun k hk => ?_⟩⟩
      · have hr2 : r < qr z := hr'
        have h5r := (z5 r hr2).2.1
        exact zplR_X (fun k hk => by
          show qX z (10 * (4 * S + r) + k) = zup (qX z) (10 * (4 * S + qr z) + qn z) (zch t i - 97).toNat (10 * (4 * S + r) + k)
          have hk2 : k < qN z (4 * S + r) := hk
          rw [zup_n (by omega)]) (old r hr2)
      · show E.1 5 (4 * S + qr z) = zI ((ql z + (qn z + 1) + qe z : Nat) : Int)
        rw [g5, if_pos rfl]
        exact zI_inj (by omega)
      · have hk2 : k < ql z := hk
        show E.1 6 (10 * (4 * S + qr z) + k) = zI (-1)
        rw [g6, if_neg (by omega)]
        exact p6.2.1 k hk2
      · have hk2 : k < qn z + 1 := hk
        show E.1 6 (10 * (4 * S + qr z) + (ql z + k)) = zI ((zup (qX z) (10 * (4 * S + qr z) + qn z) (zch t i - 97).toNat (10 * (4 * S + qr z) + k) : Nat) : Int)
        rw [g6]
        by_cases hkn : k = qn z
        · rw [if_pos (by omega), hkn, zup_s, hv1]
          exact zI_inj (by omega)
        · rw [if_neg (by omega), zup_n (by omega)]
          exact p6.2.2.1 k (by omega)
      · have hk2 : k < qe z := hk
        omega
  have go : (zch t i = 46 ∨ zch t i < 97 + (F : Int)) → zOk (f_X12_placeTaken_37 D (zI ((4 * S + qr z : Nat) : Int)) (zI ((ql z + qn z + qe z : Nat) : Int))) (fun D' => (zqf F (zch t i) z 0 ∧ zRR S (zq1 S (zch t i) z) (i + 1) M0 D') ∨ (∃ k, k ≠ 0 ∧ zqf F (zch t i) z k ∧ D'.1 0 3 = zI ((8 * i + k : Nat) : Int) ∧ D'.1 0 2 = zI i ∧ zP (zWsr S) M0 D')) := by
    intro hlow
    have fk : ∀ k, ((zqm z ∧ k = 3) ∨ (¬ zqm z ∧ k = 0)) → zqf F (zch t i) z k := by
      intro k hk
      rcases hc with hc | hc
      · exact Or.inr (Or.inl ⟨hc, hk⟩)
      · exact Or.inr (Or.inr ⟨⟨by omega, by omega, by omega⟩, Or.inr ⟨hc, Or.inr ⟨by omega, hk⟩⟩⟩)
    unfold f_X12_placeTaken_37
    by_cases hm : ql z + qn z + qe z = 10
    · unfold f_X12_fails
      rw [if_pos (by rw [hm]; rfl), p3, if_pos rfl, p2, zI_mul, zI_add, zb_bnd, zb_some]
      refine bad _ 3 _ (by omega) (by omega) (fk 3 (Or.inl ⟨Or.inr (by omega), rfl⟩)) (by rw [zm_Is]; exact zI_inj (by omega)) (by rw [zm_In _ _ _ _ (by decide)]; exact p2) (zP_I p1 (by unfold zWsr; simp))
    · have hnm : ¬ zqm z := by unfold zqm; omega
      have f0 := fk 0 (Or.inr ⟨hnm, rfl⟩)
      rw [if_neg (by simp (disch := omega) only [zk_bind, zk_chk, zk_bnd, zk_some, zlp_l, zlp_r, zb_some, zb_bnd, zI_add, zI_sub, zI_mul, zI_neg, zI_le, zI_lt, zI_eq, zI_ix, zI_inI, Int.toNat_natCast, Int.toNat_add, Int.toNat_mul, true_and, and_true]; omega)]
      unfold f_X12_placeTaken_52
      rw [isR D p3, zb_some, if_neg (by decide), r_isLetter hb htD (by omega) p2, zb_some, r_sign hb htD (by omega) p2, zb_some, zI_mul, zI_add, zI_sub]
      by_cases hl : 97 ≤ zch t i ∧ zch t i ≤ 122
      · rw [if_neg (fun hh => zb_0.mp hh hl)]
        exact sto _ hnm f0 (Or.inr ⟨by omega, rfl⟩)
      · rw [if_pos (zb_0.mpr hl)]
        exact sto _ hnm f0 (Or.inl ⟨by omega, rfl⟩)
  unfold f_X12_placeTaken
  rw [zI_inI (by omega) (by omega) (by omega), zb_chk, zk_bnd, zI_ix (by omega) (by omega), Int.toNat_natCast, p6.1, r_isLetter hb htD (by omega) p2, zb_some, r_sign hb htD (by omega) p2, zb_some, zI_sub, hFD]
  by_cases hl : 97 ≤ zch t i ∧ zch t i ≤ 122
  · rw [if_neg (fun hh => zb_0.mp hh hl)]
    by_cases hlow : zch t i < 97 + (F : Int)
    · rw [if_pos (by simp (disch := omega) only [zk_bind, zk_chk, zk_bnd, zk_some, zlp_l, zlp_r, zb_some, zb_bnd, zI_add, zI_sub, zI_mul, zI_neg, zI_le, zI_lt, zI_eq, zI_ix, zI_inI, Int.toNat_natCast, Int.toNat_add, Int.toNat_mul, true_and, and_true]; omega)]
      exact go (Or.inr hlow)
    · have f2 : zqf F (zch t i) z 2 := Or.inr (Or.inr ⟨⟨by omega, by omega, by omega⟩, Or.inr ⟨⟨hl, by omega⟩, Or.inl ⟨by omega, rfl⟩⟩⟩)
      unfold f_X12_fails
      rw [if_neg (by simp (disch := omega) only [zk_bind, zk_chk, zk_bnd, zk_some, zlp_l, zlp_r, zb_some, zb_bnd, zI_add, zI_sub, zI_mul, zI_neg, zI_le, zI_lt, zI_eq, zI_ix, zI_inI, Int.toNat_natCast, Int.toNat_add, Int.toNat_mul, true_and, and_true]; omega), p3, if_pos rfl, p2, zI_mul, zI_add, zb_bnd, zb_some]
      have w3 : (zstI D 0 3 (zI (8 * (i : Int) + 2))).1 0 3 = zI ((8 * i + 2 : Nat) : Int) := by rw [zm_Is]; exact zI_inj (by omega)
      have w2 : (zstI D 0 3 (zI (8 * (i : Int) + 2))).1 0 2 = zI i := by rw [zm_In _ _ _ _ (by decide)]; exact p2
      have wP : zP (zWsr S) M0 (zstI D 0 3 (zI (8 * (i : Int) + 2))) := zP_I p1 (by unfold zWsr; simp)
      generalize zstI D 0 3 (zI (8 * (i : Int) + 2)) = E at w3 w2 wP ⊢
      unfold f_X12_placeTaken_37 f_X12_fails
      rw [w3, if_neg (c := zI ((8 * i + 2 : Nat) : Int) = zI (-1)) (by simp (disch := omega) only [zk_bind, zk_chk, zk_bnd, zk_some, zlp_l, zlp_r, zb_some, zb_bnd, zI_add, zI_sub, zI_mul, zI_neg, zI_le, zI_lt, zI_eq, zI_ix, zI_inI, Int.toNat_natCast, Int.toNat_add, Int.toNat_mul, true_and, and_true]; omega), zb_some, ite_self]
      exact bad E 2 _ (by omega) (by omega) f2 w3 w2 wP
  · rw [if_pos (zb_0.mpr hl)]
    exact go (Or.inl (by omega))
