/-! ===== stones told: rows of the reference ===== deps: 97.zxb.stoner -/
abbrev ZY := (Nat → Nat) × (Nat → Nat) × (Nat → Nat) × (Nat → Nat)
def zFs (F S : Nat) (t : List Nat) (y : ZY) (M0 M : ZMem) : Prop := ∃ f : Nat, zP (zWsr S) M0 M ∧ M.1 0 3 = zI f ∧ zqft F S t (zz0 y) f
def zmu2 (s : ZMem) : Nat := 2 * (400 - (s.1 0 2).toInt.toNat) + (if s.1 0 3 = zI (-1) then 1 else 0)
theorem zmu2_r {s : ZMem} {i : Nat} (hi : i ≤ 1000) (h : zrt i s) : zmu2 s = 2 * (400 - i) + 1 := by
  unfold zmu2
  rw [h.1, h.2, if_pos rfl, zI_toInt (by omega) (by omega), Int.toNat_natCast]
theorem zmu2_f {s : ZMem} {i f : Nat} (hi : i ≤ 1000) (hf : f < 3000) (h2 : s.1 0 2 = zI i) (h3 : s.1 0 3 = zI f) : zmu2 s = 2 * (400 - i) := by
  unfold zmu2
  rw [h2, h3, if_neg (by simp (disch := omega) only [zk_bind, zk_chk, zk_bnd, zk_some, zlp_l, zlp_r, zb_some, zb_bnd, zI_add, zI_sub, zI_mul, zI_neg, zI_le, zI_lt, zI_eq, zI_ix, zI_inI, Int.toNat_natCast, Int.toNat_add, Int.toNat_mul, true_and, and_true]; omega), zI_toInt (by omega) (by omega), Int.toNat_natCast, Nat.add_zero]
theorem zqw_s {F S : Nat} {t : List Nat} {y : ZY} {i : Nat} (h : zqw F S t (zz0 y) i) (hi : i < t.length) (hf : zqf F (zch t i) (zqs S t (zz0 y) i) 0) : zqw F S t (zz0 y) (i + 1) := ⟨by omega, fun j hj => by
  by_cases hji : j = i
  · rw [hji]; exact hf
  · exact h.2 j (by omega)⟩
theorem r_isR {E : ZMem} (hE : E.1 0 3 = zI (-1)) : f_X12_isRight E = some (zI 1) := by unfold f_X12_isRight; rw [hE, if_pos rfl]
theorem r_isWr {E : ZMem} {f : Nat} (hf : f < 3000) (hE : E.1 0 3 = zI f) : f_X12_isRight E = some (zI 0) := by unfold f_X12_isRight; rw [hE, if_neg (by simp (disch := omega) only [zk_bind, zk_chk, zk_bnd, zk_some, zlp_l, zlp_r, zb_some, zb_bnd, zI_add, zI_sub, zI_mul, zI_neg, zI_le, zI_lt, zI_eq, zI_ix, zI_inI, Int.toNat_natCast, Int.toNat_add, Int.toNat_mul, true_and, and_true]; omega)]
/-- reading on while a test holds -/
theorem r_run {M0 : ZMem} {F S r0 : Nat} {t : List Nat} {y : ZY} (hF : F ≤ 20) (hS : S < 6) (hr0 : r0 < 4) (hF0 : M0.1 0 4 = zI F) (hb : okB t) (ht : tapeR t M0) {g : ZMem → Option (ZMem ⊕ ZMem)} (T : Int → Prop) (ph : Nat → Prop)
    (hT : ∀ i, ph i → T (zch t i) → zch t i = 46 ∨ ((97 ≤ zch t i ∧ zch t i ≤ 122) ∧ qe (zqs S t (zz0 y) i) = 0))
    (hph : ∀ i, ph i → T (zch t i) → ph (i + 1)) (hq : ∀ i, ph i → qr (zqs S t (zz0 y) i) = r0)
    (hg1 : ∀ s f, f < 3000 → s.1 0 3 = zI ((f : Nat) : Int) → g s = some (.inr s))
    (hg2 : ∀ s i, zrt i s → i ≤ 300 → tapeR t s → ¬ T (zch t i) → g s = some (.inr s))
    (hg3 : ∀ s i, zrt i s → i ≤ 300 → tapeR t s → T (zch t i) → g s = zbind (f_X12_placeTaken s (zI ((4 * S + r0 : Nat) : Int))) (fun M => some (.inl M)))
    {D : ZMem} {i : Nat} (hw : zqw F S t (zz0 y) i) (hD : zRR S (zqs S t (zz0 y) i) i M0 D) (hp : ph i) : zOk (zloop g D) (fun E => (∃ j, zqw F S t (zz0 y) j ∧ zRR S (zqs S t (zz0 y) j) j M0 E ∧ ph j ∧ ¬ T (zch t j)) ∨ zFs F S t y M0 E) := by
  have hl := hb.1
  refine zOk_loop (fun s => (∃ j, zqw F S t (zz0 y) j ∧ zRR S (zqs S t (zz0 y) j) j M0 s ∧ ph j) ∨ zFs F S t y M0 s) zmu2 ?_ _ D (Nat.le_refl _) (Or.inl ⟨i, hw, hD, hp⟩)
  rintro s (⟨j, j1, j2, j3⟩ | ⟨f, f1, f2, f3⟩)
  · have hj := j1.1
    have hts : tapeR t s := ⟨by rw [j2.1.1 0 1 rfl]; exact ht.1, fun k hk => by rw [j2.1.1 1 k rfl]; exact ht.2 k hk⟩
    by_cases hTj : T (zch t j)
    · have hzb := zqb_i (zqb_0 F S y) j j1
      have hrj := hq j j3
      have hlt : j < t.length := by
        apply Classical.byContradiction
        intro hh
        have := hT j j3 hTj
        rw [zch_e (by omega)] at this
        omega
      rw [hg3 s j j2.2.1 (by omega) hts hTj, zk_bind, ← hrj]
      refine zOk_mono (r_placeTaken hF hS hF0 hb ht hzb (by omega) (by omega) j2 (hT j j3 hTj)) (fun D' h' => ?_)
      rw [zk_some, zlp_l]
      rcases h' with ⟨h1, h2⟩ | ⟨k, k1, k2, k3, k4, k5⟩
      · refine ⟨Or.inl ⟨j + 1, zqw_s j1 hlt h1, h2, hph j j3 hTj⟩, ?_⟩
        rw [zmu2_r (by omega) h2.2.1, zmu2_r (by omega) j2.2.1]
        omega
      · have := zqf_le k2
        refine ⟨Or.inr ⟨8 * j + k, k5, k3, ⟨j, k, j1, k1, k2, rfl⟩⟩, ?_⟩
        rw [zmu2_f (by omega) (by omega) k4 k3, zmu2_r (by omega) j2.2.1]
        omega
    · rw [hg2 s j j2.2.1 (by omega) hts hTj, zk_some, zlp_r]
      exact Or.inl ⟨j, j1, j2, j3, hTj⟩
  · have := zqft_lt hl f3
    rw [hg1 s f (by omega) f2, zk_some, zlp_r]
    exact Or.inr ⟨f, f1, f2, f3⟩
/-- at the beginning of a row -/
def zRB (S : Nat) (z : ZQ) (i : Nat) (M0 M : ZMem) : Prop := zP (zWsr S) M0 M ∧ zrt i M ∧ M.1 4 S = zI (qr z) ∧ zclR S z M ∧ (ql z = 0 ∧ qn z = 0 ∧ qe z = 0)
/-- a row is closed -/
def zRC (S : Nat) (z : ZQ) (i : Nat) (M0 M : ZMem) : Prop := zP (zWsr S) M0 M ∧ zrt i M ∧ M.1 4 S = zI ((qr z + 1 : Nat) : Int) ∧ zclR S (zqc S z) M ∧ 1 ≤ qn z ∧ qr z < 4
theorem r_readsRow {M0 D : ZMem} {F S i : Nat} {t : List Nat} {y : ZY} (hF : F ≤ 20) (hS : S < 6) (hF0 : M0.1 0 4 = zI F) (hS0 : M0.1 0 8 = zI S) (hb : okB t) (ht : tapeR t M0) (hw : zqw F S t (zz0 y) i) (h : zRB S (zqs S t (zz0 y) i) i M0 D) : zOk (f_X12_readsRow D) (fun E => (∃ j, i ≤ j ∧ zqw F S t (zz0 y) j ∧ zRC S (zqs S t (zz0 y) j) j M0 E ∧ zch t j ≠ 46 ∧ ¬ ((97 ≤ zch t j ∧ zch t j ≤ 122) ∧ qe (zqs S t (zz0 y) j) = 0)) ∨ zFs F S t y M0 E) := by
  have hl := hb.1
  have hi := hw.1
  have hzb := zqb_i (zqb_0 F S y) i hw
  obtain ⟨p1, ⟨p2, p3⟩, p4, p5, p6⟩ := h
  have z1 := hzb.1
  have hS1 : D.1 0 8 = zI S := by rw [p1.1 0 8 rfl]; exact hS0
  have htD : tapeR t D := ⟨by rw [p1.1 0 1 rfl]; exact ht.1, fun j hj => by rw [p1.1 1 j rfl]; exact ht.2 j hj⟩
  have hFD : D.1 0 4 = zI F := by rw [p1.1 0 4 rfl]; exact hF0
  have hcr := zch_rng hb i
  have bad79 : ∀ (E : ZMem) (k : Nat) (x : Int32), k ≠ 0 → zqf F (zch t i) (zqs S t (zz0 y) i) k → E.1 0 3 = zI ((8 * i + k : Nat) : Int) → zP (zWsr S) M0 E → zOk (f_X12_readsRow_79 E x) (fun E => (∃ j, i ≤ j ∧ zqw F S t (zz0 y) j ∧ zRC S (zqs S t (zz0 y) j) j M0 E ∧ zch t j ≠ 46 ∧ ¬ ((97 ≤ zch t j ∧ zch t j ≤ 122) ∧ qe (zqs S t (zz0 y) j) = 0)) ∨ zFs F S t y M0 E) := by
    intro E k x k0 kf e3 eP
    have := zqf_le kf
    unfold f_X12_readsRow_79
    rw [r_isWr (by omega) e3, zb_some, if_pos rfl, zk_some]
    exact Or.inr ⟨8 * i + k, eP, e3, ⟨i, k, hw, k0, kf, rfl⟩⟩
  have stay : ∀ (E : ZMem) (k : Nat) (a b : Int32), k ≤ 3 → E.1 0 3 = zI ((8 * i + k : Nat) : Int) → f_X12_fails E a b = some E := by
    intro E k a b k3 e3
    unfold f_X12_fails
    rw [e3, if_neg (by simp (disch := omega) only [zk_bind, zk_chk, zk_bnd, zk_some, zlp_l, zlp_r, zb_some, zb_bnd, zI_add, zI_sub, zI_mul, zI_neg, zI_le, zI_lt, zI_eq, zI_ix, zI_inI, Int.toNat_natCast, Int.toNat_add, Int.toNat_mul, true_and, and_true]; omega)]
  have bad35 : ∀ (E : ZMem) (k : Nat), k ≠ 0 → zqf F (zch t i) (zqs S t (zz0 y) i) k → E.1 0 3 = zI ((8 * i + k : Nat) : Int) → E.1 0 2 = zI i → E.1 0 4 = zI F → tapeR t E → zP (zWsr S) M0 E → zOk (f_X12_readsRow_35 E (zI (qr (zqs S t (zz0 y) i)))) (fun E => (∃ j, i ≤ j ∧ zqw F S t (zz0 y) j ∧ zRC S (zqs S t (zz0 y) j) j M0 E ∧ zch t j ≠ 46 ∧ ¬ ((97 ≤ zch t j ∧ zch t j ≤ 122) ∧ qe (zqs S t (zz0 y) j) = 0)) ∨ zFs F S t y M0 E) := by
    intro E k k0 kf e3 e2 e4 et eP
    have := zqf_le kf
    unfold f_X12_readsRow_35 f_X12_readsRow_70
    have st1 : ∀ a b, f_X12_fails E a b = some E := fun a b => stay E k a b this e3
    simp only [r_isLetter hb et (by omega) e2, r_sign hb et (by omega) e2, st1, zb_some, ite_self]
    exact bad79 E k _ k0 kf e3 eP
  -- a fault here
  have flt : ∀ (k : Nat) (c : Int), c = 8 * (i : Int) + k → k ≠ 0 → k ≤ 3 → (zstI D 0 3 (zI c)).1 0 3 = zI ((8 * i + k : Nat) : Int) ∧ (zstI D 0 3 (zI c)).1 0 2 = zI i ∧ (zstI D 0 3 (zI c)).1 0 4 = zI F ∧ tapeR t (zstI D 0 3 (zI c)) ∧ zP (zWsr S) M0 (zstI D 0 3 (zI c)) := by
    intro k c hc k0 k3
    refine ⟨by rw [zm_Is]; exact zI_inj (by omega), by rw [zm_In _ _ _ _ (by decide)]; exact p2, by rw [zm_In _ _ _ _ (by decide)]; exact hFD, ⟨by rw [zm_In _ _ _ _ (by decide)]; exact htD.1, fun j hj => by rw [zm_Iq _ _ _ _ (by decide)]; exact htD.2 j hj⟩, zP_I p1 (by unfold zWsr; simp)⟩
  have good35 : (zch t i = 46 ∨ (97 ≤ zch t i ∧ zch t i ≤ 122)) → zOk (f_X12_readsRow_35 D (zI (qr (zqs S t (zz0 y) i)))) (fun E => (∃ j, i ≤ j ∧ zqw F S t (zz0 y) j ∧ zRC S (zqs S t (zz0 y) j) j M0 E ∧ zch t j ≠ 46 ∧ ¬ ((97 ≤ zch t j ∧ zch t j ≤ 122) ∧ qe (zqs S t (zz0 y) j) = 0)) ∨ zFs F S t y M0 E) := by
    intro hch
    unfold f_X12_readsRow_35
    by_cases h4 : qr (zqs S t (zz0 y) i) = 4
    · have hm : zqm (zqs S t (zz0 y) i) := Or.inl (by omega)
      rw [if_pos (by rw [h4]; rfl), r_isLetter hb htD (by omega) p2, zb_some, r_sign hb htD (by omega) p2, zb_some, zI_sub, hFD]
      have f3 : (zch t i = 46 ∨ zch t i < 97 + (F : Int)) → zOk (f_X12_readsRow_70 D (zI (qr (zqs S t (zz0 y) i)))) (fun E => (∃ j, i ≤ j ∧ zqw F S t (zz0 y) j ∧ zRC S (zqs S t (zz0 y) j) j M0 E ∧ zch t j ≠ 46 ∧ ¬ ((97 ≤ zch t j ∧ zch t j ≤ 122) ∧ qe (zqs S t (zz0 y) j) = 0)) ∨ zFs F S t y M0 E) := by
        intro hlow
        unfold f_X12_readsRow_70 f_X12_fails
        rw [p3, if_pos rfl, p2, zI_mul, zI_add, zb_bnd, zb_some]
        obtain ⟨q1, _, _, _, q5⟩ := flt 3 (8 * (i : Int) + 3) (by omega) (by omega) (by omega)
        refine bad79 _ 3 _ (by omega) ?_ q1 q5
        by_cases c46 : zch t i = 46
        · exact Or.inr (Or.inl ⟨c46, Or.inl ⟨hm, rfl⟩⟩)
        · exact Or.inr (Or.inr ⟨⟨by omega, by omega, by omega⟩, Or.inr ⟨⟨by omega, p6.2.2⟩, Or.inr ⟨by omega, Or.inl ⟨hm, rfl⟩⟩⟩⟩)
      by_cases hlt : 97 ≤ zch t i ∧ zch t i ≤ 122
      · rw [if_neg (fun hh => zb_0.mp hh hlt)]
        by_cases hlow : zch t i < 97 + (F : Int)
        · rw [if_pos (by simp (disch := omega) only [zk_bind, zk_chk, zk_bnd, zk_some, zlp_l, zlp_r, zb_some, zb_bnd, zI_add, zI_sub, zI_mul, zI_neg, zI_le, zI_lt, zI_eq, zI_ix, zI_inI, Int.toNat_natCast, Int.toNat_add, Int.toNat_mul, true_and, and_true]; omega)]
          exact f3 (Or.inr hlow)
        · rw [if_neg (by simp (disch := omega) only [zk_bind, zk_chk, zk_bnd, zk_some, zlp_l, zlp_r, zb_some, zb_bnd, zI_add, zI_sub, zI_mul, zI_neg, zI_le, zI_lt, zI_eq, zI_ix, zI_inI, Int.toNat_natCast, Int.toNat_add, Int.toNat_mul, true_and, and_true]; omega)]
          have ef : f_X12_fails D (zI 2) (D.1 0 2) = some (zstI D 0 3 (zI (8 * (i : Int) + 2))) := by
            unfold f_X12_fails
            rw [p3, if_pos rfl, p2, zI_mul, zI_add, zb_bnd]
          obtain ⟨q1, q2, q3, q4, q5⟩ := flt 2 (8 * (i : Int) + 2) (by omega) (by omega) (by omega)
          rw [ef, zb_some]
          unfold f_X12_readsRow_70
          rw [stay _ 2 _ _ (by omega) q1, zb_some]
          exact bad79 _ 2 _ (by omega) (Or.inr (Or.inr ⟨⟨by omega, by omega, by omega⟩, Or.inr ⟨⟨hlt, p6.2.2⟩, Or.inl ⟨by omega, rfl⟩⟩⟩)) q1 q5
      · rw [if_pos (zb_0.mpr hlt)]
        exact f3 (Or.inl (by omega))
    · rw [if_neg (by simp (disch := omega) only [zk_bind, zk_chk, zk_bnd, zk_some, zlp_l, zlp_r, zb_some, zb_bnd, zI_add, zI_sub, zI_mul, zI_neg, zI_le, zI_lt, zI_eq, zI_ix, zI_inI, Int.toNat_natCast, Int.toNat_add, Int.toNat_mul, true_and, and_true]; omega)]
      generalize hr0 : qr (zqs S t (zz0 y) i) = r0 at h4 z1
      have r04 : r0 < 4 := by omega
      have dot : ∀ j, zch t j = 46 → qr (zqs S t (zz0 y) (j + 1)) = qr (zqs S t (zz0 y) j) ∧ qn (zqs S t (zz0 y) (j + 1)) = qn (zqs S t (zz0 y) j) ∧ (qn (zqs S t (zz0 y) j) ≠ 0 → 0 < qe (zqs S t (zz0 y) (j + 1))) := by
        intro j hj
        show qr (zq1 S (zch t j) (zqs S t (zz0 y) j)) = _ ∧ qn (zq1 S (zch t j) (zqs S t (zz0 y) j)) = _ ∧ (_ → 0 < qe (zq1 S (zch t j) (zqs S t (zz0 y) j)))
        unfold zq1
        rw [if_neg (by omega), if_pos hj]
        by_cases hn : qn (zqs S t (zz0 y) j) = 0
        · rw [if_pos hn]
          exact ⟨rfl, rfl, fun hh => absurd hn hh⟩
        · rw [if_neg hn]
          exact ⟨rfl, rfl, fun _ => Nat.succ_pos _⟩
      have fin150 : ∀ E : ZMem, zFs F S t y M0 E → zOk (f_X12_readsRow_150 E (zI ((4 * S + r0 : Nat) : Int))) (fun E => (∃ j, i ≤ j ∧ zqw F S t (zz0 y) j ∧ zRC S (zqs S t (zz0 y) j) j M0 E ∧ zch t j ≠ 46 ∧ ¬ ((97 ≤ zch t j ∧ zch t j ≤ 122) ∧ qe (zqs S t (zz0 y) j) = 0)) ∨ zFs F S t y M0 E) := by
        rintro E ⟨f, f1, f2, f3⟩
        have ff := zqft_lt hl f3
        have l1 : zloop (f_X12_readsRow_L150 (zI ((4 * S + r0 : Nat) : Int))) E = some E := zloop_out (by unfold f_X12_readsRow_L150; rw [r_isWr (by omega) f2, zb_some, if_pos rfl])
        have l2 : zloop (f_X12_readsRow_L172 (zI ((4 * S + r0 : Nat) : Int))) E = some E := zloop_out (by unfold f_X12_readsRow_L172; rw [r_isWr (by omega) f2, zb_some, if_pos rfl])
        have e8 : E.1 0 8 = zI S := by rw [f1.1 0 8 rfl]; exact hS0
        unfold f_X12_readsRow_150
        rw [l1, zb_some, l2, zb_some, e8, zI_inI (by omega) (by omega) (by omega), zb_chk, zb_chk, zk_bnd, zk_some, zI_ix (by omega) (by omega), Int.toNat_natCast]
        exact Or.inr ⟨f, zP_I f1 (by unfold zWsr; simp), by rw [zm_Iq _ _ _ _ (by decide)]; exact f2, f3⟩
      unfold f_X12_readsRow_79
      rw [r_isR p3, zb_some, if_neg (by decide), hS1, zI_mul, zI_add, zk_bnd, show (4 * (S : Int) + (r0 : Int)) = ((4 * S + r0 : Nat) : Int) by omega, zI_inI (by omega) (by omega) (by omega), zb_chk, zk_bnd, zI_ix (by omega) (by omega), Int.toNat_natCast, zk_bind]
      have st : zRR S (zqs S t (zz0 y) i) i M0 (zstI D 5 (4 * S + r0) (zI 0)) := by
        refine ⟨zP_I p1 (by unfold zWsr; simp), ⟨by rw [zm_Iq _ _ _ _ (by decide)]; exact p2, by rw [zm_Iq _ _ _ _ (by decide)]; exact p3⟩, by rw [zm_Iq _ _ _ _ (by decide)]; exact p4, fun r hr' => ?_, ⟨?_, fun k hk => by omega, fun k hk => by omega, fun k hk => by omega⟩⟩
        · exact zplR_x (by rw [zm_In _ _ _ _ (by omega)]) (fun k hk => by rw [zm_Iq _ _ _ _ (by decide)]) (hzb.2.2.2.2.1 r hr').2.1 (p5 r hr')
        · rw [hr0, zm_Is, p6.1, p6.2.1, p6.2.2]
          rfl
      refine zOk_mono (r_run hF hS r04 hF0 hb ht (g := f_X12_readsRow_L103 (zI ((4 * S + r0 : Nat) : Int))) (fun c => c = 46) (fun j => qr (zqs S t (zz0 y) j) = r0 ∧ qn (zqs S t (zz0 y) j) = 0 ∧ i ≤ j) (fun j _ hT => Or.inl hT) (fun j h1 h2 => ⟨by rw [(dot j h2).1]; exact h1.1, by rw [(dot j h2).2.1]; exact h1.2.1, by have := h1.2.2; omega⟩) (fun j h1 => h1.1) ?_ ?_ ?_ hw st ⟨hr0, p6.2.1, Nat.le_refl _⟩) (fun E1 k1 => ?_)
      · intro s f hf hs
        unfold f_X12_readsRow_L103
        rw [r_isWr hf hs, zb_some, if_pos rfl]
      · intro s j hs hj hts hT
        have := zch_rng hb j
        unfold f_X12_readsRow_L103
        rw [r_isR hs.2, zb_some, if_neg (by decide), r_sign hb hts (by omega) hs.1, zb_some, if_neg (by simp (disch := omega) only [zk_bind, zk_chk, zk_bnd, zk_some, zlp_l, zlp_r, zb_some, zb_bnd, zI_add, zI_sub, zI_mul, zI_neg, zI_le, zI_lt, zI_eq, zI_ix, zI_inI, Int.toNat_natCast, Int.toNat_add, Int.toNat_mul, true_and, and_true]; omega)]
      · intro s j hs hj hts hT
        unfold f_X12_readsRow_L103
        rw [r_isR hs.2, zb_some, if_neg (by decide), r_sign hb hts (by omega) hs.1, zb_some, if_pos (by rw [hT])]
      rcases k1 with ⟨j1, w1, s1, ⟨q1, q2, q0⟩, n1⟩ | hfs
      · have hj1 := w1.1
        have htE : tapeR t E1 := ⟨by rw [s1.1.1 0 1 rfl]; exact ht.1, fun k hk => by rw [s1.1.1 1 k rfl]; exact ht.2 k hk⟩
        have hzb1 := zqb_i (zqb_0 F S y) j1 w1
        have he1 := hzb1.2.2.2.1 q2
        rw [r_isR s1.2.1.2, zb_some, if_neg (by decide), r_isLetter hb htE (by omega) s1.2.1.1, zb_some]
        by_cases hlt : 97 ≤ zch t j1 ∧ zch t j1 ≤ 122
        · rw [if_neg (fun hh => zb_0.mp hh hlt)]
          unfold f_X12_readsRow_150
          rw [zk_bind]
          refine zOk_mono (r_run hF hS r04 hF0 hb ht (g := f_X12_readsRow_L150 (zI ((4 * S + r0 : Nat) : Int))) (fun c => 97 ≤ c ∧ c ≤ 122) (fun j => qr (zqs S t (zz0 y) j) = r0 ∧ qe (zqs S t (zz0 y) j) = 0 ∧ (j = j1 ∨ 1 ≤ qn (zqs S t (zz0 y) j)) ∧ i ≤ j) (fun j h1 hT => Or.inr ⟨hT, h1.2.1⟩) (fun j h1 h2 => ?_) (fun j h1 => h1.1) ?_ ?_ ?_ w1 s1 ⟨q1, he1, Or.inl rfl, q0⟩) (fun E2 k2 => ?_)
          · show qr (zq1 S (zch t j) (zqs S t (zz0 y) j)) = r0 ∧ qe (zq1 S (zch t j) (zqs S t (zz0 y) j)) = 0 ∧ (j + 1 = j1 ∨ 1 ≤ qn (zq1 S (zch t j) (zqs S t (zz0 y) j))) ∧ i ≤ j + 1
            unfold zq1
            rw [if_neg (by omega), if_neg (by omega)]
            exact ⟨h1.1, h1.2.1, Or.inr (Nat.succ_pos _), by have := h1.2.2.2; omega⟩
          · intro s f hf hs
            unfold f_X12_readsRow_L150
            rw [r_isWr hf hs, zb_some, if_pos rfl]
          · intro s j hs hj hts hT
            unfold f_X12_readsRow_L150
            rw [r_isR hs.2, zb_some, if_neg (by decide), r_isLetter hb hts (by omega) hs.1, zb_some, if_pos (zb_0.mpr hT)]
          · intro s j hs hj hts hT
            unfold f_X12_readsRow_L150
            rw [r_isR hs.2, zb_some, if_neg (by decide), r_isLetter hb hts (by omega) hs.1, zb_some, if_neg (fun hh => zb_0.mp hh hT)]
          rcases k2 with ⟨j2, w2, s2, ⟨g1, g2, g3, g0⟩, n2⟩ | ⟨f, f1, f2, f3⟩
          · have hn2 : 1 ≤ qn (zqs S t (zz0 y) j2) := by
              rcases g3 with g3 | g3
              · rw [g3] at n2; exact absurd hlt n2
              · exact g3
            rw [zk_bind]
            refine zOk_mono (r_run hF hS r04 hF0 hb ht (g := f_X12_readsRow_L172 (zI ((4 * S + r0 : Nat) : Int))) (fun c => c = 46) (fun j => qr (zqs S t (zz0 y) j) = r0 ∧ 1 ≤ qn (zqs S t (zz0 y) j) ∧ ¬ ((97 ≤ zch t j ∧ zch t j ≤ 122) ∧ qe (zqs S t (zz0 y) j) = 0) ∧ i ≤ j) (fun j _ hT => Or.inl hT) (fun j h1 h2 => ⟨by rw [(dot j h2).1]; exact h1.1, by rw [(dot j h2).2.1]; exact h1.2.1, fun hh => by have := (dot j h2).2.2 (by omega); omega, by have := h1.2.2.2; omega⟩) (fun j h1 => h1.1) ?_ ?_ ?_ w2 s2 ⟨g1, hn2, fun hh => n2 hh.1, g0⟩) (fun E3 k3 => ?_)
            · intro s f hf hs
              unfold f_X12_readsRow_L172
              rw [r_isWr hf hs, zb_some, if_pos rfl]
            · intro s j hs hj hts hT
              have := zch_rng hb j
              unfold f_X12_readsRow_L172
              rw [r_isR hs.2, zb_some, if_neg (by decide), r_sign hb hts (by omega) hs.1, zb_some, if_neg (by simp (disch := omega) only [zk_bind, zk_chk, zk_bnd, zk_some, zlp_l, zlp_r, zb_some, zb_bnd, zI_add, zI_sub, zI_mul, zI_neg, zI_le, zI_lt, zI_eq, zI_ix, zI_inI, Int.toNat_natCast, Int.toNat_add, Int.toNat_mul, true_and, and_true]; omega)]
            · intro s j hs hj hts hT
              unfold f_X12_readsRow_L172
              rw [r_isR hs.2, zb_some, if_neg (by decide), r_sign hb hts (by omega) hs.1, zb_some, if_pos (by rw [hT])]
            have e8 : ∀ E : ZMem, zP (zWsr S) M0 E → E.1 0 8 = zI S := fun E hE => by rw [hE.1 0 8 rfl]; exact hS0
            rcases k3 with ⟨j3, w3, s3, ⟨x1, x2, x3, x0⟩, n3⟩ | ⟨f, f1, f2, f3⟩
            · obtain ⟨u1, u2, u3, u4, u5⟩ := s3
              have hzb3 := zqb_i (zqb_0 F S y) j3 w3
              rw [e8 E3 u1, zI_inI (by omega) (by omega) (by omega), zb_chk, zb_chk, zk_bnd, zk_some, zI_ix (by omega) (by omega), Int.toNat_natCast, u3, zI_add]
              refine Or.inl ⟨j3, x0, w3, ⟨zP_I u1 (by unfold zWsr; simp), ⟨by rw [zm_Iq _ _ _ _ (by decide)]; exact u2.1, by rw [zm_Iq _ _ _ _ (by decide)]; exact u2.2⟩, by rw [zm_Is]; exact zI_inj (by omega), fun r hr' => ?_, x2, by omega⟩, n3, x3⟩
              have hr2 : r < qr (zqs S t (zz0 y) j3) + 1 := hr'
              show zplR _ (4 * S + r) (zup (qL (zqs S t (zz0 y) j3)) (4 * S + qr (zqs S t (zz0 y) j3)) (ql (zqs S t (zz0 y) j3)) (4 * S + r)) (zup (qN (zqs S t (zz0 y) j3)) (4 * S + qr (zqs S t (zz0 y) j3)) (qn (zqs S t (zz0 y) j3)) (4 * S + r)) (zup (qE (zqs S t (zz0 y) j3)) (4 * S + qr (zqs S t (zz0 y) j3)) (qe (zqs S t (zz0 y) j3)) (4 * S + r)) (qX (zqs S t (zz0 y) j3))
              by_cases hrr : r = qr (zqs S t (zz0 y) j3)
              · rw [hrr, zup_s, zup_s, zup_s]
                exact zplR_x (by rw [zm_Iq _ _ _ _ (by decide)]) (fun k hk => by rw [zm_Iq _ _ _ _ (by decide)]) hzb3.2.1 u5
              · rw [zup_n (by omega), zup_n (by omega), zup_n (by omega)]
                exact zplR_x (by rw [zm_Iq _ _ _ _ (by decide)]) (fun k hk => by rw [zm_Iq _ _ _ _ (by decide)]) (hzb3.2.2.2.2.1 r (by omega)).2.1 (u4 r (by omega))
            · rw [e8 E3 f1, zI_inI (by omega) (by omega) (by omega), zb_chk, zb_chk, zk_bnd, zk_some, zI_ix (by omega) (by omega), Int.toNat_natCast]
              exact Or.inr ⟨f, zP_I f1 (by unfold zWsr; simp), by rw [zm_Iq _ _ _ _ (by decide)]; exact f2, f3⟩
          · have := fin150 E2 ⟨f, f1, f2, f3⟩
            have ff := zqft_lt hl f3
            have l1 : zloop (f_X12_readsRow_L150 (zI ((4 * S + r0 : Nat) : Int))) E2 = some E2 := zloop_out (by unfold f_X12_readsRow_L150; rw [r_isWr (by omega) f2, zb_some, if_pos rfl])
            unfold f_X12_readsRow_150 at this
            rw [l1, zb_some] at this
            exact this
        · rw [if_pos (zb_0.mpr hlt)]
          have hc1 := zch_rng hb j1
          unfold f_X12_fails
          rw [s1.2.1.2, if_pos rfl, s1.2.1.1, zI_mul, zI_add, zb_bnd, zb_some]
          refine fin150 _ ⟨8 * j1 + 1, zP_I s1.1 (by unfold zWsr; simp), by rw [zm_Is]; exact zI_inj (by omega), j1, 1, w1, by omega, ?_, rfl⟩
          by_cases c47 : zch t j1 = -1 ∨ zch t j1 = 47
          · exact Or.inl ⟨c47, by rw [if_pos q2]⟩
          · exact Or.inr (Or.inr ⟨⟨by omega, by omega, n1⟩, Or.inl ⟨fun hh => hlt hh.1, rfl⟩⟩)
      · obtain ⟨f, f1, f2, f3⟩ := hfs
        have ff := zqft_lt hl f3
        rw [r_isWr (by omega) f2, zb_some, if_pos rfl]
        exact fin150 E1 ⟨f, f1, f2, f3⟩
  unfold f_X12_readsRow
  rw [hS1, zI_inI (by omega) (by omega) (by omega), zb_chk, zk_bnd, zI_ix (by omega) (by omega), Int.toNat_natCast, p4, r_isLetter hb htD (by omega) p2, zb_some, r_sign hb htD (by omega) p2, zb_some]
  by_cases hlt : 97 ≤ zch t i ∧ zch t i ≤ 122
  · rw [if_neg (fun hh => zb_0.mp hh hlt)]
    exact good35 (Or.inr hlt)
  · rw [if_pos (zb_0.mpr hlt)]
    by_cases c46 : zch t i = 46
    · rw [if_pos (by rw [c46])]
      exact good35 (Or.inl c46)
    · rw [if_neg (by simp (disch := omega) only [zk_bind, zk_chk, zk_bnd, zk_some, zlp_l, zlp_r, zb_some, zb_bnd, zI_add, zI_sub, zI_mul, zI_neg, zI_le, zI_lt, zI_eq, zI_ix, zI_inI, Int.toNat_natCast, Int.toNat_add, Int.toNat_mul, true_and, and_true]; omega)]
      have ef : f_X12_fails D (zI 1) (D.1 0 2) = some (zstI D 0 3 (zI (8 * (i : Int) + 1))) := by
        unfold f_X12_fails
        rw [p3, if_pos rfl, p2, zI_mul, zI_add, zb_bnd]
      obtain ⟨q1, q2, q3, q4, q5⟩ := flt 1 (8 * (i : Int) + 1) (by omega) (by omega) (by omega)
      rw [ef, zb_some]
      refine bad35 _ 1 (by omega) ?_ q1 q2 q3 q4 q5
      by_cases c47 : zch t i = -1 ∨ zch t i = 47
      · exact Or.inl ⟨c47, by rw [if_pos p6.2.1]⟩
      · exact Or.inr (Or.inr ⟨⟨by omega, by omega, c46⟩, Or.inl ⟨fun hh => hlt hh.1, rfl⟩⟩)
/-- what the whole text tells -/
def zWsr2 (S : Nat) (a k : Nat) : Bool := zWsr S a k || (a == 0 && (k == 1 || k == 8 || k == 17 || k == 45))
theorem r_stone {M : ZMem} {F S : Nat} {t : List Nat} {y : ZY} (hF : F ≤ 20) (hS : S < 6) (hF0 : M.1 0 4 = zI F) (hS0 : M.1 0 8 = zI S) (hb : okB t) (ht : tapeR t M) : zOk (f_X12_stone M) (fun r => zP (zWsr2 S) M r.1 ∧ r.1.1 0 1 = zI 0 ∧ ((zqok F S t (zz0 y) ∧ r.2 = zI S ∧ r.1.1 0 8 = zI ((S + 1 : Nat) : Int) ∧ r.1.1 0 17 = zI 0 ∧ r.1.1 0 45 = zI 0 ∧ r.1.1 4 S = zI ((qr (zqs S t (zz0 y) t.length) + 1 : Nat) : Int) ∧ zclR S (zqc S (zqs S t (zz0 y) t.length)) r.1) ∨ ∃ f, zqft F S t (zz0 y) f ∧ r.2 = zI (-2 - (f : Int)) ∧ r.1.1 0 8 = zI S ∧ r.1.1 0 17 = M.1 0 17 ∧ r.1.1 0 45 = M.1 0 45)) := by
  have hl := hb.1
  have mono : ∀ a k, zWsr2 S a k = false → zWsr S a k = false := fun a k ha => by
    unfold zWsr2 at ha
    rw [Bool.or_eq_false_iff] at ha
    exact ha.1
  have bad97 : ∀ E : ZMem, zFs F S t y M E → zOk (f_X12_stone_97 E) (fun r => zP (zWsr2 S) M r.1 ∧ r.1.1 0 1 = zI 0 ∧ ((zqok F S t (zz0 y) ∧ r.2 = zI S ∧ r.1.1 0 8 = zI ((S + 1 : Nat) : Int) ∧ r.1.1 0 17 = zI 0 ∧ r.1.1 0 45 = zI 0 ∧ r.1.1 4 S = zI ((qr (zqs S t (zz0 y) t.length) + 1 : Nat) : Int) ∧ zclR S (zqc S (zqs S t (zz0 y) t.length)) r.1) ∨ ∃ f, zqft F S t (zz0 y) f ∧ r.2 = zI (-2 - (f : Int)) ∧ r.1.1 0 8 = zI S ∧ r.1.1 0 17 = M.1 0 17 ∧ r.1.1 0 45 = M.1 0 45)) := by
    rintro E ⟨f, f1, f2, f3⟩
    have ff := zqft_lt hl f3
    have w : (zstI E 0 1 (zI 0)).1 0 3 = zI f := by rw [zm_In _ _ _ _ (by decide)]; exact f2
    unfold f_X12_stone_97
    rw [zk_bnd, r_isWr (by omega) w, zb_some, if_pos rfl, zk_some, w, zI_sub]
    refine ⟨zP_I (zP_mono f1 mono) (by unfold zWsr2; simp), zm_Is _ _ _ _, Or.inr ⟨f, f3, rfl, ?_, ?_, ?_⟩⟩
    · dsimp only
      rw [zm_In _ _ _ _ (by decide), f1.1 0 8 rfl]; exact hS0
    · dsimp only
      rw [zm_In _ _ _ _ (by decide), f1.1 0 17 rfl]
    · dsimp only
      rw [zm_In _ _ _ _ (by decide), f1.1 0 45 rfl]
  unfold f_X12_stone f_X12_starts
  rw [hS0, if_neg (by simp (disch := omega) only [zk_bind, zk_chk, zk_bnd, zk_some, zlp_l, zlp_r, zb_some, zb_bnd, zI_add, zI_sub, zI_mul, zI_neg, zI_le, zI_lt, zI_eq, zI_ix, zI_inI, Int.toNat_natCast, Int.toNat_add, Int.toNat_mul, true_and, and_true]; omega), zb_bnd, zb_bnd, zb_some, zm_In _ _ _ _ (by decide), zm_In _ _ _ _ (by decide), hS0, zI_inI (by omega) (by omega) (by omega), zb_chk, zk_bnd, zI_ix (by omega) (by omega), Int.toNat_natCast, zk_bind]
  have st : zRB S (zqs S t (zz0 y) 0) 0 M (zstI (zstI (zstI M 0 2 (zI 0)) 0 3 (zI (-1))) 4 S (zI 0)) := ⟨zP_I (zP_I (zP_I zP_rf (by unfold zWsr; simp)) (by unfold zWsr; simp)) (by unfold zWsr; simp), ⟨by rw [zm_Iq _ _ _ _ (by decide), zm_In _ _ _ _ (by decide), zm_Is]; rfl, by rw [zm_Iq _ _ _ _ (by decide), zm_Is]⟩, by rw [zm_Is]; rfl, fun r hr => absurd hr (Nat.not_lt_zero r), rfl, rfl, rfl⟩
  generalize zstI (zstI (zstI M 0 2 (zI 0)) 0 3 (zI (-1))) 4 S (zI 0) = M1 at st ⊢
  -- after the loop
  have aft : ∀ E : ZMem, ((∃ j, zqw F S t (zz0 y) j ∧ zRC S (zqs S t (zz0 y) j) j M E ∧ zch t j ≠ 46 ∧ zch t j ≠ 47 ∧ ¬ ((97 ≤ zch t j ∧ zch t j ≤ 122) ∧ qe (zqs S t (zz0 y) j) = 0)) ∨ zFs F S t y M E) → zOk (zbind (f_X12_isRight E) (fun r_74 => if r_74 = (zI 0) then f_X12_stone_97 E else zbind (f_X12_sign E) (fun r_81 => if r_81 = (zI (-1)) then f_X12_stone_97 E else zbind (f_X12_fails E (zI 1) (E.1 0 2)) (fun M_94 => f_X12_stone_97 M_94)))) (fun r => zP (zWsr2 S) M r.1 ∧ r.1.1 0 1 = zI 0 ∧ ((zqok F S t (zz0 y) ∧ r.2 = zI S ∧ r.1.1 0 8 = zI ((S + 1 : Nat) : Int) ∧ r.1.1 0 17 = zI 0 ∧ r.1.1 0 45 = zI 0 ∧ r.1.1 4 S = zI ((qr (zqs S t (zz0 y) t.length) + 1 : Nat) : Int) ∧ zclR S (zqc S (zqs S t (zz0 y) t.length)) r.1) ∨ ∃ f, zqft F S t (zz0 y) f ∧ r.2 = zI (-2 - (f : Int)) ∧ r.1.1 0 8 = zI S ∧ r.1.1 0 17 = M.1 0 17 ∧ r.1.1 0 45 = M.1 0 45)) := by
    rintro E (⟨j, w1, ⟨c1, c2, c3, c4, c5, c6⟩, n46, n47, nl⟩ | hfs)
    · have hj := w1.1
      have hcj := zch_rng hb j
      have htE : tapeR t E := ⟨by rw [c1.1 0 1 rfl]; exact ht.1, fun k hk => by rw [c1.1 1 k rfl]; exact ht.2 k hk⟩
      rw [r_isR c2.2, zb_some, if_neg (by decide), r_sign hb htE (by omega) c2.1, zb_some]
      by_cases he : zch t j = -1
      · have hjl : j = t.length := by
          apply Classical.byContradiction
          intro hh
          rw [zch_l (by omega)] at he
          omega
        subst hjl
        have hzb := zqb_i (zqb_0 F S y) _ w1
        have w : (zstI E 0 1 (zI 0)).1 0 3 = zI (-1) := by rw [zm_In _ _ _ _ (by decide)]; exact c2.2
        have w8 : (zstI E 0 1 (zI 0)).1 0 8 = zI S := by rw [zm_In _ _ _ _ (by decide), c1.1 0 8 rfl]; exact hS0
        rw [if_pos (by rw [he])]
        unfold f_X12_stone_97
        rw [zk_bnd, r_isR w, zb_some, if_neg (by decide), w8, zI_add, zk_bnd, zk_bnd, zk_bnd, zk_some]
        have e8 : (zstI (zstI (zstI (zstI E 0 1 (zI 0)) 0 8 (zI ((S : Int) + 1))) 0 17 (zI 0)) 0 45 (zI 0)).1 0 8 = zI ((S + 1 : Nat) : Int) := by rw [zm_In _ _ _ _ (by decide), zm_In _ _ _ _ (by decide), zm_Is]; exact zI_inj (by omega)
        have eo : ∀ a k, a ≠ 0 → (zstI (zstI (zstI (zstI E 0 1 (zI 0)) 0 8 (zI ((S : Int) + 1))) 0 17 (zI 0)) 0 45 (zI 0)).1 a k = E.1 a k := fun a k ha => by rw [zm_Iq _ _ _ _ ha, zm_Iq _ _ _ _ ha, zm_Iq _ _ _ _ ha, zm_Iq _ _ _ _ ha]
        refine ⟨zP_I (zP_I (zP_I (zP_I (zP_mono c1 mono) (by unfold zWsr2; simp)) (by unfold zWsr2; simp)) (by unfold zWsr2; simp)) (by unfold zWsr2; simp), by (try dsimp only); rw [zm_In _ _ _ _ (by decide), zm_In _ _ _ _ (by decide), zm_In _ _ _ _ (by decide), zm_Is], Or.inl ⟨⟨w1, Or.inl ⟨Or.inl rfl, by rw [if_neg (by omega)]⟩⟩, ?_, e8, ?_, zm_Is _ _ _ _, ?_, fun r hr' => ?_⟩⟩
        · dsimp only
          rw [e8, zI_sub]
          exact zI_inj (by omega)
        · dsimp only
          rw [zm_In _ _ _ _ (by decide), zm_Is]
        · dsimp only
          rw [eo 4 _ (by decide)]
          exact c3
        · have hr2 : r < qr (zqs S t (zz0 y) t.length) + 1 := hr'
          refine zplR_x (by dsimp only; rw [eo 5 _ (by decide)]) (fun k hk => by dsimp only; rw [eo 6 _ (by decide)]) ?_ (c4 r hr')
          show zup (qL (zqs S t (zz0 y) t.length)) (4 * S + qr (zqs S t (zz0 y) t.length)) (ql (zqs S t (zz0 y) t.length)) (4 * S + r) + zup (qN (zqs S t (zz0 y) t.length)) (4 * S + qr (zqs S t (zz0 y) t.length)) (qn (zqs S t (zz0 y) t.length)) (4 * S + r) + zup (qE (zqs S t (zz0 y) t.length)) (4 * S + qr (zqs S t (zz0 y) t.length)) (qe (zqs S t (zz0 y) t.length)) (4 * S + r) ≤ 10
          by_cases hrr : r = qr (zqs S t (zz0 y) t.length)
          · rw [hrr, zup_s, zup_s, zup_s]
            exact hzb.2.1
          · rw [zup_n (by omega), zup_n (by omega), zup_n (by omega)]
            exact (hzb.2.2.2.2.1 r (by omega)).2.1
      · rw [if_neg (by simp (disch := omega) only [zk_bind, zk_chk, zk_bnd, zk_some, zlp_l, zlp_r, zb_some, zb_bnd, zI_add, zI_sub, zI_mul, zI_neg, zI_le, zI_lt, zI_eq, zI_ix, zI_inI, Int.toNat_natCast, Int.toNat_add, Int.toNat_mul, true_and, and_true]; omega)]
        unfold f_X12_fails
        rw [c2.2, if_pos rfl, c2.1, zI_mul, zI_add, zb_bnd, zb_some]
        exact bad97 _ ⟨8 * j + 1, zP_I c1 (by unfold zWsr; simp), by rw [zm_Is]; exact zI_inj (by omega), j, 1, w1, by omega, Or.inr (Or.inr ⟨⟨he, n47, n46⟩, Or.inl ⟨nl, rfl⟩⟩), rfl⟩
    · obtain ⟨f, f1, f2, f3⟩ := hfs
      have ff := zqft_lt hl f3
      rw [r_isWr (by omega) f2, zb_some, if_pos rfl]
      exact bad97 E ⟨f, f1, f2, f3⟩
  refine zOk_loop (fun s => (s.2 = zI 1 ∧ ∃ j, zqw F S t (zz0 y) j ∧ zRB S (zqs S t (zz0 y) j) j M s.1) ∨ (s.2 = zI 0 ∧ ((∃ j, zqw F S t (zz0 y) j ∧ zRC S (zqs S t (zz0 y) j) j M s.1 ∧ zch t j ≠ 46 ∧ zch t j ≠ 47 ∧ ¬ ((97 ≤ zch t j ∧ zch t j ≤ 122) ∧ qe (zqs S t (zz0 y) j) = 0)) ∨ zFs F S t y M s.1))) (fun s => if s.2 = zI 0 then 0 else 1 + (400 - (s.1.1 0 2).toInt.toNat)) ?_ _ (M1, zI 1) (Nat.le_refl _) (Or.inl ⟨rfl, 0, ⟨Nat.zero_le _, fun j hj => absurd hj (Nat.not_lt_zero j)⟩, st⟩)
  rintro ⟨D, on⟩ (⟨o1, j, w1, hD⟩ | ⟨o1, hE⟩)
  · dsimp only at o1 hD
    have hj := w1.1
    unfold f_X12_stone_L27
    dsimp only
    rw [o1, if_neg (c := zI 1 = zI 0) (by decide), zk_bind]
    refine zOk_mono (r_readsRow hF hS hF0 hS0 hb ht w1 hD) (fun E k => ?_)
    have off : ((∃ j, zqw F S t (zz0 y) j ∧ zRC S (zqs S t (zz0 y) j) j M E ∧ zch t j ≠ 46 ∧ zch t j ≠ 47 ∧ ¬ ((97 ≤ zch t j ∧ zch t j ≤ 122) ∧ qe (zqs S t (zz0 y) j) = 0)) ∨ zFs F S t y M E) → zOk (f_X12_stone_55_L27 E) (zlp (fun s' : ZMem × Int32 => ((s'.2 = zI 1 ∧ ∃ j, zqw F S t (zz0 y) j ∧ zRB S (zqs S t (zz0 y) j) j M s'.1) ∨ (s'.2 = zI 0 ∧ ((∃ j, zqw F S t (zz0 y) j ∧ zRC S (zqs S t (zz0 y) j) j M s'.1 ∧ zch t j ≠ 46 ∧ zch t j ≠ 47 ∧ ¬ ((97 ≤ zch t j ∧ zch t j ≤ 122) ∧ qe (zqs S t (zz0 y) j) = 0)) ∨ zFs F S t y M s'.1))) ∧ (if s'.2 = zI 0 then 0 else 1 + (400 - (s'.1.1 0 2).toInt.toNat)) < (if zI 1 = zI 0 then 0 else 1 + (400 - (D.1 0 2).toInt.toNat))) (fun E => zOk (zbind (f_X12_isRight E) (fun r_74 => if r_74 = (zI 0) then f_X12_stone_97 E else zbind (f_X12_sign E) (fun r_81 => if r_81 = (zI (-1)) then f_X12_stone_97 E else zbind (f_X12_fails E (zI 1) (E.1 0 2)) (fun M_94 => f_X12_stone_97 M_94)))) (fun r => zP (zWsr2 S) M r.1 ∧ r.1.1 0 1 = zI 0 ∧ ((zqok F S t (zz0 y) ∧ r.2 = zI S ∧ r.1.1 0 8 = zI ((S + 1 : Nat) : Int) ∧ r.1.1 0 17 = zI 0 ∧ r.1.1 0 45 = zI 0 ∧ r.1.1 4 S = zI ((qr (zqs S t (zz0 y) t.length) + 1 : Nat) : Int) ∧ zclR S (zqc S (zqs S t (zz0 y) t.length)) r.1) ∨ ∃ f, zqft F S t (zz0 y) f ∧ r.2 = zI (-2 - (f : Int)) ∧ r.1.1 0 8 = zI S ∧ r.1.1 0 17 = M.1 0 17 ∧ r.1.1 0 45 = M.1 0 45)))) := by
      intro hE
      unfold f_X12_stone_55_L27 f_X12_stone_56_L27
      rw [r_truth, if_pos rfl, zb_some, show E.1 0 2 + zI 0 = E.1 0 2 from Int32.add_zero _, zstI_id, zk_bnd, zk_some, zlp_l]
      refine ⟨Or.inr ⟨rfl, hE⟩, ?_⟩
      rw [if_pos rfl, if_neg (by decide)]
      omega
    rcases k with ⟨j', jj, w2, hC, n46, nl⟩ | hfs
    · have hj' := w2.1
      have hcj := zch_rng hb j'
      have htE : tapeR t E := ⟨by rw [hC.1.1 0 1 rfl]; exact ht.1, fun k hk => by rw [hC.1.1 1 k rfl]; exact ht.2 k hk⟩
      rw [r_isR hC.2.1.2, zb_some, if_neg (by decide), r_sign hb htE (by omega) hC.2.1.1, zb_some]
      by_cases c47 : zch t j' = 47
      · have hlt : j' < t.length := by
          apply Classical.byContradiction
          intro hh
          rw [zch_e (by omega)] at c47
          omega
        have hq : zqs S t (zz0 y) (j' + 1) = zqc S (zqs S t (zz0 y) j') := if_pos c47
        rw [if_pos (by rw [c47])]
        unfold f_X12_stone_56_L27
        rw [r_truth, if_neg (by decide), zb_some, hC.2.1.1, zI_add, zk_bnd, zk_some, zlp_l]
        have hzb := zqb_i (zqb_0 F S y) _ w2
        have hw3 : zqw F S t (zz0 y) (j' + 1) := zqw_s w2 hlt (Or.inl ⟨Or.inr c47, by rw [if_neg (by have := hC.2.2.2.2.1; omega)]⟩)
        have hzb3 := zqb_i (zqb_0 F S y) _ hw3
        refine ⟨Or.inl ⟨rfl, j' + 1, hw3, ?_⟩, ?_⟩
        · rw [hq] at hzb3 ⊢
          refine ⟨zP_I hC.1 (by unfold zWsr; simp), ⟨by rw [zm_Is]; exact zI_inj (by omega), by rw [zm_In _ _ _ _ (by decide)]; exact hC.2.1.2⟩, by rw [zm_Iq _ _ _ _ (by decide)]; exact hC.2.2.1, fun r hr' => ?_, rfl, rfl, rfl⟩
          exact zplR_x (by rw [zm_Iq _ _ _ _ (by decide)]) (fun k hk => by rw [zm_Iq _ _ _ _ (by decide)]) (hzb3.2.2.2.2.1 r hr').2.1 (hC.2.2.2.1 r hr')
        · dsimp only
          rw [if_neg (c := zI 1 = zI 0) (by decide), if_neg (c := zI 1 = zI 0) (by decide), zm_Is, hD.2.1.1, zI_toInt (by omega) (by omega), zI_toInt (by omega) (by omega)]
          omega
      · rw [if_neg (by simp (disch := omega) only [zk_bind, zk_chk, zk_bnd, zk_some, zlp_l, zlp_r, zb_some, zb_bnd, zI_add, zI_sub, zI_mul, zI_neg, zI_le, zI_lt, zI_eq, zI_ix, zI_inI, Int.toNat_natCast, Int.toNat_add, Int.toNat_mul, true_and, and_true]; omega)]
        exact off (Or.inl ⟨j', w2, hC, n46, c47, nl⟩)
    · obtain ⟨f, f1, f2, f3⟩ := hfs
      have ff := zqft_lt hl f3
      rw [r_isWr (by omega) f2, zb_some, if_pos rfl]
      exact off (Or.inr ⟨f, f1, f2, f3⟩)
  · dsimp only at o1 hE
    unfold f_X12_stone_L27
    dsimp only
    rw [o1, if_pos rfl, zk_some, zlp_r]
    exact aft D hE
