/-! ===== signs of the reference ===== deps: 91.signs -/
/-- one pass of spreading -/
def zSp (F : Nat) (lk : Nat → Nat → Prop) (m : Nat) (done : Nat → Nat → Prop) (L : Nat → Nat) (on : Nat) : Prop := (∀ i, i < F → L i ≤ i) ∧ (∀ g : Nat → Nat, (∀ i j, i < F → j < F → lk i j → g i = g j) → ∀ i, i < F → g (L i) = g i) ∧ zsum F L ≤ m ∧ on ≤ 1 ∧ (on = 1 → zsum F L < m) ∧ (on = 0 → ∀ a b, a < F → b < F → done a b → ¬ (L a < L b ∧ lk a b))
theorem zsum_upd {F : Nat} {L L' : Nat → Nat} {b : Nat} (hb : b < F) (h1 : L' b < L b) (h2 : ∀ i, i < F → i ≠ b → L' i = L i) : zsum F L' < zsum F L := by
  induction F with
  | zero => omega
  | succ n ih =>
    rw [zsum_s, zsum_s]
    by_cases hn : b = n
    · subst hn
      rw [zsum_cg (f := L') (g := L) (fun i hi => h2 i (by omega) (by omega))]
      omega
    · have := ih (by omega) (fun i hi hne => h2 i (by omega) hne)
      rw [h2 n (by omega) (Ne.symm hn)]
      omega
theorem zSp_hit {F : Nat} {lk : Nat → Nat → Prop} {m : Nat} {done done' : Nat → Nat → Prop} {L : Nat → Nat} {on a b : Nat} (h : zSp F lk m done L on) (ha : a < F) (hb : b < F) (hl : L a < L b) (hlk : lk a b) : zSp F lk m done' (fun i => if i = b then L a else L i) 1 := by
  obtain ⟨h1, h2, h3, h4, h5, h6⟩ := h
  have hs : zsum F (fun i => if i = b then L a else L i) < zsum F L := zsum_upd hb (by simpa using hl) (fun i _ hne => by simp [hne])
  refine ⟨fun i hi => ?_, fun g hg i hi => ?_, by omega, by omega, fun _ => by omega, fun h => by omega⟩
  · have := h1 i hi
    have := h1 b hb
    dsimp only
    split
    · next e => omega
    · omega
  · dsimp only
    split
    · next e => rw [h2 g hg a ha, hg a b ha hb hlk, e]
    · exact h2 g hg i hi
theorem zSp_miss {F : Nat} {lk : Nat → Nat → Prop} {m : Nat} {done done' : Nat → Nat → Prop} {L : Nat → Nat} {on a b : Nat} (h : zSp F lk m done L on) (hn : ¬ (L a < L b ∧ lk a b)) (hd : ∀ x y, x < F → y < F → done' x y → done x y ∨ (x = a ∧ y = b)) : zSp F lk m done' L on := by
  obtain ⟨h1, h2, h3, h4, h5, h6⟩ := h
  refine ⟨h1, h2, h3, h4, h5, fun h0 x y hx hy hxy => ?_⟩
  rcases hd x y hx hy hxy with h7 | ⟨rfl, rfl⟩
  · exact h6 h0 x y hx hy h7
  · exact hn
theorem zSp_mono {F : Nat} {lk : Nat → Nat → Prop} {m : Nat} {done done' : Nat → Nat → Prop} {L : Nat → Nat} {on : Nat} (h : zSp F lk m done L on) (hd : ∀ x y, x < F → y < F → done' x y → done x y) : zSp F lk m done' L on := ⟨h.1, h.2.1, h.2.2.1, h.2.2.2.1, h.2.2.2.2.1, fun h0 x y hx hy hxy => h.2.2.2.2.2 h0 x y hx hy (hd x y hx hy hxy)⟩
theorem zSp_end {F : Nat} {lk : Nat → Nat → Prop} {m : Nat} {L : Nat → Nat} (h : zSp F lk m (fun _ _ => True) L 0) (hs : ∀ i j, i < F → j < F → lk i j → lk j i) : zComp F lk L := zComp_spread h.1 h.2.1 (fun i j hi hj hl hlt => h.2.2.2.2.2 rfl i j hi hj trivial ⟨hlt, hl⟩) hs
theorem r_truth (M : ZMem) (v : Int32) : f_X12_truth M v = some (if v = zI 0 then zI 0 else zI 1) := by
  unfold f_X12_truth
  split <;> rfl
theorem r_laysSigns {M : ZMem} {F : Nat} {fr : Nat → Nat} {h : Nat → Int} (hf : formsR F fr M) (hh : handR h M) (hk : okH F h) : zOk (f_X12_laysSigns M) (fun M' => signsR F fr h M' ∧ zComp F (zlk fr h) (zsg F fr h) ∧ zP (fun a k => a == 11 || (a == 0 && k == 19)) M M') := by
  have hF := hf.1
  unfold f_X12_laysSigns
  rw [zk_bind]
  refine zOk_for0 (fun i s => s.2 = zI i ∧ zP (fun a _ => a == 11) M s.1 ∧ ∀ k, k < i → s.1.1 11 k = zI k) F ?_ ?_ ⟨rfl, zP_rf, fun k hk => absurd hk (Nat.not_lt_zero k)⟩
  · rintro i s hi ⟨h1, h2, h3⟩
    unfold f_X12_laysSigns_L2
    rw [h1, h2.1 0 4 rfl, hf.2.1, if_neg (by simp (disch := omega) only [zk_bind, zk_chk, zk_bnd, zk_some, zlp_l, zlp_r, zb_some, zb_bnd, zI_add, zI_sub, zI_mul, zI_neg, zI_le, zI_lt, zI_eq, zI_ix, zI_inI, Int.toNat_natCast, Int.toNat_add, Int.toNat_mul, true_and, and_true]; omega), zI_inI (by omega) (by omega) (by omega), zb_chk, zI_ix (by omega) (by omega), Int.toNat_natCast]
    simp (disch := omega) only [zk_bind, zk_chk, zk_bnd, zk_some, zlp_l, zlp_r, zb_some, zb_bnd, zI_add, zI_sub, zI_mul, zI_neg, zI_le, zI_lt, zI_eq, zI_ix, zI_inI, Int.toNat_natCast, Int.toNat_add, Int.toNat_mul, true_and, and_true]
    refine ⟨(by first | omega | exact zI_inj (by omega)), zP_I h2 rfl, fun k hk => ?_⟩
    rw [zm_I]
    split
    · next e => rw [e.2]
    · exact h3 k (by omega)
  rintro s ⟨h1, h2, h3⟩
  unfold f_X12_laysSigns_L2
  rw [h1, h2.1 0 4 rfl, hf.2.1, if_pos (by simp (disch := omega) only [zk_bind, zk_chk, zk_bnd, zk_some, zlp_l, zlp_r, zb_some, zb_bnd, zI_add, zI_sub, zI_mul, zI_neg, zI_le, zI_lt, zI_eq, zI_ix, zI_inI, Int.toNat_natCast, Int.toNat_add, Int.toNat_mul, true_and, and_true]; omega), zk_some, zlp_r, zk_bind]
  refine zOk_loop (fun s => zP (fun a _ => a == 11) M s.1 ∧ ∃ L on, (∀ k, k < F → s.1.1 11 k = zI (L k)) ∧ s.2 = zI ((on : Nat) : Int) ∧ zSp F (zlk fr h) (zsum F L + on) (fun _ _ => on = 0) L on) (fun s => zsum F (fun k => (s.1.1 11 k).toInt.toNat) * 2 + s.2.toInt.toNat) ?_ _ _ (Nat.le_refl _) ⟨h2, fun k => k, 1, h3, rfl, fun i _ => Nat.le_refl i, fun g _ i _ => rfl, by omega, by omega, fun _ => by omega, fun h => by omega⟩
  rintro ⟨s1, s2⟩ ⟨g1, L, on, g2, g3, g4⟩
  dsimp only at g1 g2 g3
  have hon := g4.2.2.2.1
  have hL : ∀ i, i < F → L i < 20 := fun i hi => by have := g4.1 i hi; omega
  unfold f_X12_laysSigns_L25
  dsimp only
  rw [g3]
  by_cases ho : on = 0
  · subst ho
    rw [if_pos (by decide)]
    have hcomp : zComp F (zlk fr h) L := zSp_end (zSp_mono g4 (fun _ _ _ _ _ => rfl)) (fun i j _ _ hl => zlk_sym hl)
    have hsg : ∀ f, f < F → zsg F fr h f = L f := fun f hf => zLab_of hcomp hf
    have hspec : zComp F (zlk fr h) (zsg F fr h) := zLab_spec hcomp
    rw [zk_some, zlp_r, zk_bnd, zk_bind]
    refine zOk_for0 (fun i s => s.2 = zI i ∧ zP (fun a k => a == 11 || (a == 0 && k == 19)) M s.1 ∧ (∀ k, k < F → s.1.1 11 k = zI (zsg F fr h k)) ∧ s.1.1 0 19 = zI (zsum i (fun f => zb (zsg F fr h f = f)))) F ?_ ?_ ⟨rfl, zP_I (zP_mono g1 (fun a k ha => by simp at ha ⊢; exact ha.1)) rfl, fun k hk => by rw [zm_Iq _ _ _ _ (by decide), g2 k hk, hsg k hk], by rw [zm_Is]; rfl⟩
    · rintro i s' hi ⟨e1, e2, e3, e4⟩
      unfold f_X12_laysSigns_L116
      have hl1 := zComp_lt hspec i hi
      rw [e1, e2.1 0 4 rfl, hf.2.1, if_neg (by simp (disch := omega) only [zk_bind, zk_chk, zk_bnd, zk_some, zlp_l, zlp_r, zb_some, zb_bnd, zI_add, zI_sub, zI_mul, zI_neg, zI_le, zI_lt, zI_eq, zI_ix, zI_inI, Int.toNat_natCast, Int.toNat_add, Int.toNat_mul, true_and, and_true]; omega), zI_inI (by omega) (by omega) (by omega), zb_chk, zI_ix (by omega) (by omega), Int.toNat_natCast, e3 i hi, e4]
      unfold f_X12_laysSigns_144_L116
      simp only [r_truth, zb_some, zb_bnd]
      by_cases hs : zsg F fr h i = i
      · rw [if_pos (by rw [hs]), if_neg (by decide)]
        simp (disch := omega) only [zk_bind, zk_chk, zk_bnd, zk_some, zlp_l, zlp_r, zb_some, zb_bnd, zI_add, zI_sub, zI_mul, zI_neg, zI_le, zI_lt, zI_eq, zI_ix, zI_inI, Int.toNat_natCast, Int.toNat_add, Int.toNat_mul, true_and, and_true]
        refine ⟨(by first | omega | exact zI_inj (by omega)), zP_I e2 rfl, fun k hk => by rw [zm_Iq _ _ _ _ (by decide)]; exact e3 k hk, ?_⟩
        rw [zm_Is, zsum_s, zb_t hs]
        exact zI_inj (by omega)
      · rw [if_neg (by simp (disch := omega) only [zk_bind, zk_chk, zk_bnd, zk_some, zlp_l, zlp_r, zb_some, zb_bnd, zI_add, zI_sub, zI_mul, zI_neg, zI_le, zI_lt, zI_eq, zI_ix, zI_inI, Int.toNat_natCast, Int.toNat_add, Int.toNat_mul, true_and, and_true]; omega), if_pos (by decide)]
        simp (disch := omega) only [zk_bind, zk_chk, zk_bnd, zk_some, zlp_l, zlp_r, zb_some, zb_bnd, zI_add, zI_sub, zI_mul, zI_neg, zI_le, zI_lt, zI_eq, zI_ix, zI_inI, Int.toNat_natCast, Int.toNat_add, Int.toNat_mul, true_and, and_true]
        refine ⟨(by first | omega | exact zI_inj (by omega)), zP_I e2 rfl, fun k hk => by rw [zm_Iq _ _ _ _ (by decide)]; exact e3 k hk, ?_⟩
        rw [zm_Is, zsum_s, zb_f hs]
        exact zI_inj (by omega)
    · rintro s' ⟨e1, e2, e3, e4⟩
      unfold f_X12_laysSigns_L116
      rw [e1, e2.1 0 4 rfl, hf.2.1, if_pos (by simp (disch := omega) only [zk_bind, zk_chk, zk_bnd, zk_some, zlp_l, zlp_r, zb_some, zb_bnd, zI_add, zI_sub, zI_mul, zI_neg, zI_le, zI_lt, zI_eq, zI_ix, zI_inI, Int.toNat_natCast, Int.toNat_add, Int.toNat_mul, true_and, and_true]; omega)]
      simp (disch := omega) only [zk_bind, zk_chk, zk_bnd, zk_some, zlp_l, zlp_r, zb_some, zb_bnd, zI_add, zI_sub, zI_mul, zI_neg, zI_le, zI_lt, zI_eq, zI_ix, zI_inI, Int.toNat_natCast, Int.toNat_add, Int.toNat_mul, true_and, and_true]
      exact ⟨⟨e3, e4⟩, hspec, e2⟩
  · have ho1 : on = 1 := by omega
    subst ho1
    rw [if_neg (by decide), zk_bind]
    have hm0 : zsum F (fun k => (s1.1 11 k).toInt.toNat) = zsum F L := zsum_cg (fun k hk => by have := hL k hk; rw [g2 k hk, zI_toInt (by omega) (by omega), Int.toNat_natCast])
    refine zOk_for0 (fun i s => s.2.2 = zI i ∧ zP (fun a _ => a == 11) M s.1 ∧ ∃ L' on', (∀ k, k < F → s.1.1 11 k = zI (L' k)) ∧ s.2.1 = zI ((on' : Nat) : Int) ∧ zSp F (zlk fr h) (zsum F L) (fun x _ => x < i) L' on') F ?_ ?_ ⟨rfl, g1, L, 0, g2, rfl, g4.1, g4.2.1, Nat.le_refl _, by omega, fun h => by omega, fun _ a b _ _ h => by omega⟩
    · rintro i ⟨t1, t2, t3⟩ hi ⟨e1, e2, L', on', e3, e4, e5⟩
      unfold f_X12_laysSigns_L33
      dsimp only at e1 e2 e3 e4 ⊢
      rw [e1, e4, e2.1 0 4 rfl, hf.2.1, if_neg (by simp (disch := omega) only [zk_bind, zk_chk, zk_bnd, zk_some, zlp_l, zlp_r, zb_some, zb_bnd, zI_add, zI_sub, zI_mul, zI_neg, zI_le, zI_lt, zI_eq, zI_ix, zI_inI, Int.toNat_natCast, Int.toNat_add, Int.toNat_mul, true_and, and_true]; omega), zk_bind]
      refine zOk_for0 (fun j s => s.2.2 = zI j ∧ zP (fun a _ => a == 11) M s.1 ∧ ∃ L' on', (∀ k, k < F → s.1.1 11 k = zI (L' k)) ∧ s.2.1 = zI ((on' : Nat) : Int) ∧ zSp F (zlk fr h) (zsum F L) (fun x y => x < i ∨ (x = i ∧ y < j)) L' on') F ?_ ?_ ⟨rfl, e2, L', on', e3, rfl, zSp_mono e5 (fun x y _ _ h => by omega)⟩
      · rintro j ⟨u1, u2, u3⟩ hj ⟨d1, d2, L'', on'', d3, d4, d5⟩
        have hL'' : ∀ i, i < F → L'' i < 20 := fun i hi => by have := d5.1 i hi; omega
        have li := hL'' i hi
        have lj := hL'' j hj
        have hf' : formsR F fr u1 := formsR_x (fun a k ha => d2.1 a k (by unfold dformsR at ha; simp at ha ⊢; omega)) hf
        have hh' : handR h u1 := handR_x (fun k => d2.1 9 k rfl) hh
        unfold f_X12_laysSigns_L43
        dsimp only at d1 d2 d3 d4 ⊢
        rw [d1, d4, hf'.2.1, if_neg (by simp (disch := omega) only [zk_bind, zk_chk, zk_bnd, zk_some, zlp_l, zlp_r, zb_some, zb_bnd, zI_add, zI_sub, zI_mul, zI_neg, zI_le, zI_lt, zI_eq, zI_ix, zI_inI, Int.toNat_natCast, Int.toNat_add, Int.toNat_mul, true_and, and_true]; omega)]
        by_cases hij : i = j
        · rw [if_pos (by rw [hij])]
          simp (disch := omega) only [zk_bind, zk_chk, zk_bnd, zk_some, zlp_l, zlp_r, zb_some, zb_bnd, zI_add, zI_sub, zI_mul, zI_neg, zI_le, zI_lt, zI_eq, zI_ix, zI_inI, Int.toNat_natCast, Int.toNat_add, Int.toNat_mul, true_and, and_true]
          exact ⟨(by first | omega | exact zI_inj (by omega)), d2, L'', on'', d3, (by first | omega | exact zI_inj (by omega)), zSp_miss d5 (a := i) (b := j) (fun h => h.2.2.2.1 hij) (fun x y _ _ h => by omega)⟩
        · rw [if_neg (by simp (disch := omega) only [zk_bind, zk_chk, zk_bnd, zk_some, zlp_l, zlp_r, zb_some, zb_bnd, zI_add, zI_sub, zI_mul, zI_neg, zI_le, zI_lt, zI_eq, zI_ix, zI_inI, Int.toNat_natCast, Int.toNat_add, Int.toNat_mul, true_and, and_true]; omega), zI_inI (by omega) (by omega) (by omega), zI_inI (by omega) (by omega) (by omega), zb_chk, zb_chk, zb_chk, zb_chk, zI_ix (by omega) (by omega), zI_ix (by omega) (by omega), Int.toNat_natCast, Int.toNat_natCast, d3 i hi, d3 j hj]
          by_cases hle : L'' j ≤ L'' i
          · rw [if_pos (by simp (disch := omega) only [zk_bind, zk_chk, zk_bnd, zk_some, zlp_l, zlp_r, zb_some, zb_bnd, zI_add, zI_sub, zI_mul, zI_neg, zI_le, zI_lt, zI_eq, zI_ix, zI_inI, Int.toNat_natCast, Int.toNat_add, Int.toNat_mul, true_and, and_true]; omega)]
            simp (disch := omega) only [zk_bind, zk_chk, zk_bnd, zk_some, zlp_l, zlp_r, zb_some, zb_bnd, zI_add, zI_sub, zI_mul, zI_neg, zI_le, zI_lt, zI_eq, zI_ix, zI_inI, Int.toNat_natCast, Int.toNat_add, Int.toNat_mul, true_and, and_true]
            exact ⟨(by first | omega | exact zI_inj (by omega)), d2, L'', on'', d3, (by first | omega | exact zI_inj (by omega)), zSp_miss d5 (a := i) (b := j) (fun h => by omega) (fun x y _ _ h => by omega)⟩
          · rw [if_neg (by simp (disch := omega) only [zk_bind, zk_chk, zk_bnd, zk_some, zlp_l, zlp_r, zb_some, zb_bnd, zI_add, zI_sub, zI_mul, zI_neg, zI_le, zI_lt, zI_eq, zI_ix, zI_inI, Int.toNat_natCast, Int.toNat_add, Int.toNat_mul, true_and, and_true]; omega), r_areLinked hf' hh' hk hi hj hij, zb_some]
            by_cases hl : zlk fr h i j
            · rw [if_neg (by rw [zb_0]; exact not_not_intro hl)]
              simp (disch := omega) only [zk_bind, zk_chk, zk_bnd, zk_some, zlp_l, zlp_r, zb_some, zb_bnd, zI_add, zI_sub, zI_mul, zI_neg, zI_le, zI_lt, zI_eq, zI_ix, zI_inI, Int.toNat_natCast, Int.toNat_add, Int.toNat_mul, true_and, and_true]
              refine ⟨(by first | omega | exact zI_inj (by omega)), zP_I d2 rfl, _, 1, fun k hk => ?_, (by first | omega | exact zI_inj (by omega)), zSp_hit d5 hi hj (by omega) hl⟩
              rw [zm_I]
              by_cases hkj : k = j
              · rw [if_pos ⟨rfl, hkj⟩, if_pos hkj]
              · rw [if_neg (fun h => hkj h.2), if_neg hkj]
                exact d3 k hk
            · rw [if_pos (by rw [zb_0]; exact hl)]
              simp (disch := omega) only [zk_bind, zk_chk, zk_bnd, zk_some, zlp_l, zlp_r, zb_some, zb_bnd, zI_add, zI_sub, zI_mul, zI_neg, zI_le, zI_lt, zI_eq, zI_ix, zI_inI, Int.toNat_natCast, Int.toNat_add, Int.toNat_mul, true_and, and_true]
              exact ⟨(by first | omega | exact zI_inj (by omega)), d2, L'', on'', d3, (by first | omega | exact zI_inj (by omega)), zSp_miss d5 (a := i) (b := j) (fun h => hl h.2) (fun x y _ _ h => by omega)⟩
      · rintro ⟨u1, u2, u3⟩ ⟨d1, d2, L'', on'', d3, d4, d5⟩
        unfold f_X12_laysSigns_L43
        dsimp only at d1 d2 d3 d4 ⊢
        rw [d1, d4, d2.1 0 4 rfl, hf.2.1, if_pos (by simp (disch := omega) only [zk_bind, zk_chk, zk_bnd, zk_some, zlp_l, zlp_r, zb_some, zb_bnd, zI_add, zI_sub, zI_mul, zI_neg, zI_le, zI_lt, zI_eq, zI_ix, zI_inI, Int.toNat_natCast, Int.toNat_add, Int.toNat_mul, true_and, and_true]; omega)]
        simp (disch := omega) only [zk_bind, zk_chk, zk_bnd, zk_some, zlp_l, zlp_r, zb_some, zb_bnd, zI_add, zI_sub, zI_mul, zI_neg, zI_le, zI_lt, zI_eq, zI_ix, zI_inI, Int.toNat_natCast, Int.toNat_add, Int.toNat_mul, true_and, and_true]
        exact ⟨(by first | omega | exact zI_inj (by omega)), d2, L'', on'', d3, (by first | omega | exact zI_inj (by omega)), zSp_mono d5 (fun x y _ _ h => by omega)⟩
    · rintro ⟨t1, t2, t3⟩ ⟨e1, e2, L', on', e3, e4, e5⟩
      have hL' : ∀ i, i < F → L' i < 20 := fun i hi => by have := e5.1 i hi; omega
      unfold f_X12_laysSigns_L33
      dsimp only at e1 e2 e3 e4 ⊢
      rw [e1, e4, e2.1 0 4 rfl, hf.2.1, if_pos (by simp (disch := omega) only [zk_bind, zk_chk, zk_bnd, zk_some, zlp_l, zlp_r, zb_some, zb_bnd, zI_add, zI_sub, zI_mul, zI_neg, zI_le, zI_lt, zI_eq, zI_ix, zI_inI, Int.toNat_natCast, Int.toNat_add, Int.toNat_mul, true_and, and_true]; omega)]
      have hon' := e5.2.2.2.1
      have hm1 : zsum F (fun k => (t1.1 11 k).toInt.toNat) = zsum F L' := zsum_cg (fun k hk => by have := hL' k hk; rw [e3 k hk, zI_toInt (by omega) (by omega), Int.toNat_natCast])
      rw [zk_some, zlp_r, zk_some, zlp_l]
      have hz1 := e5.2.2.1
      have hz2 := e5.2.2.2.2.1
      refine ⟨⟨e2, L', on', e3, rfl, e5.1, e5.2.1, by omega, hon', fun h => by omega, fun h a b ha hb _ => e5.2.2.2.2.2 h a b ha hb ha⟩, ?_⟩
      dsimp only
      rw [hm0, hm1, zI_toInt (by omega) (by omega), zI_toInt (by omega) (by omega)]
      omega
