/-! ===== signs ===== deps: 90.rel -/
theorem c_startLabels (q n : Nat) (hn : n ≤ 2147483647) (M : ZMem) : zOk (f_X11_startLabels q n M) (fun M' => (∀ k, k < n → M'.1 q k = zI k) ∧ zP (fun a _ => a == q) M M') := by
  unfold f_X11_startLabels
  rw [zk_bind]
  refine zOk_for0 (fun i s => s.2 = zI i ∧ (∀ k, k < i → s.1.1 q k = zI k) ∧ zP (fun a _ => a == q) M s.1) n ?_ ?_ ⟨rfl, fun k hk => absurd hk (Nat.not_lt_zero k), zP_rf⟩
  · rintro i s hi ⟨h1, h2, h3⟩
    unfold f_X11_startLabels_L2
    rw [h1, if_neg (by simp (disch := omega) only [zk_bind, zk_chk, zk_bnd, zk_some, zlp_l, zlp_r, zb_some, zb_bnd, zI_add, zI_sub, zI_mul, zI_neg, zI_le, zI_lt, zI_eq, zI_ix, zI_inI, Int.toNat_natCast, Int.toNat_add, Int.toNat_mul, true_and, and_true]; omega), zI_inI (by omega) (by omega) hn, zb_chk, zI_ix (by omega) (by omega), Int.toNat_natCast]
    simp (disch := omega) only [zk_bind, zk_chk, zk_bnd, zk_some, zlp_l, zlp_r, zb_some, zb_bnd, zI_add, zI_sub, zI_mul, zI_neg, zI_le, zI_lt, zI_eq, zI_ix, zI_inI, Int.toNat_natCast, Int.toNat_add, Int.toNat_mul, true_and, and_true]
    refine ⟨(by first | omega | exact zI_inj (by omega)), fun k hk => ?_, zP_I h3 (by simp)⟩
    rw [zm_I]
    split
    · next e => rw [e.2]
    · exact h2 k (by omega)
  · rintro s ⟨h1, h2, h3⟩
    unfold f_X11_startLabels_L2
    rw [h1, if_pos (by simp (disch := omega) only [zk_bind, zk_chk, zk_bnd, zk_some, zlp_l, zlp_r, zb_some, zb_bnd, zI_add, zI_sub, zI_mul, zI_neg, zI_le, zI_lt, zI_eq, zI_ix, zI_inI, Int.toNat_natCast, Int.toNat_add, Int.toNat_mul, true_and, and_true]; omega)]
    simp (disch := omega) only [zk_bind, zk_chk, zk_bnd, zk_some, zlp_l, zlp_r, zb_some, zb_bnd, zI_add, zI_sub, zI_mul, zI_neg, zI_le, zI_lt, zI_eq, zI_ix, zI_inI, Int.toNat_natCast, Int.toNat_add, Int.toNat_mul, true_and, and_true]
    exact ⟨h2, h3⟩
/-- labels joined -/
def zjn (L : Nat → Nat) (a b : Nat) : Nat → Nat := fun i => if L i = max (L a) (L b) then min (L a) (L b) else L i
theorem c_joinLabels {q : Nat} {M : ZMem} {L : Nat → Nat} (hq : ∀ i, i < 20 → M.1 q i = zI (L i)) (hL : ∀ i, i < 20 → L i < 20) {a b : Nat} (ha : a < 20) (hb : b < 20) : zOk (f_X11_joinLabels q 20 M (zI a) (zI b)) (fun r => (∀ i, i < 20 → r.1.1 q i = zI (zjn L a b i)) ∧ zP (fun a _ => a == q) M r.1 ∧ r.2 = zI (zb (L a ≠ L b) : Int)) := by
  have la := hL a ha
  have lb := hL b hb
  unfold f_X11_joinLabels
  rw [if_neg (by simp (disch := omega) only [zk_bind, zk_chk, zk_bnd, zk_some, zlp_l, zlp_r, zb_some, zb_bnd, zI_add, zI_sub, zI_mul, zI_neg, zI_le, zI_lt, zI_eq, zI_ix, zI_inI, Int.toNat_natCast, Int.toNat_add, Int.toNat_mul, true_and, and_true]; omega), if_neg (by simp (disch := omega) only [zk_bind, zk_chk, zk_bnd, zk_some, zlp_l, zlp_r, zb_some, zb_bnd, zI_add, zI_sub, zI_mul, zI_neg, zI_le, zI_lt, zI_eq, zI_ix, zI_inI, Int.toNat_natCast, Int.toNat_add, Int.toNat_mul, true_and, and_true]; omega), if_neg (by simp (disch := omega) only [zk_bind, zk_chk, zk_bnd, zk_some, zlp_l, zlp_r, zb_some, zb_bnd, zI_add, zI_sub, zI_mul, zI_neg, zI_le, zI_lt, zI_eq, zI_ix, zI_inI, Int.toNat_natCast, Int.toNat_add, Int.toNat_mul, true_and, and_true]; omega), if_pos (by simp (disch := omega) only [zk_bind, zk_chk, zk_bnd, zk_some, zlp_l, zlp_r, zb_some, zb_bnd, zI_add, zI_sub, zI_mul, zI_neg, zI_le, zI_lt, zI_eq, zI_ix, zI_inI, Int.toNat_natCast, Int.toNat_add, Int.toNat_mul, true_and, and_true]; omega), zI_inI (by omega) (by omega) (by omega), zI_inI (by omega) (by omega) (by omega), zb_chk, zb_chk, zb_bnd, zb_chk, zb_chk, zb_bnd, zI_ix (by omega) (by omega), zI_ix (by omega) (by omega), Int.toNat_natCast, Int.toNat_natCast, hq a ha, hq b hb]
  have e1 : (if zI (L b) < zI (L a) then zI (L b) else zI (L a)) = zI ((min (L a) (L b) : Nat) : Int) := zI_min _ _ (by omega) (by omega)
  have e2 : (if zI (L a) < zI (L b) then zI (L b) else zI (L a)) = zI ((max (L a) (L b) : Nat) : Int) := by
    by_cases hc : L a < L b
    · rw [if_pos (by simp (disch := omega) only [zk_bind, zk_chk, zk_bnd, zk_some, zlp_l, zlp_r, zb_some, zb_bnd, zI_add, zI_sub, zI_mul, zI_neg, zI_le, zI_lt, zI_eq, zI_ix, zI_inI, Int.toNat_natCast, Int.toNat_add, Int.toNat_mul, true_and, and_true]; omega)]; exact zI_inj (by omega)
    · rw [if_neg (by simp (disch := omega) only [zk_bind, zk_chk, zk_bnd, zk_some, zlp_l, zlp_r, zb_some, zb_bnd, zI_add, zI_sub, zI_mul, zI_neg, zI_le, zI_lt, zI_eq, zI_ix, zI_inI, Int.toNat_natCast, Int.toNat_add, Int.toNat_mul, true_and, and_true]; omega)]; exact zI_inj (by omega)
  rw [e1, e2]
  by_cases hab : L a = L b
  · rw [if_pos (by simp (disch := omega) only [zk_bind, zk_chk, zk_bnd, zk_some, zlp_l, zlp_r, zb_some, zb_bnd, zI_add, zI_sub, zI_mul, zI_neg, zI_le, zI_lt, zI_eq, zI_ix, zI_inI, Int.toNat_natCast, Int.toNat_add, Int.toNat_mul, true_and, and_true]; omega), zk_some]
    refine ⟨fun i hi => ?_, zP_rf, by rw [zb_f (fun h => h hab)]; rfl⟩
    rw [hq i hi]
    refine zI_inj ?_
    unfold zjn
    split <;> omega
  · rw [if_neg (by simp (disch := omega) only [zk_bind, zk_chk, zk_bnd, zk_some, zlp_l, zlp_r, zb_some, zb_bnd, zI_add, zI_sub, zI_mul, zI_neg, zI_le, zI_lt, zI_eq, zI_ix, zI_inI, Int.toNat_natCast, Int.toNat_add, Int.toNat_mul, true_and, and_true]; omega), zk_bind]
    refine zOk_for0 (fun i s => s.2 = zI i ∧ (∀ k, k < 20 → s.1.1 q k = zI ((if k < i then zjn L a b k else L k : Nat) : Int)) ∧ zP (fun a _ => a == q) M s.1) 20 ?_ ?_ ⟨rfl, fun k hk => by rw [if_neg (by omega)]; exact hq k hk, zP_rf⟩
    · rintro i s hi ⟨h1, h2, h3⟩
      unfold f_X11_joinLabels_L54
      have h4 := h2 i hi
      rw [if_neg (by omega)] at h4
      have li := hL i hi
      rw [h1, if_neg (by simp (disch := omega) only [zk_bind, zk_chk, zk_bnd, zk_some, zlp_l, zlp_r, zb_some, zb_bnd, zI_add, zI_sub, zI_mul, zI_neg, zI_le, zI_lt, zI_eq, zI_ix, zI_inI, Int.toNat_natCast, Int.toNat_add, Int.toNat_mul, true_and, and_true]; omega), zI_inI (by omega) (by omega) (by omega), zb_chk, zb_chk, zI_ix (by omega) (by omega), Int.toNat_natCast, h4]
      by_cases hc : L i = max (L a) (L b)
      · rw [if_pos (by simp (disch := omega) only [zk_bind, zk_chk, zk_bnd, zk_some, zlp_l, zlp_r, zb_some, zb_bnd, zI_add, zI_sub, zI_mul, zI_neg, zI_le, zI_lt, zI_eq, zI_ix, zI_inI, Int.toNat_natCast, Int.toNat_add, Int.toNat_mul, true_and, and_true]; omega)]
        simp (disch := omega) only [zk_bind, zk_chk, zk_bnd, zk_some, zlp_l, zlp_r, zb_some, zb_bnd, zI_add, zI_sub, zI_mul, zI_neg, zI_le, zI_lt, zI_eq, zI_ix, zI_inI, Int.toNat_natCast, Int.toNat_add, Int.toNat_mul, true_and, and_true]
        refine ⟨(by first | omega | exact zI_inj (by omega)), fun k hk => ?_, zP_I h3 (by simp)⟩
        rw [zm_I]
        split
        · next e =>
          rw [e.2, if_pos (by omega)]
          unfold zjn
          rw [if_pos hc]
        · rw [h2 k hk]
          refine zI_inj ?_
          by_cases hk2 : k < i
          · rw [if_pos hk2, if_pos (by omega)]
          · rw [if_neg hk2, if_neg (by omega)]
      · rw [if_neg (by simp (disch := omega) only [zk_bind, zk_chk, zk_bnd, zk_some, zlp_l, zlp_r, zb_some, zb_bnd, zI_add, zI_sub, zI_mul, zI_neg, zI_le, zI_lt, zI_eq, zI_ix, zI_inI, Int.toNat_natCast, Int.toNat_add, Int.toNat_mul, true_and, and_true]; omega)]
        simp (disch := omega) only [zk_bind, zk_chk, zk_bnd, zk_some, zlp_l, zlp_r, zb_some, zb_bnd, zI_add, zI_sub, zI_mul, zI_neg, zI_le, zI_lt, zI_eq, zI_ix, zI_inI, Int.toNat_natCast, Int.toNat_add, Int.toNat_mul, true_and, and_true]
        refine ⟨(by first | omega | exact zI_inj (by omega)), fun k hk => ?_, h3⟩
        rw [h2 k hk]
        refine zI_inj ?_
        by_cases hk2 : k < i
        · rw [if_pos hk2, if_pos (by omega)]
        · rw [if_neg hk2]
          by_cases hk3 : k = i
          · rw [if_pos (by omega), hk3]
            unfold zjn
            rw [if_neg hc]
          · rw [if_neg (by omega)]
    · rintro s ⟨h1, h2, h3⟩
      unfold f_X11_joinLabels_L54
      rw [h1, if_pos (by simp (disch := omega) only [zk_bind, zk_chk, zk_bnd, zk_some, zlp_l, zlp_r, zb_some, zb_bnd, zI_add, zI_sub, zI_mul, zI_neg, zI_le, zI_lt, zI_eq, zI_ix, zI_inI, Int.toNat_natCast, Int.toNat_add, Int.toNat_mul, true_and, and_true]; omega)]
      simp (disch := omega) only [zk_bind, zk_chk, zk_bnd, zk_some, zlp_l, zlp_r, zb_some, zb_bnd, zI_add, zI_sub, zI_mul, zI_neg, zI_le, zI_lt, zI_eq, zI_ix, zI_inI, Int.toNat_natCast, Int.toNat_add, Int.toNat_mul, true_and, and_true]
      refine ⟨fun i hi => ?_, h3, by rw [zb_t hab]; rfl⟩
      rw [h2 i hi, if_pos hi]
theorem zComp_lt {n : Nat} {lk : Nat → Nat → Prop} {L : Nat → Nat} (h : zComp n lk L) : ∀ i, i < n → L i < n := fun i hi => Nat.lt_of_le_of_lt (h.1 i hi) hi
/-- labels of 20 are labels of F, where links are of F -/
theorem zComp_cut {n m : Nat} {lk : Nat → Nat → Prop} {L : Nat → Nat} (hmn : m ≤ n) (hl : ∀ i j, lk i j → i < m ∧ j < m) (h : zComp n lk L) : zComp m lk L := by
  refine ⟨fun i hi => h.1 i (by omega), fun i j hi hj => h.2.1 i j (by omega) (by omega), fun g hg i hi => h.2.2 g (fun a b _ _ hab => hg a b (hl a b hab).1 (hl a b hab).2 hab) i (by omega)⟩
theorem zComp_symm {n : Nat} {lk lk' : Nat → Nat → Prop} {L : Nat → Nat} (h1 : ∀ i j, i < n → j < n → lk i j → lk' i j ∨ lk' j i) (h2 : ∀ i j, i < n → j < n → lk' i j → lk i j ∨ lk j i) (h : zComp n lk L) : zComp n lk' L := by
  refine ⟨h.1, fun i j hi hj hl => ?_, fun g hg i hi => h.2.2 g (fun a b ha hb hab => ?_) i hi⟩
  · rcases h2 i j hi hj hl with h3 | h3
    · exact h.2.1 i j hi hj h3
    · exact (h.2.1 j i hj hi h3).symm
  · rcases h1 a b ha hb hab with h3 | h3
    · exact hg a b ha hb h3
    · exact (hg b a hb ha h3).symm
noncomputable def zsgN (F : Nat) (fr : Nat → Nat) (h : Nat → Int) : Nat := zsum F (fun f => zb (zsg F fr h f = f))
noncomputable def zsize (F : Nat) (fr : Nat → Nat) (h : Nat → Int) (s : Nat) : Nat := zsum F (fun f => zb (zsg F fr h f = s))
def signsC (F : Nat) (fr : Nat → Nat) (h : Nat → Int) (C : ZMem) : Prop := (∀ f, f < F → C.1 9 f = zI (zsg F fr h f)) ∧ (∀ s, s < 20 → C.1 10 s = zI (zsize F fr h s)) ∧ C.1 3 11 = zI (zsgN F fr h)
def signsR (F : Nat) (fr : Nat → Nat) (h : Nat → Int) (R : ZMem) : Prop := (∀ f, f < F → R.1 11 f = zI (zsg F fr h f)) ∧ R.1 0 19 = zI (zsgN F fr h)
theorem c_signOf {M : ZMem} {F : Nat} {sg : Nat → Nat} (hF : M.1 3 7 = zI F) (hF2 : F ≤ 20) (hs : ∀ f, f < F → M.1 9 f = zI (sg f)) {a : Int} (h1 : -2147483648 ≤ a) (h2 : a ≤ 2147483647) : f_X0_signOf M (zI a) = some (zI (if 0 ≤ a ∧ a < F then (sg a.toNat : Int) else -1)) := by
  unfold f_X0_signOf
  rw [c_has hF hF2 a h1 h2, zb_some]
  by_cases hc : 0 ≤ a ∧ a < F
  · rw [if_neg (by rw [zb_0]; exact not_not_intro hc), zI_inI (by omega) (by omega) (by omega), zb_chk, zI_ix h1 h2, hs _ (by omega), if_pos hc]
  · rw [if_pos (by rw [zb_0]; exact hc), if_neg hc]
theorem c_signOfN {M : ZMem} {F : Nat} {sg : Nat → Nat} (hF : M.1 3 7 = zI F) (hF2 : F ≤ 20) (hs : ∀ f, f < F → M.1 9 f = zI (sg f)) {a : Nat} (ha : a < F) : f_X0_signOf M (zI a) = some (zI (sg a)) := by
  rw [c_signOf hF hF2 hs (by omega) (by omega), if_pos (by omega), Int.toNat_natCast]
theorem c_settleSigns {M : ZMem} {F : Nat} {fr : Nat → Nat} {h : Nat → Int} (hf : formsC F fr M) (hh : setC h M) (hk : okH F h) : zOk (f_X0_settleSigns M) (fun M' => signsC F fr h M' ∧ zComp F (zlk fr h) (zsg F fr h) ∧ zP (fun a k => a == 9 || a == 10 || (a == 3 && k == 11)) M M') := by
  have hF := hf.1
  unfold f_X0_settleSigns
  rw [zk_bind]
  refine zOk_mono (c_startLabels 9 20 (by decide) M) (fun M1 h1 => ?_)
  obtain ⟨h1a, h1b⟩ := h1
  rw [zk_bind]
  refine zOk_for0 (fun i s => s.2 = zI i ∧ zP (fun a _ => a == 9) M s.1 ∧ ∃ L, (∀ k, k < 20 → s.1.1 9 k = zI (L k)) ∧ zComp 20 (fun x y => x < i ∧ x < y ∧ y < F ∧ zlk fr h x y) L) F ?_ ?_ ⟨rfl, h1b, fun k => k, h1a, zComp_congr (zComp_none 20) (fun i j _ _ => ⟨False.elim, fun h => absurd h.1 (Nat.not_lt_zero i)⟩) (fun _ _ => rfl)⟩
  · rintro i s hi ⟨h2, h3, L, h4, h5⟩
    unfold f_X0_settleSigns_L9
    rw [h2, h3.1 3 7 rfl, hf.2.1, if_neg (by simp (disch := omega) only [zk_bind, zk_chk, zk_bnd, zk_some, zlp_l, zlp_r, zb_some, zb_bnd, zI_add, zI_sub, zI_mul, zI_neg, zI_le, zI_lt, zI_eq, zI_ix, zI_inI, Int.toNat_natCast, Int.toNat_add, Int.toNat_mul, true_and, and_true]; omega), zb_bnd, zI_add, zk_bind]
    refine zOk_for0 (fun j s' => s'.2 = zI (((i : Nat) : Int) + 1 + j) ∧ zP (fun a _ => a == 9) M s'.1 ∧ ∃ L, (∀ k, k < 20 → s'.1.1 9 k = zI (L k)) ∧ zComp 20 (fun x y => (x < i ∧ x < y ∧ y < F ∧ zlk fr h x y) ∨ (x = i ∧ i < y ∧ y < i + 1 + j ∧ zlk fr h x y)) L) (F - (i + 1)) ?_ ?_ ⟨(by first | omega | exact zI_inj (by omega)), h3, L, h4, zComp_congr h5 (fun x y _ _ => ⟨Or.inl, fun h => h.elim id (fun h => by omega)⟩) (fun _ _ => rfl)⟩
    · rintro j s' hj ⟨g2, g3, L', g4, g5⟩
      unfold f_X0_settleSigns_L21
      have hf' : formsC F fr s'.1 := formsC_x (fun a k ha => g3.1 a k (by unfold dformsC at ha; simp at ha ⊢; omega)) hf
      have hh' : setC h s'.1 := setC_x (fun a k ha => g3.1 a k (by unfold dsetC at ha; simp at ha ⊢; omega)) hh
      rw [g2, hf'.2.1, if_neg (by simp (disch := omega) only [zk_bind, zk_chk, zk_bnd, zk_some, zlp_l, zlp_r, zb_some, zb_bnd, zI_add, zI_sub, zI_mul, zI_neg, zI_le, zI_lt, zI_eq, zI_ix, zI_inI, Int.toNat_natCast, Int.toNat_add, Int.toNat_mul, true_and, and_true]; omega), show ((i : Nat) : Int) + 1 + j = ((i + 1 + j : Nat) : Int) by omega, c_linked hf' hh' hk hi (by omega) (by omega), zb_some]
      by_cases hl : zlk fr h i (i + 1 + j)
      · rw [if_neg (by rw [zb_0]; exact not_not_intro hl), zk_bind]
        refine zOk_mono (c_joinLabels g4 (zComp_lt g5) (by omega) (by omega)) (fun r hr => ?_)
        obtain ⟨r1, r2, r3⟩ := hr
        simp (disch := omega) only [zk_bind, zk_chk, zk_bnd, zk_some, zlp_l, zlp_r, zb_some, zb_bnd, zI_add, zI_sub, zI_mul, zI_neg, zI_le, zI_lt, zI_eq, zI_ix, zI_inI, Int.toNat_natCast, Int.toNat_add, Int.toNat_mul, true_and, and_true]
        refine ⟨(by first | omega | exact zI_inj (by omega)), zP_tr g3 r2, _, r1, zComp_congr (zComp_join g5 (a := i) (b := i + 1 + j) (by omega) (by omega)) (fun x y _ _ => ⟨?_, ?_⟩) (fun _ _ => rfl)⟩
        · rintro ((hx | hx) | ⟨rfl, rfl⟩)
          · exact Or.inl hx
          · exact Or.inr ⟨hx.1, hx.2.1, by omega, hx.2.2.2⟩
          · exact Or.inr ⟨rfl, by omega, by omega, hl⟩
        · rintro (hx | ⟨rfl, hx1, hx2, hx3⟩)
          · exact Or.inl (Or.inl hx)
          · by_cases hy : y = x + 1 + j
            · exact Or.inr ⟨rfl, hy⟩
            · exact Or.inl (Or.inr ⟨rfl, hx1, by omega, hx3⟩)
      · rw [if_pos (by rw [zb_0]; exact hl)]
        simp (disch := omega) only [zk_bind, zk_chk, zk_bnd, zk_some, zlp_l, zlp_r, zb_some, zb_bnd, zI_add, zI_sub, zI_mul, zI_neg, zI_le, zI_lt, zI_eq, zI_ix, zI_inI, Int.toNat_natCast, Int.toNat_add, Int.toNat_mul, true_and, and_true]
        refine ⟨(by first | omega | exact zI_inj (by omega)), g3, L', g4, zComp_congr g5 (fun x y _ _ => ⟨?_, ?_⟩) (fun _ _ => rfl)⟩
        · rintro (hx | hx)
          · exact Or.inl hx
          · exact Or.inr ⟨hx.1, hx.2.1, by omega, hx.2.2.2⟩
        · rintro (hx | ⟨rfl, hx1, hx2, hx3⟩)
          · exact Or.inl hx
          · by_cases hy : y = x + 1 + j
            · rw [hy] at hx3
              exact absurd hx3 hl
            · exact Or.inr ⟨rfl, hx1, by omega, hx3⟩
    · rintro s' ⟨g2, g3, L', g4, g5⟩
      unfold f_X0_settleSigns_L21
      rw [g2, g3.1 3 7 rfl, hf.2.1, if_pos (by simp (disch := omega) only [zk_bind, zk_chk, zk_bnd, zk_some, zlp_l, zlp_r, zb_some, zb_bnd, zI_add, zI_sub, zI_mul, zI_neg, zI_le, zI_lt, zI_eq, zI_ix, zI_inI, Int.toNat_natCast, Int.toNat_add, Int.toNat_mul, true_and, and_true]; omega)]
      simp (disch := omega) only [zk_bind, zk_chk, zk_bnd, zk_some, zlp_l, zlp_r, zb_some, zb_bnd, zI_add, zI_sub, zI_mul, zI_neg, zI_le, zI_lt, zI_eq, zI_ix, zI_inI, Int.toNat_natCast, Int.toNat_add, Int.toNat_mul, true_and, and_true]
      refine ⟨(by first | omega | exact zI_inj (by omega)), g3, L', g4, zComp_congr g5 (fun x y _ _ => ⟨?_, ?_⟩) (fun _ _ => rfl)⟩
      · rintro (hx | hx)
        · exact ⟨by omega, hx.2.1, hx.2.2.1, hx.2.2.2⟩
        · exact ⟨by omega, by omega, by omega, hx.2.2.2⟩
      · rintro ⟨hx1, hx2, hx3, hx4⟩
        by_cases hx : x < i
        · exact Or.inl ⟨hx, hx2, hx3, hx4⟩
        · exact Or.inr ⟨by omega, by omega, by omega, hx4⟩
  · rintro s ⟨h2, h3, L, h4, h5⟩
    unfold f_X0_settleSigns_L9
    rw [h2, h3.1 3 7 rfl, hf.2.1, if_pos (by simp (disch := omega) only [zk_bind, zk_chk, zk_bnd, zk_some, zlp_l, zlp_r, zb_some, zb_bnd, zI_add, zI_sub, zI_mul, zI_neg, zI_le, zI_lt, zI_eq, zI_ix, zI_inI, Int.toNat_natCast, Int.toNat_add, Int.toNat_mul, true_and, and_true]; omega)]
    have hcomp : zComp F (zlk fr h) L := by
      refine zComp_symm (fun i j hi hj hl => Or.inl hl.2.2.2) (fun i j hi hj hl => ?_) (zComp_cut (m := F) hF (fun i j hl => ⟨hl.1, hl.2.2.1⟩) h5)
      rcases Nat.lt_or_gt_of_ne hl.2.2.1 with hij | hij
      · exact Or.inl ⟨hi, hij, hj, hl⟩
      · exact Or.inr ⟨hj, hij, hi, zlk_sym hl⟩
    have hsg : ∀ f, f < F → zsg F fr h f = L f := fun f hf => zLab_of hcomp hf
    have hspec : zComp F (zlk fr h) (zsg F fr h) := zLab_spec hcomp
    rw [zk_some, zlp_r, zk_bnd, zk_bind]
    refine zOk_mono (zp_fill 10 20 (by decide) _ _) (fun M2 h6 => ?_)
    obtain ⟨h6a, h6b, h6c, h6d⟩ := h6
    have hP0 : zP (fun a k => a == 9 || a == 10 || (a == 3 && k == 11)) M M2 := by
      refine ⟨fun a k ha => ?_, by rw [h6d]; exact h3.2⟩
      simp at ha
      rw [h6c a (by omega), zm_I, if_neg (by omega)]
      exact h3.1 a k (by simp; omega)
    rw [zk_bind]
    refine zOk_for0 (fun i s => s.2 = zI i ∧ zP (fun a k => a == 9 || a == 10 || (a == 3 && k == 11)) M s.1 ∧ (∀ f, f < F → s.1.1 9 f = zI (zsg F fr h f)) ∧ (∀ x, x < 20 → s.1.1 10 x = zI (zsum i (fun f => zb (zsg F fr h f = x)))) ∧ s.1.1 3 11 = zI (zsum i (fun f => zb (zsg F fr h f = f)))) F ?_ ?_ ⟨rfl, hP0, fun f hf' => ?_, fun x hx => h6a x hx, ?_⟩
    · rintro i s' hi ⟨g1, g2, g3, g4, g5⟩
      unfold f_X0_settleSigns_L76
      have hl1 := zComp_lt hspec i hi
      rw [g1, g2.1 3 7 rfl, hf.2.1, if_neg (by simp (disch := omega) only [zk_bind, zk_chk, zk_bnd, zk_some, zlp_l, zlp_r, zb_some, zb_bnd, zI_add, zI_sub, zI_mul, zI_neg, zI_le, zI_lt, zI_eq, zI_ix, zI_inI, Int.toNat_natCast, Int.toNat_add, Int.toNat_mul, true_and, and_true]; omega), c_signOfN (by rw [g2.1 3 7 rfl]; exact hf.2.1) hF g3 hi, zb_some, if_neg (by simp (disch := omega) only [zk_bind, zk_chk, zk_bnd, zk_some, zlp_l, zlp_r, zb_some, zb_bnd, zI_add, zI_sub, zI_mul, zI_neg, zI_le, zI_lt, zI_eq, zI_ix, zI_inI, Int.toNat_natCast, Int.toNat_add, Int.toNat_mul, true_and, and_true]; omega), if_neg (by simp (disch := omega) only [zk_bind, zk_chk, zk_bnd, zk_some, zlp_l, zlp_r, zb_some, zb_bnd, zI_add, zI_sub, zI_mul, zI_neg, zI_le, zI_lt, zI_eq, zI_ix, zI_inI, Int.toNat_natCast, Int.toNat_add, Int.toNat_mul, true_and, and_true]; omega), zI_inI (by omega) (by omega) (by omega), zb_chk, zb_chk, zb_bnd, zI_ix (by omega) (by omega), Int.toNat_natCast, g4 _ (by omega), zI_add]
      unfold f_X0_settleSigns_110_L76 f_X0_settleSigns_125_L76
      have key : ∀ v : Nat, v = zb (zsg F fr h i = i) → zOk (zbnd (zstI (zstI s'.1 10 (zsg F fr h i) (zI (((zsum i (fun f => zb (zsg F fr h f = zsg F fr h i)) : Nat) : Int) + 1))) 3 11 ((zstI s'.1 10 (zsg F fr h i) (zI (((zsum i (fun f => zb (zsg F fr h f = zsg F fr h i)) : Nat) : Int) + 1))).1 3 11 + zI v)) (fun M_126 => zbnd (zI i + zI 1) (fun x2_129 => (some (.inl (M_126, x2_129)) : Option ((ZMem × Int32) ⊕ ZMem))))) (zlp (fun s => s.2 = zI ((i + 1 : Nat) : Int) ∧ zP (fun a k => a == 9 || a == 10 || (a == 3 && k == 11)) M s.1 ∧ (∀ f, f < F → s.1.1 9 f = zI (zsg F fr h f)) ∧ (∀ x, x < 20 → s.1.1 10 x = zI (zsum (i + 1) (fun f => zb (zsg F fr h f = x)))) ∧ s.1.1 3 11 = zI (zsum (i + 1) (fun f => zb (zsg F fr h f = f)))) (fun e => zOk (some e) (fun M' => signsC F fr h M' ∧ zComp F (zlk fr h) (zsg F fr h) ∧ zP (fun a k => a == 9 || a == 10 || (a == 3 && k == 11)) M M'))) := by
        intro v hv
        simp (disch := omega) only [zk_bind, zk_chk, zk_bnd, zk_some, zlp_l, zlp_r, zb_some, zb_bnd, zI_add, zI_sub, zI_mul, zI_neg, zI_le, zI_lt, zI_eq, zI_ix, zI_inI, Int.toNat_natCast, Int.toNat_add, Int.toNat_mul, true_and, and_true]
        refine ⟨(by first | omega | exact zI_inj (by omega)), zP_I (zP_I g2 rfl) rfl, fun f hf' => ?_, fun x hx => ?_, ?_⟩
        · rw [zm_Iq _ _ _ _ (by decide), zm_Iq _ _ _ _ (by decide)]
          exact g3 f hf'
        · rw [zm_Iq _ _ _ _ (by decide), zm_I, zsum_s]
          split
          · next e =>
            rw [e.2, zb_t rfl]
            exact zI_inj (by omega)
          · next e =>
            rw [g4 x hx, zb_f (fun h => e ⟨rfl, h.symm⟩)]
            exact zI_inj (by omega)
        · rw [zm_Is, zm_Iq _ _ _ _ (by decide), g5, zI_add, zsum_s, hv]
          exact zI_inj (by omega)
      by_cases hs : zsg F fr h i = i
      · rw [if_pos (by rw [hs])]
        exact key 1 (zb_t hs).symm
      · rw [if_neg (by simp (disch := omega) only [zk_bind, zk_chk, zk_bnd, zk_some, zlp_l, zlp_r, zb_some, zb_bnd, zI_add, zI_sub, zI_mul, zI_neg, zI_le, zI_lt, zI_eq, zI_ix, zI_inI, Int.toNat_natCast, Int.toNat_add, Int.toNat_mul, true_and, and_true]; omega)]
        exact key 0 (zb_f hs).symm
    · rintro s' ⟨g1, g2, g3, g4, g5⟩
      unfold f_X0_settleSigns_L76
      rw [g1, g2.1 3 7 rfl, hf.2.1, if_pos (by simp (disch := omega) only [zk_bind, zk_chk, zk_bnd, zk_some, zlp_l, zlp_r, zb_some, zb_bnd, zI_add, zI_sub, zI_mul, zI_neg, zI_le, zI_lt, zI_eq, zI_ix, zI_inI, Int.toNat_natCast, Int.toNat_add, Int.toNat_mul, true_and, and_true]; omega)]
      simp (disch := omega) only [zk_bind, zk_chk, zk_bnd, zk_some, zlp_l, zlp_r, zb_some, zb_bnd, zI_add, zI_sub, zI_mul, zI_neg, zI_le, zI_lt, zI_eq, zI_ix, zI_inI, Int.toNat_natCast, Int.toNat_add, Int.toNat_mul, true_and, and_true]
      exact ⟨⟨g3, g4, g5⟩, hspec, g2⟩
    · rw [h6c 9 (by decide), zm_Iq _ _ _ _ (by decide), h4 f (by omega), hsg f hf']
    · rw [h6c 3 (by decide), zm_Is]; rfl
