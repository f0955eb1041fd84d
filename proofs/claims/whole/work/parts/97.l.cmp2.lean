/-! ===== the class compares all its words ===== deps: 97.k.cmp -/
def lexW (l : List (Nat × Nat)) (C : ZMem) : Prop := lexC l C ∧ ∀ i, i < l.length → C.1 37 i = zI (zN l i)
def wstD (l : List (Nat × Nat)) (D : Nat → Nat → Prop) (C : ZMem) : Prop := (∀ a, a < 20 → zMk (C.1 42 a) 20 (zcwD l D 0 a)) ∧ (∀ a, a < 20 → zMk (C.1 46 a) 20 (zcwD l D 1 a)) ∧ ∃ m st, stmC m st (zseD l D) C ∧ ∀ y, (∃ i, i < m ∧ st i = y) ↔ zstD l D y
def zWcmp (a k : Nat) : Bool := a == 42 || a == 46 || zWadd a k
theorem lexW_x {l : List (Nat × Nat)} {M0 M : ZMem} (h : zP2 zWcmp (fun a => a == 39) M0 M) (hl : lexW l M0) : lexW l M := ⟨lexC_x (h.1 34 6 rfl) (fun k => h.1 36 k rfl) (h.2 35 rfl) hl.1, fun i hi => by rw [h.1 37 i rfl]; exact hl.2 i hi⟩
theorem c_signAt2 {M : ZMem} {l : List (Nat × Nat)} (ho : okL l) (h : lexC l M) {i t : Nat} (hi : i < l.length) (ht : t < 7) : f_X2_signAt M (zI i) (zI t) = some (zI (zks (zK l i) t)) := by
  have := ho.1
  have hw := (okL_W ho hi).2.1
  unfold f_X2_signAt
  rw [c_has2 h.1 ho.1 (by omega) (by omega), zb_some, if_neg (by rw [zb_0]; omega), zI_inI (by omega) (by omega) (by omega), zb_chk, zI_ix (by omega) (by omega), Int.toNat_natCast, (h.2 i hi).1]
  show zbind (f_X2_signOfKey M (zJ (zK l i)) (zI t)) _ = _
  rw [zsig hw ht]
  rfl
theorem zks_S {l : List (Nat × Nat)} (ho : okL l) {i : Nat} (hi : i < l.length) (kind : Nat) : zks (zK l i) (zpos l kind i) = (zS l kind i : Int) := by
  have h1 := zpos_lt ho hi kind
  have h2 := zS_rng ho hi kind
  rw [zks_lt h1.1, h2.2]
  omega
theorem zcwD_or {l : List (Nat × Nat)} {D : Nat → Nat → Prop} {kind i j a b : Nat} (ho : okL l) (hij : i < j) (hj : j < l.length) (hd : zdif l kind i j) : zcwD l (fun x y => D x y ∨ (x = i ∧ y = j)) kind a b ↔ zcwD l D kind a b ∨ (zS l kind i ≠ zS l kind j ∧ ((a = zS l kind i ∧ b = zS l kind j) ∨ (a = zS l kind j ∧ b = zS l kind i))) := by
  constructor
  · rintro ⟨x, y, hxy | ⟨rfl, rfl⟩, h2, h3⟩
    · exact Or.inl ⟨x, y, hxy, h2, h3⟩
    · exact Or.inr ⟨zdif_ne ho hij hj hd, h3⟩
  · rintro (⟨x, y, h1, h2, h3⟩ | ⟨_, h3⟩)
    · exact ⟨x, y, Or.inl h1, h2, h3⟩
    · exact ⟨i, j, Or.inr ⟨rfl, rfl⟩, hd, h3⟩
theorem zcwD_no {l : List (Nat × Nat)} {D : Nat → Nat → Prop} {kind i j a b : Nat} (hd : ¬ zdif l kind i j) : zcwD l (fun x y => D x y ∨ (x = i ∧ y = j)) kind a b ↔ zcwD l D kind a b := by
  constructor
  · rintro ⟨x, y, hxy | ⟨rfl, rfl⟩, h2, h3⟩
    · exact ⟨x, y, hxy, h2, h3⟩
    · exact absurd h2 hd
  · rintro ⟨x, y, h1, h2, h3⟩
    exact ⟨x, y, Or.inl h1, h2, h3⟩
theorem c_compareTwo {M : ZMem} {l : List (Nat × Nat)} {D : Nat → Nat → Prop} (ho : okL l) (hl : lexW l M) (hD : ∀ x y, D x y → x < y ∧ y < l.length) (h : wstD l D M) {i j : Nat} (hij : i < j) (hj : j < l.length) (hn : zN l i = zN l j) (hn2 : 2 ≤ zN l i) : zOk (f_X2_compareTwo M (zI i) (zI j)) (fun M' => wstD l (fun x y => D x y ∨ (x = i ∧ y = j)) M' ∧ zP2 zWcmp (fun a => a == 39) M M') := by
  have hi : i < l.length := by omega
  have hlen := ho.1
  obtain ⟨wi1, wi2⟩ := okL_W ho hi
  obtain ⟨wj1, wj2⟩ := okL_W ho hj
  have hp0 : zpos l 0 i = zN l i - 1 := by unfold zpos; rw [if_pos rfl]
  have hp1 : ∀ k, zpos l 1 k = 0 := fun k => by unfold zpos; rw [if_neg (by decide)]
  have hp0j : zpos l 0 j = zN l i - 1 := by unfold zpos; rw [if_pos rfl, hn]
  have hi7 := wi2.2.1
  have s0i := zS_rng ho hi 0
  have s0j := zS_rng ho hj 0
  have s1i := zS_rng ho hi 1
  have s1j := zS_rng ho hj 1
  -- the second half: shared ends
  have half : ∀ N : ZMem, zP2 zWcmp (fun a => a == 39) M N → (∀ a, a < 20 → zMk (N.1 42 a) 20 (zcwD l (fun x y => D x y ∨ (x = i ∧ y = j)) 0 a)) → (∀ a, a < 20 → zMk (N.1 46 a) 20 (zcwD l D 1 a)) → (∃ m st, stmC m st (zseD l (fun x y => D x y ∨ (x = i ∧ y = j))) N ∧ ∀ y, (∃ i, i < m ∧ st i = y) ↔ zstD l (fun x y => D x y ∨ (x = i ∧ y = j)) y) → zOk (f_X2_compareTwo_124 N (zI i) (zI j) ((31 : Int64) <<< (Int32.toInt64 (zI ((5 * (6 - 0) : Nat) : Int)) &&& 63)) (zJ (zK l i) ^^^ zJ (zK l j))) (fun M' => wstD l (fun x y => D x y ∨ (x = i ∧ y = j)) M' ∧ zP2 zWcmp (fun a => a == 39) M M') := by
    intro N n1 n2 n3 n4
    have hlN := lexW_x n1 hl
    unfold f_X2_compareTwo_124
    have hiff := zclr_eq (t := 0) wi2.1 wj2.1
    unfold zmsk at hiff
    by_cases hd : zdif l 1 i j
    · have hcl := hd.2.2
      rw [hp1] at hcl
      rw [if_pos (hiff.mpr hcl), show zI 0 = zI ((0 : Nat) : Int) from rfl, c_signAt2 ho hlN.1 hi (by omega), c_signAt2 ho hlN.1 hj (by omega), zb_some, zb_some]
      have e1 := zks_S ho hi 1
      have e2 := zks_S ho hj 1
      rw [hp1] at e1 e2
      rw [e1, e2]
      unfold f_X5_linkByWords
      rw [zk_bind, zk_bind]
      refine zOk_mono (c_link (c := 45 + 1) n3 s1i.1 s1j.1) (fun M2 h2 => ?_)
      obtain ⟨g1, g2⟩ := h2
      rw [zk_some, zk_some]
      obtain ⟨m, st, m1, m2⟩ := n4
      refine ⟨⟨fun a ha => by rw [g2.1 42 a rfl]; exact n2 a ha, fun a ha => zMk_cg (g1 a ha) (fun b => (zcwD_or ho hij hj hd).symm), m, st, ?_, m2⟩, zP2_tr n1 (zP2_of g2 (fun a k ha => by unfold zWcmp at ha; simp at ha ⊢; omega))⟩
      exact ⟨m1.1, m1.2.1, m1.2.2.1, by rw [g2.1 34 8 rfl]; exact m1.2.2.2.1, fun k hk => ⟨by rw [g2.2]; exact (m1.2.2.2.2 k hk).1, by rw [g2.1 40 k rfl]; exact (m1.2.2.2.2 k hk).2⟩⟩
    · have hcl : ¬ zclr (zK l i) 0 = zclr (zK l j) 0 := fun hh => hd ⟨hn, hn2, by rw [hp1]; exact hh⟩
      rw [if_neg (fun hh => hcl (hiff.mp hh)), zk_some]
      exact ⟨⟨n2, fun a ha => zMk_cg (n3 a ha) (fun b => (zcwD_no hd).symm), n4⟩, n1⟩
  obtain ⟨h42, h46, m, st, m1, m2⟩ := h
  unfold f_X2_compareTwo f_X2_shiftOf
  rw [zI_inI (by omega) (by omega) (by omega), zb_chk, zI_ix (by omega) (by omega), Int.toNat_natCast, hl.2 i hi, zI_sub, zk_bnd, zb_some, zI_sub, zI_mul, show (5 * (6 - ((zN l i : Int) - 1))) = ((5 * (6 - (zN l i - 1)) : Nat) : Int) by omega, zk_bnd, zb_some, show zI 5 * (zI 6 - zI 0) = zI ((5 * (6 - 0) : Nat) : Int) from rfl, zk_bnd, zb_chk, zI_inI (by omega) (by omega) (by omega), zb_chk, zk_bnd, zI_ix (by omega) (by omega), Int.toNat_natCast, (hl.1.2 i hi).1, (hl.1.2 j hj).1, show ((zN l i : Int) - 1) = ((zN l i - 1 : Nat) : Int) by omega]
  show zOk (ite (lg_cmp ((zJ (zK l i) ^^^ zJ (zK l j)) &&& zmsk (zN l i - 1)) 0 = zI 0) _ _) _
  by_cases hd : zdif l 0 i j
  · have hcl := hd.2.2
    rw [hp0] at hcl
    have e1 := zks_S ho hi 0
    have e2 := zks_S ho hj 0
    rw [hp0] at e1
    rw [hp0j] at e2
    rw [if_pos ((zclr_eq wi2.1 wj2.1).mpr hcl), c_signAt2 ho hl.1 hi (by omega), c_signAt2 ho hl.1 hj (by omega), zb_some, zb_some, e1, e2]
    unfold f_X5_linkByWords
    rw [zk_bind, zk_bind]
    refine zOk_mono (c_link (c := 41 + 1) h42 s0i.1 s0j.1) (fun M2 h2 => ?_)
    obtain ⟨g1, g2⟩ := h2
    rw [zk_some]
    have gP : zP2 zWcmp (fun a => a == 39) M M2 := zP2_of g2 (fun a k ha => by unfold zWcmp at ha; simp at ha ⊢; omega)
    have k42 : ∀ a, a < 20 → zMk (M2.1 42 a) 20 (zcwD l (fun x y => D x y ∨ (x = i ∧ y = j)) 0 a) := fun a ha => zMk_cg (g1 a ha) (fun b => (zcwD_or ho hij hj hd).symm)
    have k46 : ∀ a, a < 20 → zMk (M2.1 46 a) 20 (zcwD l D 1 a) := fun a ha => by rw [g2.1 46 a rfl]; exact h46 a ha
    have m1' : stmC m st (zseD l D) M2 := ⟨m1.1, m1.2.1, m1.2.2.1, by rw [g2.1 34 8 rfl]; exact m1.2.2.2.1, fun k hk => ⟨by rw [g2.2]; exact (m1.2.2.2.2 k hk).1, by rw [g2.1 40 k rfl]; exact (m1.2.2.2.2 k hk).2⟩⟩
    by_cases h3 : zN l i - 1 < 2
    · rw [if_pos (by simp (disch := omega) only [zk_bind, zk_chk, zk_bnd, zk_some, zlp_l, zlp_r, zb_some, zb_bnd, zI_add, zI_sub, zI_mul, zI_neg, zI_le, zI_lt, zI_eq, zI_ix, zI_inI, Int.toNat_natCast, Int.toNat_add, Int.toNat_mul, true_and, and_true]; omega)]
      refine half M2 gP k42 k46 ⟨m, st, ⟨m1'.1, m1'.2.1, m1'.2.2.1, m1'.2.2.2.1, fun k hk => ⟨(m1'.2.2.2.2 k hk).1, zMk_cg (m1'.2.2.2.2 k hk).2 (fun b => ⟨?_, ?_⟩)⟩⟩, fun y => (m2 y).trans ⟨?_, ?_⟩⟩
      · rintro ⟨x, y, z1, z2⟩
        exact ⟨x, y, Or.inl z1, z2⟩
      · rintro ⟨x, y, z1 | ⟨rfl, rfl⟩, z2, z3, z4⟩
        · exact ⟨x, y, z1, z2, z3, z4⟩
        · omega
      · rintro ⟨x, y, z1, z2⟩
        exact ⟨x, y, Or.inl z1, z2⟩
      · rintro ⟨x, y, z1 | ⟨rfl, rfl⟩, z2, z3, z4⟩
        · exact ⟨x, y, z1, z2, z3, z4⟩
        · omega
    · have hlN := lexW_x gP hl
      rw [if_neg (by simp (disch := omega) only [zk_bind, zk_chk, zk_bnd, zk_some, zlp_l, zlp_r, zb_some, zb_bnd, zI_add, zI_sub, zI_mul, zI_neg, zI_le, zI_lt, zI_eq, zI_ix, zI_inI, Int.toNat_natCast, Int.toNat_add, Int.toNat_mul, true_and, and_true]; omega), c_signAt2 ho hlN.1 hi (by omega), c_signAt2 ho hlN.1 hj (by omega), zb_some, zb_some, e1, e2, zk_bnd, zb_chk, (hlN.1.2 i hi).1]
      show zOk (zbind (f_X2_addEndings M2 (zJ (zK l i) &&& zmsk (zN l i - 1)) _) _) _
      rw [zclr_code wi2.1, zk_bind]
      refine zOk_mono (c_addEndings m1' (zclr_lt _ wi2.1) (B := fun b => b = zS l 0 i ∨ b = zS l 0 j) (zMk_oo (by decide) (zMk_one s0i.1 (by decide)) (zMk_one s0j.1 (by decide))) (fun hne => ?_)) (fun M3 h3' => ?_)
      · -- room for one more
        have hst : ∀ y, zstD l D y → zstem l y := fun y ⟨x', y', z1, z2⟩ => ⟨x', y', (hD x' y' z1).1, (hD x' y' z1).2, z2⟩
        have := zstem_many ho (n := m + 1) (st := fun k => if k < m then st k else zclr (zK l i) (zN l i - 1)) (fun a b ha hb hab => ?_) (fun k hk => ?_)
        · omega
        · skip
          by_cases c1 : a < m
          · rw [if_pos c1] at hab
            by_cases c2 : b < m
            · rw [if_pos c2] at hab
              by_cases c3 : a = b
              · exact c3
              · exact absurd hab (zinc_ne m1'.1 c1 c2 c3)
            · rw [if_neg c2] at hab
              exact absurd hab (hne a c1)
          · rw [if_neg c1] at hab
            by_cases c2 : b < m
            · rw [if_pos c2] at hab
              exact absurd hab.symm (hne b c2)
            · omega
        · skip
          split
          · next c1 => exact hst _ ((m2 _).mp ⟨k, c1, rfl⟩)
          · exact ⟨i, j, hij, hj, hd, by omega, rfl⟩
      · obtain ⟨m', st', a1, a2, a3⟩ := h3'
        refine half M3 (zP2_tr gP (zP2_mono a3 (fun a k ha => by unfold zWcmp at ha; simp at ha; exact ha.2) (fun _ h => h))) (fun a ha => by rw [a3.1 42 a rfl]; exact k42 a ha) (fun a ha => by rw [a3.1 46 a rfl]; exact k46 a ha) ⟨m', st', ⟨a1.1, a1.2.1, a1.2.2.1, a1.2.2.2.1, fun k hk => ⟨(a1.2.2.2.2 k hk).1, zMk_cg (a1.2.2.2.2 k hk).2 (fun b => ⟨?_, ?_⟩)⟩⟩, fun y => (a2 y).trans ⟨?_, ?_⟩⟩
        · rintro (⟨_, x, y, z1, z2⟩ | ⟨z1, z2⟩)
          · exact ⟨x, y, Or.inl z1, z2⟩
          · exact ⟨i, j, Or.inr ⟨rfl, rfl⟩, hd, by omega, z1, z2⟩
        · rintro ⟨x, y, z1 | ⟨rfl, rfl⟩, z2, z3, z4, z5⟩
          · exact Or.inl ⟨(m2 _).mpr ⟨x, y, z1, z2, z3, z4⟩, x, y, z1, z2, z3, z4, z5⟩
          · exact Or.inr ⟨z4, z5⟩
        · rintro (z1 | z1)
          · obtain ⟨x, y', z2, z3⟩ := (m2 y).mp z1
            exact ⟨x, y', Or.inl z2, z3⟩
          · exact ⟨i, j, Or.inr ⟨rfl, rfl⟩, hd, by omega, z1⟩
        · rintro ⟨x, y', z1 | ⟨rfl, rfl⟩, z2, z3, z4⟩
          · exact Or.inl ((m2 y).mpr ⟨x, y', z1, z2, z3, z4⟩)
          · exact Or.inr z4
  · have hcl : ¬ zclr (zK l i) (zN l i - 1) = zclr (zK l j) (zN l i - 1) := fun hh => hd ⟨hn, hn2, by rw [hp0]; exact hh⟩
    rw [if_neg (fun hh => hcl ((zclr_eq wi2.1 wj2.1).mp hh))]
    refine half M zP2_rf (fun a ha => zMk_cg (h42 a ha) (fun b => (zcwD_no hd).symm)) h46 ⟨m, st, ⟨m1.1, m1.2.1, m1.2.2.1, m1.2.2.2.1, fun k hk => ⟨(m1.2.2.2.2 k hk).1, zMk_cg (m1.2.2.2.2 k hk).2 (fun b => ⟨?_, ?_⟩)⟩⟩, fun y => (m2 y).trans ⟨?_, ?_⟩⟩
    · rintro ⟨x, y, z1, z2⟩
      exact ⟨x, y, Or.inl z1, z2⟩
    · rintro ⟨x, y, z1 | ⟨rfl, rfl⟩, z2, z3, z4⟩
      · exact ⟨x, y, z1, z2, z3, z4⟩
      · exact absurd z2 hd
    · rintro ⟨x, y, z1, z2⟩
      exact ⟨x, y, Or.inl z1, z2⟩
    · rintro ⟨x, y, z1 | ⟨rfl, rfl⟩, z2, z3, z4⟩
      · exact ⟨x, y, z1, z2, z3, z4⟩
      · exact absurd z2 hd
theorem wstD_cg {l : List (Nat × Nat)} {D D' : Nat → Nat → Prop} {C : ZMem} (h : wstD l D C) (e : ∀ i j, D i j → D' i j) (e' : ∀ i j, D' i j → D i j ∨ ∀ kind, ¬ zdif l kind i j) : wstD l D' C := by
  obtain ⟨h42, h46, m, st, m1, m2⟩ := h
  have ec : ∀ kind a b, zcwD l D kind a b ↔ zcwD l D' kind a b := by
    intro kind a b
    constructor
    · rintro ⟨i, j, z1, z2⟩
      exact ⟨i, j, e i j z1, z2⟩
    · rintro ⟨i, j, z1, z2, z3⟩
      rcases e' i j z1 with z4 | z4
      · exact ⟨i, j, z4, z2, z3⟩
      · exact absurd z2 (z4 kind)
  refine ⟨fun a ha => zMk_cg (h42 a ha) (fun b => ec 0 a b), fun a ha => zMk_cg (h46 a ha) (fun b => ec 1 a b), m, st, ⟨m1.1, m1.2.1, m1.2.2.1, m1.2.2.2.1, fun k hk => ⟨(m1.2.2.2.2 k hk).1, zMk_cg (m1.2.2.2.2 k hk).2 (fun b => ⟨?_, ?_⟩)⟩⟩, fun y => (m2 y).trans ⟨?_, ?_⟩⟩
  · rintro ⟨x, y, z1, z2⟩
    exact ⟨x, y, e x y z1, z2⟩
  · rintro ⟨x, y, z1, z2, z3⟩
    rcases e' x y z1 with z4 | z4
    · exact ⟨x, y, z4, z2, z3⟩
    · exact absurd z2 (z4 0)
  · rintro ⟨x, y, z1, z2⟩
    exact ⟨x, y, e x y z1, z2⟩
  · rintro ⟨x, y, z1, z2, z3⟩
    rcases e' x y z1 with z4 | z4
    · exact ⟨x, y, z4, z2, z3⟩
    · exact absurd z2 (z4 0)
theorem c_compareWords {M : ZMem} {l : List (Nat × Nat)} (ho : okL l) (hl : lexW l M) (h42 : ∀ a, a < 20 → M.1 42 a = zI 0) (h46 : ∀ a, a < 20 → M.1 46 a = zI 0) : zOk (f_X2_compareWords M) (fun M' => wstD l (fun x y => x < y ∧ y < l.length) M' ∧ zP2 zWcmp (fun a => a == 39) M M') := by
  have hlen := ho.1
  unfold f_X2_compareWords
  rw [zk_bnd, zk_bind]
  have p0 : zP2 zWcmp (fun a => a == 39) M (zstI M 34 8 (zI 0)) := zP2_I zP2_rf rfl
  refine zOk_forQ (fun i x => x.2 = zI i ∧ zP2 zWcmp (fun a => a == 39) M x.1 ∧ wstD l (fun x y => x < y ∧ y < l.length ∧ x < i) x.1) l.length ?_ ?_ ⟨rfl, p0, fun a ha => by rw [zm_Iq _ _ _ _ (by decide), h42 a ha]; exact zMk_0 20 (fun b ⟨x, y, z, _⟩ => absurd z.2.2 (Nat.not_lt_zero x)), fun a ha => by rw [zm_Iq _ _ _ _ (by decide), h46 a ha]; exact zMk_0 20 (fun b ⟨x, y, z, _⟩ => absurd z.2.2 (Nat.not_lt_zero x)), 0, fun _ => 0, ⟨fun i j _ hj => absurd hj (Nat.not_lt_zero j), by omega, fun i hi => absurd hi (Nat.not_lt_zero i), by rw [zm_Is]; rfl, fun i hi => absurd hi (Nat.not_lt_zero i)⟩, fun y => ⟨fun ⟨i, hi, _⟩ => absurd hi (Nat.not_lt_zero i), fun ⟨x, y, z, _⟩ => absurd z.2.2 (Nat.not_lt_zero x)⟩⟩
  · rintro i ⟨x1, x2⟩ hi ⟨e1, e2, e3⟩ Q hQ _
    dsimp only at e1 e2 e3
    have hl1 := lexW_x e2 hl
    unfold f_X2_compareWords_L7
    dsimp only
    rw [hl1.1.1, e1, if_neg (by simp (disch := omega) only [zk_bind, zk_chk, zk_bnd, zk_some, zlp_l, zlp_r, zb_some, zb_bnd, zI_add, zI_sub, zI_mul, zI_neg, zI_le, zI_lt, zI_eq, zI_ix, zI_inI, Int.toNat_natCast, Int.toNat_add, Int.toNat_mul, true_and, and_true]; omega), zI_add, zk_bnd, zk_bind]
    refine zOk_forQ (fun j x => x.2 = zI ((i + 1 + j : Nat) : Int) ∧ zP2 zWcmp (fun a => a == 39) M x.1 ∧ wstD l (fun x y => x < y ∧ y < l.length ∧ (x < i ∨ (x = i ∧ y < i + 1 + j))) x.1) (l.length - (i + 1)) ?_ ?_ ⟨zI_inj (by omega), e2, wstD_cg e3 (fun x y hxy => ⟨hxy.1, hxy.2.1, Or.inl hxy.2.2⟩) (fun x y hxy => Or.inl ⟨hxy.1, hxy.2.1, by omega⟩)⟩
    · rintro j ⟨y1, y2⟩ hj ⟨d1, d2, d3⟩ Q' hQ' _
      dsimp only at d1 d2 d3
      have hl2 := lexW_x d2 hl
      have w1 := okL_W ho (i := i) (by omega)
      have w2 := okL_W ho (i := i + 1 + j) (by omega)
      have w1' := w1.2.2.1
      have w2' := w2.2.2.1
      unfold f_X2_compareWords_L20
      dsimp only
      rw [hl2.1.1, d1, if_neg (by simp (disch := omega) only [zk_bind, zk_chk, zk_bnd, zk_some, zlp_l, zlp_r, zb_some, zb_bnd, zI_add, zI_sub, zI_mul, zI_neg, zI_le, zI_lt, zI_eq, zI_ix, zI_inI, Int.toNat_natCast, Int.toNat_add, Int.toNat_mul, true_and, and_true]; omega), zI_inI (by omega) (by omega) (by omega), zb_chk, zI_ix (by omega) (by omega), Int.toNat_natCast, hl2.2 i (by omega)]
      have skip : (∀ kind, ¬ zdif l kind i (i + 1 + j)) → zOk (zbnd (zI ((i + 1 + j : Nat) : Int) + zI 1) (fun x4_64 => (some (.inl (y1, x4_64)) : Option ((ZMem × Int32) ⊕ ZMem)))) Q' := by
        intro hno
        rw [zk_bnd, zk_some, zI_add]
        refine hQ' _ ⟨zI_inj (by omega), d2, wstD_cg d3 (fun x y hxy => ⟨hxy.1, hxy.2.1, by omega⟩) (fun x y hxy => ?_)⟩
        by_cases hc : x = i ∧ y = i + 1 + j
        · right
          rw [hc.1, hc.2]
          exact hno
        · left
          exact ⟨hxy.1, hxy.2.1, by omega⟩
      by_cases c1 : zN l i < 2
      · rw [if_pos (by simp (disch := omega) only [zk_bind, zk_chk, zk_bnd, zk_some, zlp_l, zlp_r, zb_some, zb_bnd, zI_add, zI_sub, zI_mul, zI_neg, zI_le, zI_lt, zI_eq, zI_ix, zI_inI, Int.toNat_natCast, Int.toNat_add, Int.toNat_mul, true_and, and_true]; omega)]
        exact skip (fun kind hd => by have := hd.2.1; omega)
      · rw [if_neg (by simp (disch := omega) only [zk_bind, zk_chk, zk_bnd, zk_some, zlp_l, zlp_r, zb_some, zb_bnd, zI_add, zI_sub, zI_mul, zI_neg, zI_le, zI_lt, zI_eq, zI_ix, zI_inI, Int.toNat_natCast, Int.toNat_add, Int.toNat_mul, true_and, and_true]; omega), zb_chk, zI_inI (by omega) (by omega) (by omega), zb_chk, zI_ix (by omega) (by omega), Int.toNat_natCast, hl2.2 _ (by omega)]
        by_cases c2 : zN l i = zN l (i + 1 + j)
        · rw [if_pos (by rw [c2]), zk_bind]
          refine zOk_mono (c_compareTwo ho hl2 (fun x y hxy => ⟨hxy.1, hxy.2.1⟩) d3 (by omega) (by omega) c2 (by omega)) (fun M3 h3 => ?_)
          rw [zk_bnd, zk_some, zI_add]
          refine hQ' _ ⟨zI_inj (by omega), zP2_tr d2 h3.2, wstD_cg h3.1 (fun x y hxy => ?_) (fun x y hxy => ?_)⟩
          · rcases hxy with hxy | ⟨rfl, rfl⟩
            · exact ⟨hxy.1, hxy.2.1, by omega⟩
            · exact ⟨by omega, by omega, by omega⟩
          · left
            by_cases hc : x = i ∧ y = i + 1 + j
            · exact Or.inr hc
            · exact Or.inl ⟨hxy.1, hxy.2.1, by omega⟩
        · rw [if_neg (by simp (disch := omega) only [zk_bind, zk_chk, zk_bnd, zk_some, zlp_l, zlp_r, zb_some, zb_bnd, zI_add, zI_sub, zI_mul, zI_neg, zI_le, zI_lt, zI_eq, zI_ix, zI_inI, Int.toNat_natCast, Int.toNat_add, Int.toNat_mul, true_and, and_true]; omega)]
          exact skip (fun kind hd => c2 hd.1)
    · rintro ⟨y1, y2⟩ ⟨d1, d2, d3⟩
      dsimp only at d1 d2 d3
      refine ⟨y1, ?_, ?_⟩
      · unfold f_X2_compareWords_L20
        dsimp only
        rw [(lexW_x d2 hl).1.1, d1, if_pos (by simp (disch := omega) only [zk_bind, zk_chk, zk_bnd, zk_some, zlp_l, zlp_r, zb_some, zb_bnd, zI_add, zI_sub, zI_mul, zI_neg, zI_le, zI_lt, zI_eq, zI_ix, zI_inI, Int.toNat_natCast, Int.toNat_add, Int.toNat_mul, true_and, and_true]; omega)]
      · rw [zk_bnd, zk_some]
        exact hQ _ ⟨zI_inj (by omega), d2, wstD_cg d3 (fun x y hxy => ⟨hxy.1, hxy.2.1, by omega⟩) (fun x y hxy => Or.inl ⟨hxy.1, hxy.2.1, by omega⟩)⟩
  · rintro ⟨x1, x2⟩ ⟨e1, e2, e3⟩
    dsimp only at e1 e2 e3
    refine ⟨x1, ?_, ?_⟩
    · unfold f_X2_compareWords_L7
      dsimp only
      rw [(lexW_x e2 hl).1.1, e1, if_pos (by simp (disch := omega) only [zk_bind, zk_chk, zk_bnd, zk_some, zlp_l, zlp_r, zb_some, zb_bnd, zI_add, zI_sub, zI_mul, zI_neg, zI_le, zI_lt, zI_eq, zI_ix, zI_inI, Int.toNat_natCast, Int.toNat_add, Int.toNat_mul, true_and, and_true]; omega)]
    · rw [zk_some]
      exact ⟨wstD_cg e3 (fun x y hxy => ⟨hxy.1, hxy.2.1⟩) (fun x y hxy => Or.inl ⟨hxy.1, hxy.2, by omega⟩), e2⟩
