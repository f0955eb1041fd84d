/-! ===== lines and files of the class ===== deps: 97.n.grid -/
def netC (l : List (Nat × Nat)) (h : Nat → Int) (sg : Nat → Nat) (kind q : Nat) (C : ZMem) : Prop := (∀ a, a < 20 → zMk (C.1 (q + 2) a) 20 (zcl l h sg kind a)) ∧ ∃ L, (∀ i, i < 20 → C.1 (q + 3) i = zI (L i)) ∧ zComp 20 (zcl l h sg kind) L
/-- words are of signs -/
def zSgW (F : Nat) (l : List (Nat × Nat)) (sg : Nat → Nat) : Prop := ∀ i t, i < l.length → t < zN l i → ∃ f, f < F ∧ zdg (zK l i) t = sg f + 1
theorem zcl_sg {F : Nat} {l : List (Nat × Nat)} {h : Nat → Int} {sg : Nat → Nat} {kind a b : Nat} (ho : okL l) (hk : okH F h) (hS : zSgW F l sg) (hc : zcl l h sg kind a b) : (∃ f, f < F ∧ sg f = a) ∧ ∃ f, f < F ∧ sg f = b := by
  have hw : ∀ i, i < l.length → ∃ f, f < F ∧ sg f = zS l kind i := by
    intro i hi
    have h1 := zpos_lt ho hi kind
    have h2 := zS_rng ho hi kind
    obtain ⟨f, f1, f2⟩ := hS i _ hi h1.2
    exact ⟨f, f1, by omega⟩
  rcases hc with ⟨i, j, z1, z2, z3⟩ | ⟨t, z1, z2, z3, z4⟩
  · have hi : i < l.length := Nat.lt_trans z1.1 z1.2
    rcases z3 with ⟨rfl, rfl⟩ | ⟨rfl, rfl⟩
    · exact ⟨hw i hi, hw j z1.2⟩
    · exact ⟨hw j z1.2, hw i hi⟩
  · obtain ⟨⟨o1, o2⟩, ⟨o3, o4⟩, o5⟩ := hk.2.2.2.2.2.2 t (by omega)
    rcases z4 with ⟨rfl, rfl⟩ | ⟨rfl, rfl⟩
    · exact ⟨⟨_, by omega, rfl⟩, ⟨_, by omega, rfl⟩⟩
    · exact ⟨⟨_, by omega, rfl⟩, ⟨_, by omega, rfl⟩⟩
/-- the label of a sign is the group of its forms -/
theorem zgr_L {F : Nat} {l : List (Nat × Nat)} {h : Nat → Int} {sg : Nat → Nat} {kind : Nat} {L : Nat → Nat} (ho : okL l) (hF : F ≤ 20) (hk : okH F h) (hS : zSgW F l sg) (hsi : ∀ f, f < F → sg f ≤ f ∧ sg (sg f) = sg f) (hL : zComp 20 (zcl l h sg kind) L) {f : Nat} (hf : f < F) : L (sg f) = zgr F l h sg kind f := by
  have hc : zComp F (ztog l h sg kind) (fun f => L (sg f)) := by
    refine ⟨fun i hi => ?_, fun i j hi hj hl => ?_, fun g hg i hi => ?_⟩
    · have := (hsi i hi).1
      have := hL.1 (sg i) (by omega)
      dsimp only
      omega
    · have := (hsi i hi).1
      have := (hsi j hj).1
      rcases hl with hl | hl
      · dsimp only
        rw [hl]
      · exact hL.2.1 (sg i) (sg j) (by omega) (by omega) hl
    · have h1 := (hsi i hi).1
      have hg2 : ∀ a b, a < 20 → b < 20 → zcl l h sg kind a b → (fun x => if x < F then g x else 0) a = (fun x => if x < F then g x else 0) b := by
        intro a b _ _ hab
        obtain ⟨⟨fa, a1, rfl⟩, ⟨fb, b1, rfl⟩⟩ := zcl_sg ho hk hS hab
        have sa := hsi fa a1
        have sb := hsi fb b1
        dsimp only
        rw [if_pos (by omega), if_pos (by omega)]
        refine hg (sg fa) (sg fb) (by omega) (by omega) (Or.inr ?_)
        rw [sa.2, sb.2]
        exact hab
      have h2 := hL.2.2 _ hg2 (sg i) (by omega)
      have h3 := hL.1 (sg i) (by omega)
      rw [if_pos (by omega), if_pos (by omega)] at h2
      dsimp only
      rw [h2]
      exact hg (sg i) i (by omega) hi (Or.inl (hsi i hi).2)
  exact (zLab_of hc hf).symm
theorem c_netSettle {M : ZMem} {q kind F : Nat} {l : List (Nat × Nat)} {h : Nat → Int} {sg : Nat → Nat} (ho : okL l) (hq : (q = 41 ∧ kind = 0) ∨ (q = 45 ∧ kind = 1)) (hq0 : M.1 q 0 = zI kind) (hF : F ≤ 20) (hF1 : M.1 3 7 = zI F) (hsg : ∀ f, f < F → M.1 9 f = zI (sg f)) (hsl : ∀ f, f < F → sg f < 20) (hk : okH F h) (hcl : clueC h M) (hw : ∀ a, a < 20 → zMk (M.1 (q + 1) a) 20 (zcwD l (zDall l) kind a)) : zOk (f_X5_settle q M) (fun M' => netC l h sg kind q M' ∧ zP (fun a _ => a == q + 2 || a == q + 3) M M') := by
  obtain ⟨k1, k2, k3, k4, k5, k6, k7⟩ := hk
  unfold f_X5_settle
  rw [show zcp (zI 0) (zI 0) (zI 20) 20 20 = true from by decide, zb_chk, zk_bnd, show zix (zI 0) = 0 from rfl, show zix (zI 20) = 20 from rfl, zk_bind]
  refine zOk_forQ (fun i x => x.2 = zI i ∧ zP (fun a _ => a == q + 2) M x.1 ∧ ∀ a, a < 20 → zMk (x.1.1 (q + 2) a) 20 (fun b => zcwD l (zDall l) kind a b ∨ zctD h sg i kind a b)) (h 3).toNat ?_ ?_ ⟨rfl, zP_F zP_rf (by simp), fun a ha => ?_⟩
  · rintro i ⟨x1, x2⟩ hi ⟨e1, e2, e3⟩ Q hQ _
    dsimp only at e1 e2 e3
    obtain ⟨⟨o1, o2⟩, ⟨o3, o4⟩, o5, o6⟩ := k7 i (by omega)
    have hc2 : clueC h x1 := clueC_x (fun a k ha => e2.1 a k (by unfold dclueC at ha; simp at ha ⊢; omega)) hcl
    obtain ⟨c1, c2, c3⟩ := hc2.2.1 i (by omega)
    have hf1 : x1.1 3 7 = zI F := (e2.1 3 7 (by simp; omega)).trans hF1
    have hg : ∀ f, f < F → x1.1 9 f = zI (sg f) := fun f hf => by rw [e2.1 9 f (by simp; omega)]; exact hsg f hf
    unfold f_X5_settle_L17 f_X1_cluesHeld f_X1_clueIsOf f_X1_clueOne f_X1_clueOther
    dsimp only
    rw [zb_some, hc2.1, e1, if_neg (by simp (disch := omega) only [zk_bind, zk_chk, zk_bnd, zk_some, zlp_l, zlp_r, zb_some, zb_bnd, zI_add, zI_sub, zI_mul, zI_neg, zI_le, zI_lt, zI_eq, zI_ix, zI_inI, Int.toNat_natCast, Int.toNat_add, Int.toNat_mul, true_and, and_true]; omega), if_neg (by simp (disch := omega) only [zk_bind, zk_chk, zk_bnd, zk_some, zlp_l, zlp_r, zb_some, zb_bnd, zI_add, zI_sub, zI_mul, zI_neg, zI_le, zI_lt, zI_eq, zI_ix, zI_inI, Int.toNat_natCast, Int.toNat_add, Int.toNat_mul, true_and, and_true]; omega), if_neg (by simp (disch := omega) only [zk_bind, zk_chk, zk_bnd, zk_some, zlp_l, zlp_r, zb_some, zb_bnd, zI_add, zI_sub, zI_mul, zI_neg, zI_le, zI_lt, zI_eq, zI_ix, zI_inI, Int.toNat_natCast, Int.toNat_add, Int.toNat_mul, true_and, and_true]; omega), zI_inI (by omega) (by omega) (by omega), zb_chk, zI_ix (by omega) (by omega), Int.toNat_natCast, c3, e2.1 q 0 (by simp), hq0]
    by_cases hkd : h (426 + 3 * i) = kind
    · rw [if_pos (zI_inj hkd), zb_some, if_neg (by decide), if_neg (by simp (disch := omega) only [zk_bind, zk_chk, zk_bnd, zk_some, zlp_l, zlp_r, zb_some, zb_bnd, zI_add, zI_sub, zI_mul, zI_neg, zI_le, zI_lt, zI_eq, zI_ix, zI_inI, Int.toNat_natCast, Int.toNat_add, Int.toNat_mul, true_and, and_true]; omega), if_neg (by simp (disch := omega) only [zk_bind, zk_chk, zk_bnd, zk_some, zlp_l, zlp_r, zb_some, zb_bnd, zI_add, zI_sub, zI_mul, zI_neg, zI_le, zI_lt, zI_eq, zI_ix, zI_inI, Int.toNat_natCast, Int.toNat_add, Int.toNat_mul, true_and, and_true]; omega), zb_chk, zb_some, c1, c_signOf hf1 hF hg (by omega) (by omega), if_pos ⟨o1, o2⟩, zb_some, if_neg (by simp (disch := omega) only [zk_bind, zk_chk, zk_bnd, zk_some, zlp_l, zlp_r, zb_some, zb_bnd, zI_add, zI_sub, zI_mul, zI_neg, zI_le, zI_lt, zI_eq, zI_ix, zI_inI, Int.toNat_natCast, Int.toNat_add, Int.toNat_mul, true_and, and_true]; omega), if_neg (by simp (disch := omega) only [zk_bind, zk_chk, zk_bnd, zk_some, zlp_l, zlp_r, zb_some, zb_bnd, zI_add, zI_sub, zI_mul, zI_neg, zI_le, zI_lt, zI_eq, zI_ix, zI_inI, Int.toNat_natCast, Int.toNat_add, Int.toNat_mul, true_and, and_true]; omega), zb_chk, zb_some, c2, c_signOf hf1 hF hg (by omega) (by omega), if_pos ⟨o3, o4⟩, zb_some, zk_bind]
      refine zOk_mono (c_link e3 (hsl _ (by omega)) (hsl _ (by omega))) (fun M2 h2 => ?_)
      rw [zk_bnd, zk_some, zI_add]
      refine hQ _ ⟨zI_inj (by omega), zP_tr e2 h2.2, fun a ha => zMk_cg (h2.1 a ha) (fun b => ?_)⟩
      rw [zctD_s, ← or_assoc]
      exact or_congr Iff.rfl ⟨fun hh => ⟨hkd, hh⟩, fun hh => hh.2⟩
    · rw [if_neg (by simp (disch := omega) only [zk_bind, zk_chk, zk_bnd, zk_some, zlp_l, zlp_r, zb_some, zb_bnd, zI_add, zI_sub, zI_mul, zI_neg, zI_le, zI_lt, zI_eq, zI_ix, zI_inI, Int.toNat_natCast, Int.toNat_add, Int.toNat_mul, true_and, and_true]; omega), zb_some, if_pos (by decide), zk_bnd, zk_some, zI_add]
      refine hQ _ ⟨zI_inj (by omega), e2, fun a ha => zMk_cg (e3 a ha) (fun b => ?_)⟩
      rw [zctD_s, ← or_assoc]
      exact ⟨Or.inl, fun hh => hh.elim id (fun hh => absurd hh.1 hkd)⟩
  · rintro ⟨x1, x2⟩ ⟨e1, e2, e3⟩
    dsimp only at e1 e2 e3
    have hc2 : clueC h x1 := clueC_x (fun a k ha => e2.1 a k (by unfold dclueC at ha; simp at ha ⊢; omega)) hcl
    refine ⟨x1, ?_, ?_⟩
    · unfold f_X5_settle_L17 f_X1_cluesHeld
      dsimp only
      rw [zb_some, hc2.1, e1, if_pos (by simp (disch := omega) only [zk_bind, zk_chk, zk_bnd, zk_some, zlp_l, zlp_r, zb_some, zb_bnd, zI_add, zI_sub, zI_mul, zI_neg, zI_le, zI_lt, zI_eq, zI_ix, zI_inI, Int.toNat_natCast, Int.toNat_add, Int.toNat_mul, true_and, and_true]; omega)]
    · rw [zk_bind]
      refine zOk_mono (c_startLabels (q + 3) 20 (by decide) x1) (fun M1 h1 => ?_)
      obtain ⟨h1a, h1b⟩ := h1
      have p1 : zP (fun a _ => a == q + 2 || a == q + 3) M M1 := zP_tr (zP_mono e2 (fun a k ha => by simp at ha ⊢; omega)) (zP_mono h1b (fun a k ha => by simp at ha ⊢; omega))
      have e3' : ∀ a, a < 20 → zMk (M1.1 (q + 2) a) 20 (zcl l h sg kind a) := fun a ha => by rw [h1b.1 (q + 2) a (by simp)]; exact e3 a ha
      rw [zk_bind]
      refine zOk_forQ (fun i s => s.2 = zI i ∧ zP (fun a _ => a == q + 3) M1 s.1 ∧ ∃ L, (∀ k, k < 20 → s.1.1 (q + 3) k = zI (L k)) ∧ zComp 20 (fun x y => x < i ∧ x < y ∧ zcl l h sg kind x y) L) 20 ?_ ?_ ⟨rfl, zP_rf, fun k => k, h1a, zComp_congr (zComp_none 20) (fun i j _ _ => ⟨False.elim, fun h => absurd h.1 (Nat.not_lt_zero i)⟩) (fun _ _ => rfl)⟩
      · rintro i ⟨s1, s2⟩ hi ⟨g2, g3, L, g4, g5⟩ Q hQ _
        dsimp only at g2 g3 g4
        unfold f_X5_settle_L77
        dsimp only
        rw [g2, if_neg (by simp (disch := omega) only [zk_bind, zk_chk, zk_bnd, zk_some, zlp_l, zlp_r, zb_some, zb_bnd, zI_add, zI_sub, zI_mul, zI_neg, zI_le, zI_lt, zI_eq, zI_ix, zI_inI, Int.toNat_natCast, Int.toNat_add, Int.toNat_mul, true_and, and_true]; omega), zI_add, zk_bnd, zk_bind]
        refine zOk_forQ (fun j s' => s'.2 = zI ((i + 1 + j : Nat) : Int) ∧ zP (fun a _ => a == q + 3) M1 s'.1 ∧ ∃ L, (∀ k, k < 20 → s'.1.1 (q + 3) k = zI (L k)) ∧ zComp 20 (fun x y => (x < i ∧ x < y ∧ zcl l h sg kind x y) ∨ (x = i ∧ i < y ∧ y < i + 1 + j ∧ zcl l h sg kind x y)) L) (20 - (i + 1)) ?_ ?_ ⟨zI_inj (by omega), g3, L, g4, zComp_congr g5 (fun x y _ _ => ⟨Or.inl, fun h => h.elim id (fun h => by omega)⟩) (fun _ _ => rfl)⟩
        · rintro j ⟨u1, u2⟩ hj ⟨d2, d3, L', d4, d5⟩ Q' hQ' _
          dsimp only at d2 d3 d4
          unfold f_X5_settle_L88
          dsimp only
          rw [d2, if_neg (by simp (disch := omega) only [zk_bind, zk_chk, zk_bnd, zk_some, zlp_l, zlp_r, zb_some, zb_bnd, zI_add, zI_sub, zI_mul, zI_neg, zI_le, zI_lt, zI_eq, zI_ix, zI_inI, Int.toNat_natCast, Int.toNat_add, Int.toNat_mul, true_and, and_true]; omega), zI_inI (by omega) (by omega) (by omega), zb_chk, zI_ix (by omega) (by omega), Int.toNat_natCast, d3.1 (q + 2) i (by simp), zMk_bit (by decide) (e3' i hi) (by omega)]
          by_cases hl : zcl l h sg kind i (i + 1 + j)
          · rw [if_pos (by rw [zb_1]; exact hl), zk_bind]
            refine zOk_mono (c_joinLabels d4 (zComp_lt d5) (by omega) (by omega)) (fun r hr => ?_)
            obtain ⟨r1, r2, r3⟩ := hr
            rw [zk_bnd, zk_some, zI_add]
            refine hQ' _ ⟨zI_inj (by omega), zP_tr d3 r2, _, r1, zComp_congr (zComp_join d5 (a := i) (b := i + 1 + j) (by omega) (by omega)) (fun x y _ _ => ⟨?_, ?_⟩) (fun _ _ => rfl)⟩
            · rintro ((hx | hx) | ⟨rfl, rfl⟩)
              · exact Or.inl hx
              · exact Or.inr ⟨hx.1, hx.2.1, by omega, hx.2.2.2⟩
              · exact Or.inr ⟨rfl, by omega, by omega, hl⟩
            · rintro (hx | ⟨rfl, hx1, hx2, hx3⟩)
              · exact Or.inl (Or.inl hx)
              · by_cases hy : y = x + 1 + j
                · exact Or.inr ⟨rfl, hy⟩
                · exact Or.inl (Or.inr ⟨rfl, hx1, by omega, hx3⟩)
          · rw [if_neg (by rw [zb_1]; exact hl), zk_bnd, zk_some, zI_add]
            refine hQ' _ ⟨zI_inj (by omega), d3, L', d4, zComp_congr d5 (fun x y _ _ => ⟨?_, ?_⟩) (fun _ _ => rfl)⟩
            · rintro (hx | hx)
              · exact Or.inl hx
              · exact Or.inr ⟨hx.1, hx.2.1, by omega, hx.2.2.2⟩
            · rintro (hx | ⟨rfl, hx1, hx2, hx3⟩)
              · exact Or.inl hx
              · by_cases hy : y = x + 1 + j
                · rw [hy] at hx3
                  exact absurd hx3 hl
                · exact Or.inr ⟨rfl, hx1, by omega, hx3⟩
        · rintro ⟨u1, u2⟩ ⟨d2, d3, L', d4, d5⟩
          dsimp only at d2 d3 d4
          refine ⟨u1, ?_, ?_⟩
          · unfold f_X5_settle_L88
            dsimp only
            rw [d2, if_pos (by simp (disch := omega) only [zk_bind, zk_chk, zk_bnd, zk_some, zlp_l, zlp_r, zb_some, zb_bnd, zI_add, zI_sub, zI_mul, zI_neg, zI_le, zI_lt, zI_eq, zI_ix, zI_inI, Int.toNat_natCast, Int.toNat_add, Int.toNat_mul, true_and, and_true]; omega)]
          · rw [zk_bnd, zk_some]
            refine hQ _ ⟨zI_inj (by omega), d3, L', d4, zComp_congr d5 (fun x y _ hy => ⟨?_, ?_⟩) (fun _ _ => rfl)⟩
            · rintro (hx | hx)
              · exact ⟨by omega, hx.2.1, hx.2.2⟩
              · exact ⟨by omega, by omega, hx.2.2.2⟩
            · rintro ⟨hx1, hx2, hx4⟩
              by_cases hx : x < i
              · exact Or.inl ⟨hx, hx2, hx4⟩
              · exact Or.inr ⟨by omega, by omega, by omega, hx4⟩
      · rintro ⟨s1, s2⟩ ⟨g2, g3, L, g4, g5⟩
        dsimp only at g2 g3 g4
        refine ⟨s1, ?_, ?_⟩
        · unfold f_X5_settle_L77
          dsimp only
          rw [g2, if_pos (by simp (disch := omega) only [zk_bind, zk_chk, zk_bnd, zk_some, zlp_l, zlp_r, zb_some, zb_bnd, zI_add, zI_sub, zI_mul, zI_neg, zI_le, zI_lt, zI_eq, zI_ix, zI_inI, Int.toNat_natCast, Int.toNat_add, Int.toNat_mul, true_and, and_true]; omega)]
        · rw [zk_some]
          refine ⟨⟨fun a ha => by rw [g3.1 (q + 2) a (by simp)]; exact e3' a ha, L, g4, zComp_symm (fun i j hi hj hl => Or.inl hl.2.2) (fun i j hi hj hl => ?_) g5⟩, zP_tr p1 (zP_mono g3 (fun a k ha => by simp at ha ⊢; omega))⟩
          rcases Nat.lt_trichotomy i j with hij | hij | hij
          · exact Or.inl ⟨hi, hij, hl⟩
          · -- no clue from a sign to itself
            exfalso
            subst hij
            rcases hl with ⟨x, y, z1, z2, z3⟩ | ⟨t, z1, z2, z3, z4⟩
            · have := zdif_ne ho z1.1 z1.2 z2
              omega
            · omega
          · exact Or.inr ⟨hj, hij, zcl_sym hl⟩
  · rw [zm_Fs]
    unfold va_cpy
    rw [if_pos (by omega), show 0 + (a - 0) = a by omega]
    exact zMk_cg (hw a ha) (fun b => ⟨Or.inl, fun hh => hh.elim id (fun ⟨t, ht, _⟩ => absurd ht (Nat.not_lt_zero t))⟩)
