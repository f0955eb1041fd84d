/-! ===== clues told, groups: the reference ===== deps: 97.m.clur -/
def zctD (h : Nat → Int) (sg : Nat → Nat) (n kind a b : Nat) : Prop := ∃ t, t < n ∧ h (426 + 3 * t) = kind ∧ sg (h (424 + 3 * t)).toNat ≠ sg (h (425 + 3 * t)).toNat ∧ ((a = sg (h (424 + 3 * t)).toNat ∧ b = sg (h (425 + 3 * t)).toNat) ∨ (a = sg (h (425 + 3 * t)).toNat ∧ b = sg (h (424 + 3 * t)).toNat))
def zDall (l : List (Nat × Nat)) (x y : Nat) : Prop := x < y ∧ y < l.length
/-- there is a clue -/
def zcl (l : List (Nat × Nat)) (h : Nat → Int) (sg : Nat → Nat) (kind a b : Nat) : Prop := zcwD l (zDall l) kind a b ∨ zctD h sg (h 3).toNat kind a b
theorem zcl_sym {l : List (Nat × Nat)} {h : Nat → Int} {sg : Nat → Nat} {kind a b : Nat} (hc : zcl l h sg kind a b) : zcl l h sg kind b a := by
  rcases hc with ⟨i, j, h1, h2, h3⟩ | ⟨t, h1, h2, h3, h4⟩
  · exact Or.inl ⟨i, j, h1, h2, h3.elim (fun hh => Or.inr ⟨hh.2, hh.1⟩) (fun hh => Or.inl ⟨hh.2, hh.1⟩)⟩
  · exact Or.inr ⟨t, h1, h2, h3, h4.elim (fun hh => Or.inr ⟨hh.2, hh.1⟩) (fun hh => Or.inl ⟨hh.2, hh.1⟩)⟩
theorem zctD_s {h : Nat → Int} {sg : Nat → Nat} {n kind a b : Nat} : zctD h sg (n + 1) kind a b ↔ zctD h sg n kind a b ∨ (h (426 + 3 * n) = kind ∧ sg (h (424 + 3 * n)).toNat ≠ sg (h (425 + 3 * n)).toNat ∧ ((a = sg (h (424 + 3 * n)).toNat ∧ b = sg (h (425 + 3 * n)).toNat) ∨ (a = sg (h (425 + 3 * n)).toNat ∧ b = sg (h (424 + 3 * n)).toNat))) := by
  constructor
  · rintro ⟨t, h1, h2⟩
    by_cases he : t = n
    · subst he; exact Or.inr h2
    · exact Or.inl ⟨t, by omega, h2⟩
  · rintro (⟨t, h1, h2⟩ | h2)
    · exact ⟨t, by omega, h2⟩
    · exact ⟨n, by omega, h2⟩
theorem lexR_x {l : List (Nat × Nat)} {M0 M : ZMem} (h0 : M.1 0 25 = M0.1 0 25) (h1 : ∀ k, M.1 16 k = M0.1 16 k) (h2 : ∀ k, M.1 17 k = M0.1 17 k) (h3 : ∀ k, M.1 18 k = M0.1 18 k) (h : lexR l M0) : lexR l M := ⟨by rw [h0]; exact h.1, fun i hi => wR_x (h1 i) (h3 i) (fun k _ => h2 _) (h.2 i hi)⟩
/-- the clues, before groups -/
theorem r_grid1 {M : ZMem} {l : List (Nat × Nat)} {F : Nat} {h : Nat → Int} {sg : Nat → Nat} (ho : okL l) (hl : lexR l M) (hF : F ≤ 20) (hk : okH F h) (hh : handR h M) (hsg : ∀ f, f < F → M.1 11 f = zI (sg f)) (hsl : ∀ f, f < F → sg f < 20) (K : ZMem → Prop) (hK : ∀ N, cluR (zcl l h sg) N → zP (fun a _ => a == 22) M N → zOk (zbind (f_X12_laysGroups N (zI 0)) (fun M_126 => zbind (f_X12_laysGroups M_126 (zI 1)) (fun M_131 => some M_131))) K) : zOk (f_X12_laysGrid M) K := by
  have hlen := ho.1
  unfold f_X12_laysGrid
  rw [zk_bind]
  refine zOk_for0 (fun i x => x.2 = zI i ∧ zP (fun a _ => a == 22) M x.1 ∧ ∀ j, j < i → x.1.1 22 j = zI 0) 800 ?_ ?_ ⟨rfl, zP_rf, fun j hj => absurd hj (Nat.not_lt_zero j)⟩
  · rintro i ⟨x1, x2⟩ hi ⟨e1, e2, e3⟩
    dsimp only at e1 e2 e3
    unfold f_X12_laysGrid_L2
    dsimp only
    rw [e1, if_neg (by simp (disch := omega) only [zk_bind, zk_chk, zk_bnd, zk_some, zlp_l, zlp_r, zb_some, zb_bnd, zI_add, zI_sub, zI_mul, zI_neg, zI_le, zI_lt, zI_eq, zI_ix, zI_inI, Int.toNat_natCast, Int.toNat_add, Int.toNat_mul, true_and, and_true]; omega), zI_inI (by omega) (by omega) (by omega), zb_chk, zI_ix (by omega) (by omega), Int.toNat_natCast, zbool0, zk_bnd, zk_bnd, zk_some, zlp_l, zI_add]
    refine ⟨zI_inj (by omega), zP_I e2 rfl, fun j hj => ?_⟩
    by_cases he : j = i
    · rw [he, zm_Is]
    · rw [zm_In _ _ _ _ he]
      exact e3 j (by omega)
  rintro ⟨x1, x2⟩ ⟨e1, e2, e3⟩
  dsimp only at e1 e2 e3
  unfold f_X12_laysGrid_L2
  dsimp only
  rw [e1, if_pos (by simp (disch := omega) only [zk_bind, zk_chk, zk_bnd, zk_some, zlp_l, zlp_r, zb_some, zb_bnd, zI_add, zI_sub, zI_mul, zI_neg, zI_le, zI_lt, zI_eq, zI_ix, zI_inI, Int.toNat_natCast, Int.toNat_add, Int.toNat_mul, true_and, and_true]; omega), zk_some, zlp_r, zk_bind]
  have hx : ∀ {M' : ZMem}, zP (fun a _ => a == 22) M M' → lexR l M' := fun hp => lexR_x (hp.1 0 25 rfl) (fun k => hp.1 16 k rfl) (fun k => hp.1 17 k rfl) (fun k => hp.1 18 k rfl) hl
  refine zOk_forQ (fun i x => x.2 = zI i ∧ zP (fun a _ => a == 22) M x.1 ∧ cluR (zcwD l (fun x y => x < y ∧ y < l.length ∧ x < i)) x.1) l.length ?_ ?_ ⟨rfl, e2, fun kind a b h1 h2 h3 => by rw [e3 _ (by omega), zb_f (fun ⟨x, y, z, _⟩ => absurd z.2.2 (Nat.not_lt_zero x))]; rfl⟩
  · rintro i ⟨y1, y2⟩ hi ⟨d1, d2, d3⟩ Q hQ _
    dsimp only at d1 d2 d3
    unfold f_X12_laysGrid_L24
    dsimp only
    rw [(hx d2).1, d1, if_neg (by simp (disch := omega) only [zk_bind, zk_chk, zk_bnd, zk_some, zlp_l, zlp_r, zb_some, zb_bnd, zI_add, zI_sub, zI_mul, zI_neg, zI_le, zI_lt, zI_eq, zI_ix, zI_inI, Int.toNat_natCast, Int.toNat_add, Int.toNat_mul, true_and, and_true]; omega), zI_add, zk_bnd, zk_bind]
    refine zOk_for0 (fun j x => x.2 = zI ((i + 1 + j : Nat) : Int) ∧ zP (fun a _ => a == 22) M x.1 ∧ cluR (zcwD l (fun x y => x < y ∧ y < l.length ∧ (x < i ∨ (x = i ∧ y < i + 1 + j)))) x.1) (l.length - (i + 1)) ?_ ?_ ⟨zI_inj (by omega), d2, cluR_cg d3 (fun kind a b _ _ _ => ⟨fun ⟨x, y, z1, z2⟩ => ⟨x, y, ⟨z1.1, z1.2.1, Or.inl z1.2.2⟩, z2⟩, fun ⟨x, y, z1, z2⟩ => ⟨x, y, ⟨z1.1, z1.2.1, by omega⟩, z2⟩⟩)⟩
    · rintro j ⟨u1, u2⟩ hj ⟨c1, c2, c3⟩
      dsimp only at c1 c2 c3
      unfold f_X12_laysGrid_L36
      dsimp only
      rw [(hx c2).1, c1, if_neg (by simp (disch := omega) only [zk_bind, zk_chk, zk_bnd, zk_some, zlp_l, zlp_r, zb_some, zb_bnd, zI_add, zI_sub, zI_mul, zI_neg, zI_le, zI_lt, zI_eq, zI_ix, zI_inI, Int.toNat_natCast, Int.toNat_add, Int.toNat_mul, true_and, and_true]; omega), zk_bind]
      refine zOk_mono (r_cluesOf ho (hx c2) c3 (i := i) (j := i + 1 + j) (by omega) (by omega)) (fun M2 h2 => ?_)
      rw [zk_bnd, zk_some, zlp_l, zI_add]
      refine ⟨zI_inj (by omega), zP_tr c2 h2.2, cluR_cg h2.1 (fun kind a b _ _ _ => ⟨fun ⟨x, y, z1, z2⟩ => ⟨x, y, ?_, z2⟩, fun ⟨x, y, z1, z2⟩ => ⟨x, y, ?_, z2⟩⟩)⟩
      · omega
      · omega
    · rintro ⟨u1, u2⟩ ⟨c1, c2, c3⟩
      dsimp only at c1 c2 c3
      unfold f_X12_laysGrid_L36
      dsimp only
      rw [(hx c2).1, c1, if_pos (by simp (disch := omega) only [zk_bind, zk_chk, zk_bnd, zk_some, zlp_l, zlp_r, zb_some, zb_bnd, zI_add, zI_sub, zI_mul, zI_neg, zI_le, zI_lt, zI_eq, zI_ix, zI_inI, Int.toNat_natCast, Int.toNat_add, Int.toNat_mul, true_and, and_true]; omega), zk_some, zlp_r, zk_bnd, zk_some]
      refine hQ _ ⟨zI_inj (by omega), c2, cluR_cg c3 (fun kind a b _ _ _ => ⟨fun ⟨x, y, z1, z2⟩ => ⟨x, y, ?_, z2⟩, fun ⟨x, y, z1, z2⟩ => ⟨x, y, ?_, z2⟩⟩)⟩
      · omega
      · omega
  · rintro ⟨y1, y2⟩ ⟨d1, d2, d3⟩
    dsimp only at d1 d2 d3
    refine ⟨y1, ?_, ?_⟩
    · unfold f_X12_laysGrid_L24
      dsimp only
      rw [(hx d2).1, d1, if_pos (by simp (disch := omega) only [zk_bind, zk_chk, zk_bnd, zk_some, zlp_l, zlp_r, zb_some, zb_bnd, zI_add, zI_sub, zI_mul, zI_neg, zI_le, zI_lt, zI_eq, zI_ix, zI_inI, Int.toNat_natCast, Int.toNat_add, Int.toNat_mul, true_and, and_true]; omega)]
    · rw [zk_bind]
      obtain ⟨k1, k2, k3, k4, k5, k6, k7⟩ := hk
      refine zOk_for0 (fun i x => x.2 = zI i ∧ zP (fun a _ => a == 22) M x.1 ∧ cluR (fun kind a b => zcwD l (zDall l) kind a b ∨ zctD h sg i kind a b) x.1) (h 3).toNat ?_ ?_ ⟨rfl, d2, cluR_cg d3 (fun kind a b _ _ _ => ⟨fun ⟨x, y, z1, z2⟩ => Or.inl ⟨x, y, ⟨z1.1, z1.2.1⟩, z2⟩, fun hh => hh.elim (fun ⟨x, y, z1, z2⟩ => ⟨x, y, ⟨z1.1, z1.2, Nat.lt_trans z1.1 z1.2⟩, z2⟩) (fun ⟨t, ht, _⟩ => absurd ht (Nat.not_lt_zero t))⟩)⟩
      · rintro i ⟨u1, u2⟩ hi ⟨c1, c2, c3⟩
        dsimp only at c1 c2 c3
        obtain ⟨⟨o1, o2⟩, ⟨o3, o4⟩, o5, o6⟩ := k7 i (by omega)
        have hx9 : ∀ k, k < 460 → u1.1 9 k = zI (h k) := fun k hk => by rw [c2.1 9 k rfl]; exact hh k hk
        unfold f_X12_laysGrid_L64
        dsimp only
        rw [show u1.1 9 (zix (zI 3)) = zI (h 3) from hx9 3 (by decide), c1, if_neg (by simp (disch := omega) only [zk_bind, zk_chk, zk_bnd, zk_some, zlp_l, zlp_r, zb_some, zb_bnd, zI_add, zI_sub, zI_mul, zI_neg, zI_le, zI_lt, zI_eq, zI_ix, zI_inI, Int.toNat_natCast, Int.toNat_add, Int.toNat_mul, true_and, and_true]; omega), zI_mul, zI_add, zk_bnd, zI_add, zI_inI (by omega) (by omega) (by omega), zb_chk, zI_inI (by omega) (by omega) (by omega), zb_chk, zI_ix (a := 424 + 3 * (i : Int)) (by omega) (by omega), show (424 + 3 * (i : Int)).toNat = 424 + 3 * i by omega, hx9 _ (by omega), zI_inI (by omega) (by omega) (by omega), zb_chk, zI_add, zI_inI (by omega) (by omega) (by omega), zb_chk, zI_ix (a := 424 + 3 * (i : Int) + 1) (by omega) (by omega), show (424 + 3 * (i : Int) + 1).toNat = 425 + 3 * i by omega, hx9 _ (by omega), zI_inI (by omega) (by omega) (by omega), zb_chk, zI_ix (a := 424 + 3 * (i : Int) + 2) (by omega) (by omega), show (424 + 3 * (i : Int) + 2).toNat = 426 + 3 * i by omega, hx9 _ (by omega), zI_ix (by omega) (by omega), zI_ix (by omega) (by omega), c2.1 11 _ rfl, c2.1 11 _ rfl, hsg _ (by omega), hsg _ (by omega), show h (426 + 3 * i) = (((h (426 + 3 * i)).toNat : Nat) : Int) by omega, zk_bind]
        refine zOk_mono (r_tellsClue c3 (by omega) (hsl _ (by omega)) (hsl _ (by omega))) (fun M2 h2 => ?_)
        rw [zk_bnd, zk_some, zlp_l, zI_add]
        refine ⟨zI_inj (by omega), zP_tr c2 h2.2, cluR_cg h2.1 (fun kind a b _ _ _ => ?_)⟩
        rw [zctD_s, ← or_assoc]
        refine or_congr Iff.rfl ⟨fun hh => ⟨by have := hh.1; omega, hh.2⟩, fun hh => ⟨by have := hh.1; omega, hh.2⟩⟩
      · rintro ⟨u1, u2⟩ ⟨c1, c2, c3⟩
        dsimp only at c1 c2 c3
        unfold f_X12_laysGrid_L64
        dsimp only
        rw [show u1.1 9 (zix (zI 3)) = zI (h 3) from (c2.1 9 3 rfl).trans (hh 3 (by decide)), c1, if_pos (by simp (disch := omega) only [zk_bind, zk_chk, zk_bnd, zk_some, zlp_l, zlp_r, zb_some, zb_bnd, zI_add, zI_sub, zI_mul, zI_neg, zI_le, zI_lt, zI_eq, zI_ix, zI_inI, Int.toNat_natCast, Int.toNat_add, Int.toNat_mul, true_and, and_true]; omega), zk_some, zlp_r]
        exact hK u1 c3 c2
/-- together in a line or file -/
def ztog (l : List (Nat × Nat)) (h : Nat → Int) (sg : Nat → Nat) (kind a b : Nat) : Prop := sg a = sg b ∨ zcl l h sg kind (sg a) (sg b)
noncomputable def zgr (F : Nat) (l : List (Nat × Nat)) (h : Nat → Int) (sg : Nat → Nat) (kind : Nat) : Nat → Nat := zLab F (ztog l h sg kind)
theorem r_laysGroups {M : ZMem} {l : List (Nat × Nat)} {F : Nat} {h : Nat → Int} {sg : Nat → Nat} (hF : F ≤ 20) (hF1 : M.1 0 4 = zI F) (hsg : ∀ f, f < F → M.1 11 f = zI (sg f)) (hsi : ∀ f, f < F → sg f ≤ f ∧ sg (sg f) = sg f) (hc : cluR (zcl l h sg) M) {kind : Nat} (hkd : kind < 2) : zOk (f_X12_laysGroups M (zI kind)) (fun M' => (∀ f, f < F → M'.1 23 (20 * kind + f) = zI (zgr F l h sg kind f)) ∧ zComp F (ztog l h sg kind) (zgr F l h sg kind) ∧ zP (fun a k => a == 23 && (20 * kind ≤ k && k < 20 * kind + 20)) M M') := by
  unfold f_X12_laysGroups
  rw [zk_bind]
  refine zOk_for0 (fun i s => s.2 = zI i ∧ zP (fun a k => a == 23 && (20 * kind ≤ k && k < 20 * kind + 20)) M s.1 ∧ ∀ k, k < i → s.1.1 23 (20 * kind + k) = zI (sg k)) F ?_ ?_ ⟨rfl, zP_rf, fun k hk => absurd hk (Nat.not_lt_zero k)⟩
  · rintro i ⟨x1, x2⟩ hi ⟨e1, e2, e3⟩
    dsimp only at e1 e2 e3
    unfold f_X12_laysGroups_L2
    dsimp only
    rw [e1, e2.1 0 4 rfl, hF1, if_neg (by simp (disch := omega) only [zk_bind, zk_chk, zk_bnd, zk_some, zlp_l, zlp_r, zb_some, zb_bnd, zI_add, zI_sub, zI_mul, zI_neg, zI_le, zI_lt, zI_eq, zI_ix, zI_inI, Int.toNat_natCast, Int.toNat_add, Int.toNat_mul, true_and, and_true]; omega), zI_inI (by omega) (by omega) (by omega), zb_chk, zI_mul, zI_add, zI_inI (by omega) (by omega) (by omega), zb_chk, zI_ix (by omega) (by omega), zI_ix (by omega) (by omega), Int.toNat_natCast, show (20 * (kind : Int) + i).toNat = 20 * kind + i by omega, e2.1 11 i rfl, hsg i hi, zk_bnd, zk_bnd, zk_some, zlp_l, zI_add]
    refine ⟨zI_inj (by omega), zP_I e2 (by simp; omega), fun k hk => ?_⟩
    by_cases he : k = i
    · rw [he, zm_Is]
    · rw [zm_In _ _ _ _ (by omega)]
      exact e3 k (by omega)
  rintro ⟨x1, x2⟩ ⟨h1, h2, h3⟩
  dsimp only at h1 h2 h3
  unfold f_X12_laysGroups_L2
  dsimp only
  rw [h1, h2.1 0 4 rfl, hF1, if_pos (by simp (disch := omega) only [zk_bind, zk_chk, zk_bnd, zk_some, zlp_l, zlp_r, zb_some, zb_bnd, zI_add, zI_sub, zI_mul, zI_neg, zI_le, zI_lt, zI_eq, zI_ix, zI_inI, Int.toNat_natCast, Int.toNat_add, Int.toNat_mul, true_and, and_true]; omega), zk_some, zlp_r, zk_bind]
  have hsym : ∀ i j, ztog l h sg kind i j → ztog l h sg kind j i := fun i j hh => hh.elim (fun hh => Or.inl hh.symm) (fun hh => Or.inr (zcl_sym hh))
  refine zOk_loop (fun s => zP (fun a k => a == 23 && (20 * kind ≤ k && k < 20 * kind + 20)) M s.1 ∧ ∃ L on, (∀ k, k < F → s.1.1 23 (20 * kind + k) = zI (L k)) ∧ s.2 = zI ((on : Nat) : Int) ∧ zSp F (ztog l h sg kind) (zsum F L + on) (fun _ _ => on = 0) L on) (fun s => zsum F (fun k => (s.1.1 23 (20 * kind + k)).toInt.toNat) * 2 + s.2.toInt.toNat) ?_ _ _ (Nat.le_refl _) ⟨h2, sg, 1, h3, rfl, fun i hi => (hsi i hi).1, fun g hg i hi => hg (sg i) i (by have := (hsi i hi).1; omega) hi (Or.inl (hsi i hi).2), by omega, by omega, fun _ => by omega, fun h => by omega⟩
  rintro ⟨s1, s2⟩ ⟨g1, L, on, g2, g3, g4⟩
  dsimp only at g1 g2 g3
  have hon := g4.2.2.2.1
  have hL : ∀ i, i < F → L i < 20 := fun i hi => by have := g4.1 i hi; omega
  unfold f_X12_laysGroups_L35
  dsimp only
  rw [g3]
  by_cases ho : on = 0
  · subst ho
    rw [if_pos (by decide)]
    have hcomp : zComp F (ztog l h sg kind) L := zSp_end (zSp_mono g4 (fun _ _ _ _ _ => rfl)) (fun i j _ _ hl => hsym i j hl)
    have hgr : ∀ f, f < F → zgr F l h sg kind f = L f := fun f hf => zLab_of hcomp hf
    rw [zk_some, zlp_r, zk_some]
    exact ⟨fun f hf => by rw [g2 f hf, hgr f hf], zLab_spec hcomp, g1⟩
  · have ho1 : on = 1 := by omega
    subst ho1
    rw [if_neg (by decide), zk_bind]
    have hm0 : zsum F (fun k => (s1.1 23 (20 * kind + k)).toInt.toNat) = zsum F L := zsum_cg (fun k hk => by have := hL k hk; rw [g2 k hk, zI_toInt (by omega) (by omega), Int.toNat_natCast])
    refine zOk_for0 (fun i s => s.2.2 = zI i ∧ zP (fun a k => a == 23 && (20 * kind ≤ k && k < 20 * kind + 20)) M s.1 ∧ ∃ L' on', (∀ k, k < F → s.1.1 23 (20 * kind + k) = zI (L' k)) ∧ s.2.1 = zI ((on' : Nat) : Int) ∧ zSp F (ztog l h sg kind) (zsum F L) (fun x _ => x < i) L' on') F ?_ ?_ ⟨rfl, g1, L, 0, g2, rfl, g4.1, g4.2.1, Nat.le_refl _, by omega, fun h => by omega, fun _ a b _ _ h => by omega⟩
    · rintro i ⟨t1, t2, t3⟩ hi ⟨e1, e2, L', on', e3, e4, e5⟩
      unfold f_X12_laysGroups_L43
      dsimp only at e1 e2 e3 e4 ⊢
      rw [e1, e4, e2.1 0 4 rfl, hF1, if_neg (by simp (disch := omega) only [zk_bind, zk_chk, zk_bnd, zk_some, zlp_l, zlp_r, zb_some, zb_bnd, zI_add, zI_sub, zI_mul, zI_neg, zI_le, zI_lt, zI_eq, zI_ix, zI_inI, Int.toNat_natCast, Int.toNat_add, Int.toNat_mul, true_and, and_true]; omega), zk_bind]
      refine zOk_forQ (fun j s => s.2.2 = zI j ∧ zP (fun a k => a == 23 && (20 * kind ≤ k && k < 20 * kind + 20)) M s.1 ∧ ∃ L' on', (∀ k, k < F → s.1.1 23 (20 * kind + k) = zI (L' k)) ∧ s.2.1 = zI ((on' : Nat) : Int) ∧ zSp F (ztog l h sg kind) (zsum F L) (fun x y => x < i ∨ (x = i ∧ y < j)) L' on') F ?_ ?_ ⟨rfl, e2, L', on', e3, rfl, zSp_mono e5 (fun x y _ _ h => by omega)⟩
      · rintro j ⟨u1, u2, u3⟩ hj ⟨d1, d2, L'', on'', d3, d4, d5⟩ Q hQ _
        have hL'' : ∀ i, i < F → L'' i < 20 := fun i hi => by have := d5.1 i hi; omega
        have li := hL'' i hi
        have lj := hL'' j hj
        have si := (hsi i hi).1
        have sj := (hsi j hj).1
        dsimp only at d1 d2 d3 d4
        have key : ∀ v : Nat, v ≤ 1 → (v = 1 ↔ ztog l h sg kind i j) → zOk (f_X12_laysGroups_109_L54 u1 (zI kind) u2 (zI i) (zI j) (zI v)) Q := by
          intro v hv1 hv
          unfold f_X12_laysGroups_109_L54
          by_cases h0 : v = 0
          · rw [if_pos (by rw [h0]; rfl), zk_bnd, zk_some, zI_add]
            exact hQ _ ⟨zI_inj (by omega), d2, L'', on'', d3, d4, zSp_miss d5 (a := i) (b := j) (fun hh => by have := hv.mpr hh.2; omega) (fun x y _ _ h => by omega)⟩
          · have htog := hv.mp (by omega)
            rw [if_neg (by simp (disch := omega) only [zk_bind, zk_chk, zk_bnd, zk_some, zlp_l, zlp_r, zb_some, zb_bnd, zI_add, zI_sub, zI_mul, zI_neg, zI_le, zI_lt, zI_eq, zI_ix, zI_inI, Int.toNat_natCast, Int.toNat_add, Int.toNat_mul, true_and, and_true]; omega), zI_mul, zI_add, zI_inI (by omega) (by omega) (by omega), zb_chk, zI_add, zI_inI (by omega) (by omega) (by omega), zb_chk, zb_chk, zb_chk, zI_ix (by omega) (by omega), zI_ix (by omega) (by omega), show (20 * (kind : Int) + i).toNat = 20 * kind + i by omega, show (20 * (kind : Int) + j).toNat = 20 * kind + j by omega, d3 i hi, d3 j hj]
            by_cases hle : L'' j ≤ L'' i
            · rw [if_pos (by simp (disch := omega) only [zk_bind, zk_chk, zk_bnd, zk_some, zlp_l, zlp_r, zb_some, zb_bnd, zI_add, zI_sub, zI_mul, zI_neg, zI_le, zI_lt, zI_eq, zI_ix, zI_inI, Int.toNat_natCast, Int.toNat_add, Int.toNat_mul, true_and, and_true]; omega), zk_bnd, zk_some, zI_add]
              exact hQ _ ⟨zI_inj (by omega), d2, L'', on'', d3, d4, zSp_miss d5 (a := i) (b := j) (fun hh => by omega) (fun x y _ _ h => by omega)⟩
            · rw [if_neg (by simp (disch := omega) only [zk_bind, zk_chk, zk_bnd, zk_some, zlp_l, zlp_r, zb_some, zb_bnd, zI_add, zI_sub, zI_mul, zI_neg, zI_le, zI_lt, zI_eq, zI_ix, zI_inI, Int.toNat_natCast, Int.toNat_add, Int.toNat_mul, true_and, and_true]; omega), zk_bnd, zk_bnd, zk_some, zI_add]
              refine hQ _ ⟨zI_inj (by omega), zP_I d2 (by simp; omega), _, 1, fun k hk => ?_, rfl, zSp_hit d5 hi hj (by omega) htog⟩
              rw [zm_I]
              by_cases hkj : k = j
              · rw [if_pos ⟨rfl, by rw [hkj]⟩, if_pos hkj]
              · rw [if_neg (fun h => hkj (by omega)), if_neg hkj]
                exact d3 k hk
        unfold f_X12_laysGroups_L54 f_X12_laysGroups_104_L54 f_X12_clueAt
        dsimp only
        rw [d1, d2.1 0 4 rfl, hF1, if_neg (by simp (disch := omega) only [zk_bind, zk_chk, zk_bnd, zk_some, zlp_l, zlp_r, zb_some, zb_bnd, zI_add, zI_sub, zI_mul, zI_neg, zI_le, zI_lt, zI_eq, zI_ix, zI_inI, Int.toNat_natCast, Int.toNat_add, Int.toNat_mul, true_and, and_true]; omega), zI_inI (by omega) (by omega) (by omega), zb_chk, zI_inI (by omega) (by omega) (by omega), zb_chk, zb_chk, zb_chk, zI_ix (by omega) (by omega), zI_ix (by omega) (by omega), Int.toNat_natCast, Int.toNat_natCast, d2.1 11 i rfl, d2.1 11 j rfl, hsg i hi, hsg j hj]
        by_cases hs : sg i = sg j
        · rw [if_pos (by rw [hs])]
          exact key 1 (by omega) ⟨fun _ => Or.inl hs, fun _ => rfl⟩
        · rw [if_neg (by simp (disch := omega) only [zk_bind, zk_chk, zk_bnd, zk_some, zlp_l, zlp_r, zb_some, zb_bnd, zI_add, zI_sub, zI_mul, zI_neg, zI_le, zI_lt, zI_eq, zI_ix, zI_inI, Int.toNat_natCast, Int.toNat_add, Int.toNat_mul, true_and, and_true]; omega), zb_some, zI_mul, zI_add, zI_mul, zI_add, zI_inI (by omega) (by omega) (by omega), zb_chk, zI_ix (by omega) (by omega), show (20 * (20 * (kind : Int) + (sg i : Nat)) + (sg j : Nat)).toNat = 20 * (20 * kind + sg i) + sg j by omega, d2.1 22 _ rfl, hc kind (sg i) (sg j) hkd (by omega) (by omega)]
          by_cases hz : zcl l h sg kind (sg i) (sg j)
          · rw [if_neg (by rw [zb_0]; exact not_not_intro hz)]
            exact key 1 (by omega) ⟨fun _ => Or.inr hz, fun _ => rfl⟩
          · rw [if_pos (by rw [zb_0]; exact hz)]
            exact key 0 (by omega) ⟨fun h => by omega, fun hh => hh.elim (fun hh => absurd hh hs) (fun hh => absurd hh hz)⟩
      · rintro ⟨u1, u2, u3⟩ ⟨d1, d2, L'', on'', d3, d4, d5⟩
        dsimp only at d1 d2 d3 d4
        refine ⟨(u1, u2), ?_, ?_⟩
        · unfold f_X12_laysGroups_L54
          dsimp only
          rw [d1, d2.1 0 4 rfl, hF1, if_pos (by simp (disch := omega) only [zk_bind, zk_chk, zk_bnd, zk_some, zlp_l, zlp_r, zb_some, zb_bnd, zI_add, zI_sub, zI_mul, zI_neg, zI_le, zI_lt, zI_eq, zI_ix, zI_inI, Int.toNat_natCast, Int.toNat_add, Int.toNat_mul, true_and, and_true]; omega)]
        · rw [zk_bnd, zk_some, zlp_l, zI_add]
          exact ⟨zI_inj (by omega), d2, L'', on'', d3, d4, zSp_mono d5 (fun x y _ _ h => by omega)⟩
    · rintro ⟨t1, t2, t3⟩ ⟨e1, e2, L', on', e3, e4, e5⟩
      have hL' : ∀ i, i < F → L' i < 20 := fun i hi => by have := e5.1 i hi; omega
      unfold f_X12_laysGroups_L43
      dsimp only at e1 e2 e3 e4 ⊢
      rw [e1, e4, e2.1 0 4 rfl, hF1, if_pos (by simp (disch := omega) only [zk_bind, zk_chk, zk_bnd, zk_some, zlp_l, zlp_r, zb_some, zb_bnd, zI_add, zI_sub, zI_mul, zI_neg, zI_le, zI_lt, zI_eq, zI_ix, zI_inI, Int.toNat_natCast, Int.toNat_add, Int.toNat_mul, true_and, and_true]; omega)]
      have hon' := e5.2.2.2.1
      have hm1 : zsum F (fun k => (t1.1 23 (20 * kind + k)).toInt.toNat) = zsum F L' := zsum_cg (fun k hk => by have := hL' k hk; rw [e3 k hk, zI_toInt (by omega) (by omega), Int.toNat_natCast])
      rw [zk_some, zlp_r, zk_some, zlp_l]
      have hz1 := e5.2.2.1
      have hz2 := e5.2.2.2.2.1
      refine ⟨⟨e2, L', on', e3, rfl, e5.1, e5.2.1, by omega, hon', fun h => by omega, fun h a b ha hb _ => e5.2.2.2.2.2 h a b ha hb ha⟩, ?_⟩
      dsimp only
      rw [hm0, hm1, zI_toInt (by omega) (by omega), zI_toInt (by omega) (by omega)]
      omega
