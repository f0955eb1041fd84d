/-! ===== calls that ask of the grid: place, clues, clashes, known, fits ===== deps: 97.zo.ask 97.zm.guess -/
noncomputable abbrev dG (σ : ZT) : Nat → Nat → Nat := dGR (gF σ) (gf σ) (gs σ) (gh σ)
noncomputable abbrev dV (σ : ZT) : Nat → Nat → Int := dKV (gF σ) (gf σ) (gs σ) (gh σ)
abbrev dC (σ : ZT) : Nat → Nat → Nat → Prop := zcl (dL σ) (gh σ) (dS σ)
theorem dS_i (σ : ZT) {f : Nat} (hf : f < gF σ) : dS σ f ≤ f ∧ dS σ (dS σ f) = dS σ f := zsg_f (gF σ) (gf σ) (gh σ) hf
theorem c_lab {σ : ZT} {C : ZMem} (ho : okT σ) {kind q : Nat} (hn : netC (dL σ) (gh σ) (dS σ) kind q C) {f : Nat} (hf : f < gF σ) : C.1 (q + 3) (dS σ f) = zI (dG σ kind f) := by
  obtain ⟨_, L, h1, h2⟩ := hn
  have hF := ho.2.1
  have hi := dS_i σ hf
  rw [h1 (dS σ f) (by omega), zgr_L (dL_ok ho) hF (okT_hk ho) (dLX_sg hF ho.2.2.1) (fun f hf => zsg_f _ _ _ hf) h2 hf]
  rfl
theorem dC_sg {σ : ZT} (ho : okT σ) {kind a b : Nat} (h : dC σ kind a b) : (a < gF σ ∧ dS σ a = a) ∧ (b < gF σ ∧ dS σ b = b) := by
  have hF := ho.2.1
  obtain ⟨⟨f, f1, f2⟩, g, g1, g2⟩ := zcl_sg (dL_ok ho) (okT_hk ho) (dLX_sg hF ho.2.2.1) h
  have e1 := zsg_f (gF σ) (gf σ) (gh σ) f1
  have e2 := zsg_f (gF σ) (gf σ) (gh σ) g1
  rw [f2] at e1
  rw [g2] at e2
  exact ⟨⟨by omega, e1.2⟩, by omega, e2.2⟩
theorem dC_ne {σ : ZT} (ho : okT σ) {kind a : Nat} : ¬ dC σ kind a a := by
  intro hl
  rcases hl with ⟨x, y, z1, z2, z3⟩ | ⟨t, z1, z2, z3, z4⟩
  · have := zdif_ne (dL_ok ho) z1.1 z1.2 z2
    omega
  · omega
theorem zp_place : zPr_place zRel := by
  rintro M1 M2 a1 a2 ⟨σ, ho, hc, hr⟩ h3
  obtain ⟨a, rfl, l1, u1⟩ := zI_of a1
  obtain ⟨n, hn, rfl⟩ := zisB_c h3
  have hF := ho.2.1
  unfold f_X11_place f_X12_place
  rw [zk_bind]
  refine zOk_mono (k_fg ho hc) (fun C h => ?_)
  obtain ⟨hC, h13, h14⟩ := h
  have hs := hC.2.2.2.2.2.2.1 h13
  have hg := hC.2.2.2.2.2.2.2.1 h13 h14
  rw [c_signOf hC.2.1.1.2.1 hF hs.1.1 l1 u1, zb_some, r_isForm hr.2.1.2.1 hF _ l1 u1, zb_some]
  have tr : ∀ M, f_X12_truth M (zI n) = some (zI n) := by
    intro M
    rw [r_truth]
    rcases (show n = 0 ∨ n = 1 by omega) with rfl | rfl <;> rfl
  by_cases h1 : 0 ≤ a ∧ a < gF σ
  · obtain ⟨f, rfl⟩ := Int.eq_ofNat_of_zero_le h1.1
    have hf : f < gF σ := by omega
    have sf := zsgl ho hf
    have cls : (if zI n = zI 0 then zbind (f_X5_labelOf 41 C (zI (if 0 ≤ (f : Int) ∧ (f : Int) < (gF σ : Int) then (dS σ (f : Int).toNat : Int) else -1))) (fun r_17 => some (C, r_17)) else zbind (f_X5_labelOf 45 C (zI (if 0 ≤ (f : Int) ∧ (f : Int) < (gF σ : Int) then (dS σ (f : Int).toNat : Int) else -1))) (fun r_17 => some (C, r_17))) = some (C, zI (dG σ n f)) := by
      rw [if_pos (c := 0 ≤ (f : Int) ∧ (f : Int) < (gF σ : Int)) h1, Int.toNat_natCast, c_labelOf sf, c_labelOf sf, zb_some, zb_some]
      rcases (show n = 0 ∨ n = 1 by omega) with rfl | rfl
      · rw [if_pos (c := zI ((0 : Nat) : Int) = zI 0) rfl, c_lab ho hg.1 hf]
      · rw [if_neg (by decide), c_lab ho hg.2.1 hf]
    rw [zb_some, cls, zk_some, if_neg (fun hh => zb_0.mp hh h1), zk_bind]
    refine zOk_mono (k_ls ho hr) (fun R' h' => ?_)
    rw [tr, zb_some, zI_mul, zI_add, zI_inI (by omega) (by omega) (by omega), zb_chk, zk_some, zI_ix (by omega) (by omega), show (20 * (n : Int) + (f : Int)).toNat = 20 * n + f by omega, h'.2.2.2.2.2.2.1 n f (by omega) hf]
    exact ⟨rfl, σ, ho, hC, h'.1⟩
  · have e0 : ∀ q, f_X5_labelOf q C (zI (-1)) = some (zI (-1)) := by
      intro q
      unfold f_X5_labelOf f_X5_isPlace
      rw [if_pos (by decide), zb_some, if_pos rfl]
    rw [if_neg h1, e0, zb_some, zb_some, e0, zb_some, ite_self, zk_some, if_pos (zb_0.mpr h1), zk_some]
    exact ⟨rfl, σ, ho, hC, hr⟩
-- sums over twos
noncomputable def ztriN (F : Nat) (P : Nat → Nat → Prop) : Nat := zsum F (fun a => zsum F (fun b => zb (a < b ∧ P a b)))
theorem ztri {F : Nat} {P : Nat → Nat → Prop} {outer : Int32 × Int32 → Option ((Int32 × Int32) ⊕ Int32)} {inner : Nat → Int32 × Int32 → Option ((Int32 × Int32) ⊕ Int32)} (h1 : ∀ a v, a < F → outer (v, zI a) = zbind (zloop (inner a) (v, zI ((a + 1 : Nat) : Int))) (fun e => some (.inl (e, zI ((a + 1 : Nat) : Int))))) (h2 : ∀ v, outer (v, zI F) = some (.inr v)) (h3 : ∀ a b v, a < b → b < F → inner a (v, zI b) = some (.inl (v + zI (zb (P a b)), zI ((b + 1 : Nat) : Int)))) (h4 : ∀ a v, a < F → inner a (v, zI F) = some (.inr v)) : zOk (zloop outer (zI 0, zI 0)) (fun e => e = zI (ztriN F P)) := by
  refine zOk_forQ (fun i s => s.1 = zI (zsum i (fun a => zsum F (fun b => zb (a < b ∧ P a b))) : Int) ∧ s.2 = zI i) F ?_ ?_ ⟨rfl, rfl⟩
  · rintro i ⟨s1, s2⟩ hi ⟨e1, e2⟩ Q hQ _
    dsimp only at e1 e2
    rw [e1, e2, h1 _ _ hi, zk_bind]
    refine zOk_forQ (fun j s => s.1 = zI ((zsum i (fun a => zsum F (fun b => zb (a < b ∧ P a b))) + zsum (i + 1 + j) (fun b => zb (i < b ∧ P i b)) : Nat) : Int) ∧ s.2 = zI ((i + 1 + j : Nat) : Int)) (F - (i + 1)) ?_ ?_ ⟨?_, rfl⟩
    · rintro j ⟨t1, t2⟩ hj ⟨d1, d2⟩ Q' hQ' _
      dsimp only at d1 d2
      rw [d1, d2, h3 _ _ _ (by omega) (by omega), zk_some]
      refine hQ' _ ⟨?_, rfl⟩
      dsimp only
      rw [← Nat.add_assoc, zsum_s, zI_add, zb_iff (q := i < i + 1 + j ∧ P i (i + 1 + j)) ⟨fun hh => ⟨by omega, hh⟩, fun hh => hh.2⟩]
      exact zI_inj (by omega)
    · rintro ⟨t1, t2⟩ ⟨d1, d2⟩
      dsimp only at d1 d2
      rw [show i + 1 + (F - (i + 1)) = F by omega] at d1 d2
      refine ⟨t1, ?_, ?_⟩
      · rw [d2]
        exact h4 _ _ hi
      · rw [zk_some]
        refine hQ _ ⟨?_, rfl⟩
        rw [d1]
        rfl
    · dsimp only
      rw [Nat.add_zero, zsum_zero (n := i + 1) (fun b hb => zb_f (by omega))]
      rfl
  · rintro ⟨s1, s2⟩ ⟨e1, e2⟩
    dsimp only at e1 e2
    refine ⟨s1, ?_, e1⟩
    rw [e2]
    exact h2 s1
theorem ztri_full {n : Nat} {P : Nat → Nat → Prop} (hs : ∀ a b, P a b → P b a) (hi : ∀ a, ¬ P a a) : zsum n (fun a => zsum n (fun b => zb (P a b))) = 2 * ztriN n P := by
  have e1 : zsum n (fun a => zsum n (fun b => zb (P a b))) = zsum n (fun a => zsum n (fun b => zb (a < b ∧ P a b)) + zsum n (fun b => zb (b < a ∧ P a b))) := by
    refine zsum_cg (fun a ha => ?_)
    rw [← zsum_add]
    refine zsum_cg (fun b hb => ?_)
    by_cases hp : P a b
    · have hab : a ≠ b := fun hh => hi a (by rw [← hh] at hp; exact hp)
      rcases Nat.lt_or_gt_of_ne hab with hc | hc
      · rw [zb_t hp, zb_t ⟨hc, hp⟩, zb_f (by omega)]
      · rw [zb_t hp, zb_f (by omega), zb_t ⟨hc, hp⟩]
    · rw [zb_f hp, zb_f (fun hh => hp hh.2), zb_f (fun hh => hp hh.2)]
  have e2 : zsum n (fun a => zsum n (fun b => zb (b < a ∧ P a b))) = ztriN n P := by
    rw [zsum_swap]
    exact zsum_cg (fun b hb => zsum_cg (fun a ha => zb_iff ⟨fun hh => ⟨hh.1, hs _ _ hh.2⟩, fun hh => ⟨hh.1, hs _ _ hh.2⟩⟩))
  rw [e1, zsum_add, e2]
  unfold ztriN
  omega
theorem ztriN_ext {F n : Nat} {P : Nat → Nat → Prop} (hF : F ≤ n) (h : ∀ a b, P a b → a < F ∧ b < F) : ztriN n P = ztriN F P := by
  unfold ztriN
  rw [zsum_ext hF (fun a h1 h2 => zsum_zero (fun b hb => zb_f (fun hh => by have := h a b hh.2; omega)))]
  exact zsum_cg (fun a ha => zsum_ext hF (fun b h1 h2 => zb_f (fun hh => by have := h a b hh.2; omega)))
theorem ztriN_le {n : Nat} {P : Nat → Nat → Prop} : ztriN n P ≤ n * n := zsum_le (fun i _ => zsum_le1 (fun _ _ => zb_le _))
theorem c_twos {σ : ZT} {C : ZMem} (ho : okT σ) {kind q : Nat} (hn : netC (dL σ) (gh σ) (dS σ) kind q C) : f_X5_twos q C = some (zI (ztriN (gF σ) (dC σ kind))) := by
  have hF := ho.2.1
  have e1 : zsum 20 (fun a => zsum 20 (fun b => zb (dC σ kind a b))) = 2 * ztriN (gF σ) (dC σ kind) := by
    rw [ztri_full (P := dC σ kind) (fun a b hh => zcl_sym hh) (fun a => dC_ne ho), ztriN_ext hF (fun a b hh => ⟨(dC_sg ho hh).1.1, (dC_sg ho hh).2.1⟩)]
  have hle := ztriN_le (n := gF σ) (P := dC σ kind)
  have hle2 : gF σ * gF σ ≤ 400 := Nat.mul_le_mul hF hF
  unfold f_X5_twos
  refine zOk_is ?_
  rw [zk_bind]
  refine zOk_forQ (fun i s => s.1 = zI (zsum i (fun a => zsum 20 (fun b => zb (dC σ kind a b))) : Int) ∧ s.2 = zI i) 20 ?_ ?_ ⟨rfl, rfl⟩
  · rintro i ⟨s1, s2⟩ hi ⟨d1, d2⟩ Q hQ _
    dsimp only at d1 d2
    unfold f_X5_twos_L4
    dsimp only
    rw [d1, d2, if_neg (by simp (disch := omega) only [zk_bind, zk_chk, zk_bnd, zk_some, zlp_l, zlp_r, zb_some, zb_bnd, zI_add, zI_sub, zI_mul, zI_neg, zI_le, zI_lt, zI_eq, zI_ix, zI_inI, Int.toNat_natCast, Int.toNat_add, Int.toNat_mul, true_and, and_true]; omega), zI_inI (by omega) (by omega) (by omega), zb_chk, zI_ix (by omega) (by omega), Int.toNat_natCast, zMk_pop (by omega) (hn.1 i hi), zb_some, zk_bnd, zk_bnd, zk_some, zI_add, zI_add]
    exact hQ _ ⟨rfl, zI_inj (by omega)⟩
  · rintro ⟨s1, s2⟩ ⟨d1, d2⟩
    dsimp only at d1 d2
    refine ⟨s1, ?_, ?_⟩
    · unfold f_X5_twos_L4
      dsimp only
      rw [d2, if_pos (by simp (disch := omega) only [zk_bind, zk_chk, zk_bnd, zk_some, zlp_l, zlp_r, zb_some, zb_bnd, zI_add, zI_sub, zI_mul, zI_neg, zI_le, zI_lt, zI_eq, zI_ix, zI_inI, Int.toNat_natCast, Int.toNat_add, Int.toNat_mul, true_and, and_true]; omega)]
    · rw [zk_some, d1, e1, zI_div (by omega) (by omega) (by omega) (by omega)]
      exact zI_inj (by omega)
theorem zp_clues : zPr_clues zRel := by
  rintro M1 M2 a1 ⟨σ, ho, hc, hr⟩ h3
  obtain ⟨n, hn, rfl⟩ := zisB_c h3
  have hF := ho.2.1
  unfold f_X11_clues f_X12_clues
  rw [zk_bind]
  refine zOk_mono (k_fg ho hc) (fun C h => ?_)
  obtain ⟨hC, h13, h14⟩ := h
  have hg := hC.2.2.2.2.2.2.2.1 h13 h14
  have cls : (if zI n = zI 0 then zbind (f_X5_twos 41 C) (fun r_9 => some (C, r_9)) else zbind (f_X5_twos 45 C) (fun r_9 => some (C, r_9))) = some (C, zI (ztriN (gF σ) (dC σ n))) := by
    rw [c_twos ho hg.1, c_twos ho hg.2.1, zb_some, zb_some]
    rcases (show n = 0 ∨ n = 1 by omega) with rfl | rfl
    · rw [if_pos (c := zI ((0 : Nat) : Int) = zI 0) rfl]
    · rw [if_neg (by decide)]
  rw [cls, zk_some, zk_bind]
  refine zOk_mono (k_ls ho hr) (fun R h' => ?_)
  have hF1 := h'.1.2.1.2.1
  have hcl := h'.2.2.2.2.2.1
  have tr : ∀ M, f_X12_truth M (zI n) = some (zI n) := by
    intro M
    rw [r_truth]
    rcases (show n = 0 ∨ n = 1 by omega) with rfl | rfl <;> rfl
  rw [zk_bind]
  refine zOk_mono (ztri (F := gF σ) (P := dC σ n) (outer := f_X12_clues_L8 R (zI n)) (inner := fun a => f_X12_clues_L21 R (zI n) (zI a)) ?_ ?_ ?_ ?_) (fun e he => ?_)
  · intro a v ha
    unfold f_X12_clues_L8
    dsimp only
    rw [hF1, if_neg (by simp (disch := omega) only [zk_bind, zk_chk, zk_bnd, zk_some, zlp_l, zlp_r, zb_some, zb_bnd, zI_add, zI_sub, zI_mul, zI_neg, zI_le, zI_lt, zI_eq, zI_ix, zI_inI, Int.toNat_natCast, Int.toNat_add, Int.toNat_mul, true_and, and_true]; omega), zI_add]
    rfl
  · intro v
    unfold f_X12_clues_L8
    dsimp only
    rw [hF1, if_pos (by simp (disch := omega) only [zk_bind, zk_chk, zk_bnd, zk_some, zlp_l, zlp_r, zb_some, zb_bnd, zI_add, zI_sub, zI_mul, zI_neg, zI_le, zI_lt, zI_eq, zI_ix, zI_inI, Int.toNat_natCast, Int.toNat_add, Int.toNat_mul, true_and, and_true]; omega)]
  · intro a b v ha hb
    unfold f_X12_clues_L21 f_X12_clueAt
    dsimp only
    rw [hF1, if_neg (by simp (disch := omega) only [zk_bind, zk_chk, zk_bnd, zk_some, zlp_l, zlp_r, zb_some, zb_bnd, zI_add, zI_sub, zI_mul, zI_neg, zI_le, zI_lt, zI_eq, zI_ix, zI_inI, Int.toNat_natCast, Int.toNat_add, Int.toNat_mul, true_and, and_true]; omega), tr, zb_some, zI_mul, zI_add, zI_mul, zI_add, zb_some, zI_inI (by omega) (by omega) (by omega), zb_chk, zI_ix (by omega) (by omega), show (20 * (20 * (n : Int) + (a : Int)) + (b : Int)).toNat = 20 * (20 * n + a) + b by omega, hcl n a b (by omega) (by omega) (by omega), r_truth, zb_some, zb_bnd, zb_bnd, zI_add]
    have : (if zI ((zb (zcl (dLX (gF σ) (gf σ) (gs σ) (gh σ)) (gh σ) (zsg (gF σ) (gf σ) (gh σ)) n a b) : Nat) : Int) = zI 0 then zI 0 else zI 1) = zI ((zb (dC σ n a b) : Nat) : Int) := by
      by_cases hz : dC σ n a b
      · rw [zb_t hz, if_neg (by decide)]
        rfl
      · rw [zb_f hz, if_pos (by decide)]
        rfl
    rw [this]
    rfl
  · intro a v ha
    unfold f_X12_clues_L21
    dsimp only
    rw [hF1, if_pos (by simp (disch := omega) only [zk_bind, zk_chk, zk_bnd, zk_some, zlp_l, zlp_r, zb_some, zb_bnd, zI_add, zI_sub, zI_mul, zI_neg, zI_le, zI_lt, zI_eq, zI_ix, zI_inI, Int.toNat_natCast, Int.toNat_add, Int.toNat_mul, true_and, and_true]; omega)]
  · rw [zk_some, he]
    exact ⟨rfl, σ, ho, hC, h'.1⟩
-- clashes
def zcla (σ : ZT) (a b : Nat) : Prop := dS σ a = a ∧ dS σ b = b ∧ dG σ 0 a = dG σ 0 b ∧ dG σ 1 a = dG σ 1 b
theorem c_togetherG {σ : ZT} {C : ZMem} (ho : okT σ) {kind q : Nat} (hn : netC (dL σ) (gh σ) (dS σ) kind q C) {a b : Nat} (ha : a < gF σ) (hb : b < gF σ) (hsa : dS σ a = a) (hsb : dS σ b = b) : f_X5_together q C (zI a) (zI b) = some (zI (zb (dG σ kind a = dG σ kind b))) := by
  have hF := ho.2.1
  have e1 := c_lab ho hn ha
  have e2 := c_lab ho hn hb
  rw [hsa] at e1
  rw [hsb] at e2
  have g1 : dG σ kind a < 20 := dGR_lt (fr := gf σ) (s := gs σ) (h := gh σ) hF kind a ha
  have g2 : dG σ kind b < 20 := dGR_lt (fr := gf σ) (s := gs σ) (h := gh σ) hF kind b hb
  unfold f_X5_together
  rw [c_isPlace5 (show a < 20 by omega), c_isPlace5 (show b < 20 by omega), zb_some, zb_some, if_neg (by decide), if_neg (by decide), zI_inI (by omega) (by omega) (by omega), zb_chk, zI_inI (by omega) (by omega) (by omega), zb_chk, zI_ix (by omega) (by omega), zI_ix (by omega) (by omega), Int.toNat_natCast, Int.toNat_natCast, e1, e2]
  by_cases hz : dG σ kind a = dG σ kind b
  · rw [if_pos (by rw [hz]), zb_t hz]
    rfl
  · rw [if_neg (by simp (disch := omega) only [zk_bind, zk_chk, zk_bnd, zk_some, zlp_l, zlp_r, zb_some, zb_bnd, zI_add, zI_sub, zI_mul, zI_neg, zI_le, zI_lt, zI_eq, zI_ix, zI_inI, Int.toNat_natCast, Int.toNat_add, Int.toNat_mul, true_and, and_true]; omega), zb_f hz]
    rfl
theorem c_clashing {σ : ZT} {C : ZMem} (ho : okT σ) (hC : relC σ C) (h13 : C.1 0 13 = zI 0) (h14 : C.1 0 14 = zI 0) {a b : Nat} (ha : a < gF σ) (hb : b < gF σ) : f_X11_clashing C (zI a) (zI b) = some (zI (zb (zcla σ a b))) := by
  have hF := ho.2.1
  have hs := hC.2.2.2.2.2.2.1 h13
  have hg := hC.2.2.2.2.2.2.2.1 h13 h14
  have sl : ∀ f, f < gF σ → dS σ f < 20 := fun f hf => zsgl ho hf
  unfold f_X11_clashing
  rw [c_isSign hF hC.2.1.1.2.1 hs.1.1 sl (show a < 2147483648 by omega), c_isSign hF hC.2.1.1.2.1 hs.1.1 sl (show b < 2147483648 by omega), zb_some, zb_some]
  by_cases h1 : a < gF σ ∧ dS σ a = a
  · rw [if_neg (fun hh => zb_0.mp hh h1)]
    by_cases h2 : b < gF σ ∧ dS σ b = b
    · rw [if_neg (fun hh => zb_0.mp hh h2), c_togetherG ho hg.1 ha hb h1.2 h2.2, c_togetherG ho hg.2.1 ha hb h1.2 h2.2, zb_some, zb_some]
      by_cases h3 : dG σ 0 a = dG σ 0 b
      · rw [if_neg (fun hh => zb_0.mp hh h3)]
        by_cases h4 : dG σ 1 a = dG σ 1 b
        · rw [if_neg (fun hh => zb_0.mp hh h4), zb_t ⟨h1.2, h2.2, h3, h4⟩]
          rfl
        · rw [if_pos (zb_0.mpr h4), zb_f (fun hh => h4 hh.2.2.2)]
          rfl
      · rw [if_pos (zb_0.mpr h3), zb_f (fun hh => h3 hh.2.2.1)]
        rfl
    · rw [if_pos (zb_0.mpr h2), zb_f (fun hh => h2 ⟨hb, hh.2.1⟩)]
      rfl
  · rw [if_pos (zb_0.mpr h1), zb_f (fun hh => h1 ⟨ha, hh.1⟩)]
    rfl
theorem r_doClash {σ : ZT} {R : ZMem} (ho : okT σ) (hR : relR σ R) (hl : laidR (gF σ) (gf σ) (gs σ) (gh σ) R) {a b : Nat} (ha : a < gF σ) (hb : b < gF σ) : f_X12_doClash R (zI a) (zI b) = some (zI (zb (zcla σ a b))) := by
  have hF := ho.2.1
  have sl : ∀ f, f < gF σ → dS σ f < 20 := fun f hf => zsgl ho hf
  have g0 : dG σ 0 a < 20 := dGR_lt (fr := gf σ) (s := gs σ) (h := gh σ) hF 0 a ha
  have g1 : dG σ 0 b < 20 := dGR_lt (fr := gf σ) (s := gs σ) (h := gh σ) hF 0 b hb
  have g2 : dG σ 1 a < 20 := dGR_lt (fr := gf σ) (s := gs σ) (h := gh σ) hF 1 a ha
  have g3 : dG σ 1 b < 20 := dGR_lt (fr := gf σ) (s := gs σ) (h := gh σ) hF 1 b hb
  have e0 : R.1 23 (20 * 0 + a) = zI (dG σ 0 a) := hl.2.2.2.2.1 0 a (by omega) ha
  have e1 : R.1 23 (20 * 0 + b) = zI (dG σ 0 b) := hl.2.2.2.2.1 0 b (by omega) hb
  have e2 : R.1 23 (20 * 1 + a) = zI (dG σ 1 a) := hl.2.2.2.2.1 1 a (by omega) ha
  have e3 : R.1 23 (20 * 1 + b) = zI (dG σ 1 b) := hl.2.2.2.2.1 1 b (by omega) hb
  rw [show 20 * 0 + a = a by omega] at e0
  rw [show 20 * 0 + b = b by omega] at e1
  rw [show 20 * 1 + a = 20 + a by omega] at e2
  rw [show 20 * 1 + b = 20 + b by omega] at e3
  unfold f_X12_doClash
  rw [r_isSign hF hl.1.1 sl ha, r_isSign hF hl.1.1 sl hb, zb_some, zb_some]
  by_cases h1 : dS σ a = a
  · rw [if_neg (fun hh => zb_0.mp hh h1)]
    by_cases h2 : dS σ b = b
    · rw [if_neg (fun hh => zb_0.mp hh h2), zI_inI (by omega) (by omega) (by omega), zb_chk, zI_inI (by omega) (by omega) (by omega), zb_chk, zI_add, zI_add, zI_inI (by omega) (by omega) (by omega), zb_chk, zI_inI (by omega) (by omega) (by omega), zb_chk, zI_ix (by omega) (by omega), zI_ix (by omega) (by omega), zI_ix (by omega) (by omega), zI_ix (by omega) (by omega), Int.toNat_natCast, Int.toNat_natCast, show (20 + (a : Int)).toNat = 20 + a by omega, show (20 + (b : Int)).toNat = 20 + b by omega, e0, e1, e2, e3]
      by_cases h3 : dG σ 0 a = dG σ 0 b
      · rw [if_pos (by rw [h3])]
        by_cases h4 : dG σ 1 a = dG σ 1 b
        · rw [if_pos (by rw [h4]), zb_t ⟨h1, h2, h3, h4⟩]
          rfl
        · rw [if_neg (by simp (disch := omega) only [zk_bind, zk_chk, zk_bnd, zk_some, zlp_l, zlp_r, zb_some, zb_bnd, zI_add, zI_sub, zI_mul, zI_neg, zI_le, zI_lt, zI_eq, zI_ix, zI_inI, Int.toNat_natCast, Int.toNat_add, Int.toNat_mul, true_and, and_true]; omega), zb_f (fun hh => h4 hh.2.2.2)]
          rfl
      · rw [if_neg (by simp (disch := omega) only [zk_bind, zk_chk, zk_bnd, zk_some, zlp_l, zlp_r, zb_some, zb_bnd, zI_add, zI_sub, zI_mul, zI_neg, zI_le, zI_lt, zI_eq, zI_ix, zI_inI, Int.toNat_natCast, Int.toNat_add, Int.toNat_mul, true_and, and_true]; omega), zb_f (fun hh => h3 hh.2.2.1)]
        rfl
    · rw [if_pos (zb_0.mpr h2), zb_f (fun hh => h2 hh.2.1)]
      rfl
  · rw [if_pos (zb_0.mpr h1), zb_f (fun hh => h1 hh.1)]
    rfl
theorem zp_clashes : zPr_clashes zRel := by
  rintro M1 M2 ⟨σ, ho, hc, hr⟩
  have hF := ho.2.1
  unfold f_X11_clashes f_X12_clashes
  rw [zk_bind]
  refine zOk_mono (k_fg ho hc) (fun C h => ?_)
  obtain ⟨hC, h13, h14⟩ := h
  have hF0 := hC.2.1.1.2.1
  rw [zk_bind]
  refine zOk_mono (ztri (F := gF σ) (P := zcla σ) (outer := f_X11_clashes_L8 C) (inner := fun a => f_X11_clashes_L23 C (zI a)) ?_ ?_ ?_ ?_) (fun e he => ?_)
  · intro a v ha
    unfold f_X11_clashes_L8 f_X0_told
    dsimp only
    rw [zb_some, hF0, if_neg (by simp (disch := omega) only [zk_bind, zk_chk, zk_bnd, zk_some, zlp_l, zlp_r, zb_some, zb_bnd, zI_add, zI_sub, zI_mul, zI_neg, zI_le, zI_lt, zI_eq, zI_ix, zI_inI, Int.toNat_natCast, Int.toNat_add, Int.toNat_mul, true_and, and_true]; omega), zI_add]
    rfl
  · intro v
    unfold f_X11_clashes_L8 f_X0_told
    dsimp only
    rw [zb_some, hF0, if_pos (by simp (disch := omega) only [zk_bind, zk_chk, zk_bnd, zk_some, zlp_l, zlp_r, zb_some, zb_bnd, zI_add, zI_sub, zI_mul, zI_neg, zI_le, zI_lt, zI_eq, zI_ix, zI_inI, Int.toNat_natCast, Int.toNat_add, Int.toNat_mul, true_and, and_true]; omega)]
  · intro a b v ha hb
    unfold f_X11_clashes_L23 f_X0_told
    dsimp only
    rw [zb_some, hF0, if_neg (by simp (disch := omega) only [zk_bind, zk_chk, zk_bnd, zk_some, zlp_l, zlp_r, zb_some, zb_bnd, zI_add, zI_sub, zI_mul, zI_neg, zI_le, zI_lt, zI_eq, zI_ix, zI_inI, Int.toNat_natCast, Int.toNat_add, Int.toNat_mul, true_and, and_true]; omega), c_clashing ho hC h13 h14 (by omega) hb, zb_some, zI_add]
    by_cases hz : zcla σ a b
    · rw [if_neg (fun hh => zb_0.mp hh hz), zb_t hz]
      rfl
    · rw [if_pos (zb_0.mpr hz), zb_f hz]
      rfl
  · intro a v ha
    unfold f_X11_clashes_L23 f_X0_told
    dsimp only
    rw [zb_some, hF0, if_pos (by simp (disch := omega) only [zk_bind, zk_chk, zk_bnd, zk_some, zlp_l, zlp_r, zb_some, zb_bnd, zI_add, zI_sub, zI_mul, zI_neg, zI_le, zI_lt, zI_eq, zI_ix, zI_inI, Int.toNat_natCast, Int.toNat_add, Int.toNat_mul, true_and, and_true]; omega)]
  rw [zk_some, he, zk_bind]
  refine zOk_mono (k_ls ho hr) (fun R h' => ?_)
  have hF1 := h'.1.2.1.2.1
  rw [zk_bind]
  refine zOk_mono (ztri (F := gF σ) (P := zcla σ) (outer := f_X12_clashes_L8 R) (inner := fun a => f_X12_clashes_L20 R (zI a)) ?_ ?_ ?_ ?_) (fun e he => ?_)
  · intro a v ha
    unfold f_X12_clashes_L8
    dsimp only
    rw [hF1, if_neg (by simp (disch := omega) only [zk_bind, zk_chk, zk_bnd, zk_some, zlp_l, zlp_r, zb_some, zb_bnd, zI_add, zI_sub, zI_mul, zI_neg, zI_le, zI_lt, zI_eq, zI_ix, zI_inI, Int.toNat_natCast, Int.toNat_add, Int.toNat_mul, true_and, and_true]; omega), zI_add]
    rfl
  · intro v
    unfold f_X12_clashes_L8
    dsimp only
    rw [hF1, if_pos (by simp (disch := omega) only [zk_bind, zk_chk, zk_bnd, zk_some, zlp_l, zlp_r, zb_some, zb_bnd, zI_add, zI_sub, zI_mul, zI_neg, zI_le, zI_lt, zI_eq, zI_ix, zI_inI, Int.toNat_natCast, Int.toNat_add, Int.toNat_mul, true_and, and_true]; omega)]
  · intro a b v ha hb
    unfold f_X12_clashes_L20
    dsimp only
    rw [hF1, if_neg (by simp (disch := omega) only [zk_bind, zk_chk, zk_bnd, zk_some, zlp_l, zlp_r, zb_some, zb_bnd, zI_add, zI_sub, zI_mul, zI_neg, zI_le, zI_lt, zI_eq, zI_ix, zI_inI, Int.toNat_natCast, Int.toNat_add, Int.toNat_mul, true_and, and_true]; omega), r_doClash ho h'.1 h'.2.2 (by omega) hb, zb_some, r_truth, zb_some, zb_bnd, zb_bnd, zI_add]
    by_cases hz : zcla σ a b
    · rw [zb_t hz]
      rfl
    · rw [zb_f hz]
      rfl
  · intro a v ha
    unfold f_X12_clashes_L20
    dsimp only
    rw [hF1, if_pos (by simp (disch := omega) only [zk_bind, zk_chk, zk_bnd, zk_some, zlp_l, zlp_r, zb_some, zb_bnd, zI_add, zI_sub, zI_mul, zI_neg, zI_le, zI_lt, zI_eq, zI_ix, zI_inI, Int.toNat_natCast, Int.toNat_add, Int.toNat_mul, true_and, and_true]; omega)]
  · rw [zk_some, he]
    exact ⟨rfl, σ, ho, hC, h'.1⟩
-- known
theorem zdsp_sg {F : Nat} {h : Nat → Int} {gr : Nat → Nat → Nat} {sg : Nat → Nat} (hG : okG F sg gr) {f : Nat} (hf : f < F) : zdsp F h gr sg (sg f) ↔ zdsp F h gr sg f := by
  obtain ⟨g1, g2, g3⟩ := hG f hf
  have k := fun kind => zkn_sg (h := h) hG (kind := kind) hf
  unfold zdsp zwh
  rw [k 0, k 1, g2]
  constructor
  · rintro (⟨g, kind, e1, e2, e3, e4, e5⟩ | hh)
    · exact Or.inl ⟨g, kind, e1, e2, e3, by rw [e4, (g3 kind).2], by rw [← k kind]; exact e5⟩
    · exact Or.inr hh
  · rintro (⟨g, kind, e1, e2, e3, e4, e5⟩ | hh)
    · exact Or.inl ⟨g, kind, e1, e2, e3, by rw [e4, (g3 kind).2], by rw [k kind]; exact e5⟩
    · exact Or.inr hh
theorem zp_known : zPr_known zRel := by
  rintro M1 M2 a1 a2 ⟨σ, ho, hc, hr⟩
  obtain ⟨a, rfl, l1, u1⟩ := zI_of a1
  obtain ⟨b, rfl, l2, u2⟩ := zI_of a2
  have hF := ho.2.1
  have hk := okT_hk ho
  have hG : okG (gF σ) (dS σ) (dG σ) := dGR_ok
  unfold f_X11_known f_X12_known
  rw [zk_bind]
  refine zOk_mono (k_fg ho hc) (fun C h => ?_)
  obtain ⟨hC, h13, h14⟩ := h
  have hs := hC.2.2.2.2.2.2.1 h13
  have hg := hC.2.2.2.2.2.2.2.1 h13 h14
  have hRel : zRel C M2 := ⟨σ, ho, hC, hr⟩
  rw [c_signOf hC.2.1.1.2.1 hF hs.1.1 l1 u1, zb_some, r_isForm hr.2.1.2.1 hF _ l1 u1, zb_some, r_in l2 u2 (by omega) (by omega) (by omega) (by omega), zb_some]
  by_cases h1 : 0 ≤ a ∧ a < gF σ
  · obtain ⟨f, rfl⟩ := Int.eq_ofNat_of_zero_le h1.1
    have hf : f < gF σ := by omega
    have sf := zsgl ho hf
    have hsi := dS_i σ hf
    have kvs : ∀ kind, zkv (gF σ) (gh σ) (dG σ) (dS σ) kind (dS σ f) = zkn (gF σ) (gh σ) (dG σ) kind f := by
      intro kind
      unfold zkv
      rw [zif_t ⟨by omega, hsi.2⟩]
      exact zkn_sg hG hf
    rw [if_pos h1, Int.toNat_natCast, if_neg (fun hh => zb_0.mp hh h1)]
    unfold f_X9_factOf
    rw [c_isPlace9 sf, zb_some, if_neg (by decide), zI_inI (n := 20) (by omega) (by omega) (by omega), zb_chk, zb_chk, zI_ix (by omega) (by omega), Int.toNat_natCast, (hg.2.2.1.1 _ sf).1, (hg.2.2.1.1 _ sf).2, kvs, kvs, zMk_bit (by omega) hg.2.2.1.2 (by omega)]
    by_cases h2 : 0 ≤ b ∧ b ≤ 2
    · rw [if_neg (c := zI (zb (0 ≤ b ∧ b ≤ 2) : Int) = zI 0) (fun hh => zb_0.mp hh h2)]
      by_cases b0 : b = 0
      · rw [if_pos (by rw [b0]), zb_some, zk_some, zk_bind]
        refine zOk_mono (k_ls ho hr) (fun R h' => ?_)
        rw [if_neg (by simp (disch := omega) only [zk_bind, zk_chk, zk_bnd, zk_some, zlp_l, zlp_r, zb_some, zb_bnd, zI_add, zI_sub, zI_mul, zI_neg, zI_le, zI_lt, zI_eq, zI_ix, zI_inI, Int.toNat_natCast, Int.toNat_add, Int.toNat_mul, true_and, and_true]; omega), zI_mul, zI_add, zI_inI (by omega) (by omega) (by omega), zb_chk, zk_some, zI_ix (by omega) (by omega), show (20 * b + (f : Int)).toNat = 20 * 0 + f by omega, h'.2.2.2.2.2.2.2 0 f (by omega) hf]
        exact ⟨rfl, σ, ho, hC, h'.1⟩
      · rw [if_neg (c := zI b = zI 0) (by simp (disch := omega) only [zk_bind, zk_chk, zk_bnd, zk_some, zlp_l, zlp_r, zb_some, zb_bnd, zI_add, zI_sub, zI_mul, zI_neg, zI_le, zI_lt, zI_eq, zI_ix, zI_inI, Int.toNat_natCast, Int.toNat_add, Int.toNat_mul, true_and, and_true]; omega)]
        by_cases b1 : b = 1
        · rw [if_pos (by rw [b1]), zb_some, zk_some, zk_bind]
          refine zOk_mono (k_ls ho hr) (fun R h' => ?_)
          rw [if_neg (by simp (disch := omega) only [zk_bind, zk_chk, zk_bnd, zk_some, zlp_l, zlp_r, zb_some, zb_bnd, zI_add, zI_sub, zI_mul, zI_neg, zI_le, zI_lt, zI_eq, zI_ix, zI_inI, Int.toNat_natCast, Int.toNat_add, Int.toNat_mul, true_and, and_true]; omega), zI_mul, zI_add, zI_inI (by omega) (by omega) (by omega), zb_chk, zk_some, zI_ix (by omega) (by omega), show (20 * b + (f : Int)).toNat = 20 * 1 + f by omega, h'.2.2.2.2.2.2.2 1 f (by omega) hf]
          exact ⟨rfl, σ, ho, hC, h'.1⟩
        · rw [if_neg (c := zI b = zI 1) (by simp (disch := omega) only [zk_bind, zk_chk, zk_bnd, zk_some, zlp_l, zlp_r, zb_some, zb_bnd, zI_add, zI_sub, zI_mul, zI_neg, zI_le, zI_lt, zI_eq, zI_ix, zI_inI, Int.toNat_natCast, Int.toNat_add, Int.toNat_mul, true_and, and_true]; omega), if_pos (show zI b = zI 2 by rw [show b = 2 by omega]), zb_some, zk_some, zk_bind]
          refine zOk_mono (k_ls ho hr) (fun R h' => ?_)
          rw [if_pos (show zI b = zI 2 by rw [show b = 2 by omega]), r_isDisputed hF h'.1.2.1.2.1 hk h'.1.2.2.2.2.1 h'.2.2.1.1 (fun f hf => zsgl ho hf) h'.2.2.2.2.2.2.1 (dGR_lt hF) h'.2.2.2.2.2.2.2 hf, zb_some, r_truth, zb_some, zk_some]
          refine ⟨?_, σ, ho, hC, h'.1⟩
          dsimp only
          have ez : zb (dS σ f < gF σ ∧ dS σ (dS σ f) = dS σ f ∧ zdsp (gF σ) (gh σ) (dG σ) (dS σ) (dS σ f)) = zb (zdsp (gF σ) (gh σ) (dG σ) (dS σ) f) := zb_iff ⟨fun hh => (zdsp_sg hG hf).mp hh.2.2, fun hh => ⟨by omega, hsi.2, (zdsp_sg hG hf).mpr hh⟩⟩
          rw [ez]
          by_cases hz : zdsp (gF σ) (gh σ) (dG σ) (dS σ) f
          · rw [zb_t hz]
            rfl
          · rw [zb_f hz]
            rfl
    · rw [if_pos (c := zI (zb (0 ≤ b ∧ b ≤ 2) : Int) = zI 0) (zb_0.mpr h2), if_neg (by simp (disch := omega) only [zk_bind, zk_chk, zk_bnd, zk_some, zlp_l, zlp_r, zb_some, zb_bnd, zI_add, zI_sub, zI_mul, zI_neg, zI_le, zI_lt, zI_eq, zI_ix, zI_inI, Int.toNat_natCast, Int.toNat_add, Int.toNat_mul, true_and, and_true]; omega), if_neg (by simp (disch := omega) only [zk_bind, zk_chk, zk_bnd, zk_some, zlp_l, zlp_r, zb_some, zb_bnd, zI_add, zI_sub, zI_mul, zI_neg, zI_le, zI_lt, zI_eq, zI_ix, zI_inI, Int.toNat_natCast, Int.toNat_add, Int.toNat_mul, true_and, and_true]; omega), if_neg (by simp (disch := omega) only [zk_bind, zk_chk, zk_bnd, zk_some, zlp_l, zlp_r, zb_some, zb_bnd, zI_add, zI_sub, zI_mul, zI_neg, zI_le, zI_lt, zI_eq, zI_ix, zI_inI, Int.toNat_natCast, Int.toNat_add, Int.toNat_mul, true_and, and_true]; omega), zb_some, zk_some, zk_some]
      exact ⟨rfl, hRel⟩
  · unfold f_X9_factOf f_X9_isPlace
    rw [if_neg h1, if_pos (c := zI (-1) < zI 0) (by decide), zb_some, if_pos rfl, zb_some, zk_some, if_pos (zb_0.mpr h1), zk_some]
    exact ⟨rfl, hRel⟩
-- fits
theorem zfil_at {P : Nat → Prop} {i : Nat} (hp : P i) : ∀ W, i < W → (zfil P i).length < (zfil P W).length ∧ (zfil P W).getD (zfil P i).length 0 = i := by
  intro W
  induction W with
  | zero => intro h; omega
  | succ W ih =>
    intro h
    by_cases hiW : i = W
    · rw [← hiW, zfil_t hp]
      exact ⟨by rw [List.length_append]; exact Nat.lt_succ_self _, zgetD_e _ _⟩
    · obtain ⟨h1, h2⟩ := ih (by omega)
      by_cases hw : P W
      · rw [zfil_t hw]
        exact ⟨by rw [List.length_append]; omega, by rw [zgetD_l h1, h2]⟩
      · rw [zfil_f hw]
        exact ⟨h1, h2⟩
theorem zfil_s {P : Nat → Prop} (i : Nat) : (zfil P (i + 1)).length = (zfil P i).length + zb (P i) := by
  by_cases h : P i
  · rw [zfil_t h, zb_t h, List.length_append]
    rfl
  · rw [zfil_f h, zb_f h]
    rfl
noncomputable def zkth (P : Nat → Prop) (W : Nat) (k : Int) : Int := if k = -1 then ((zfil P W).length : Int) else if 0 ≤ k ∧ k < (zfil P W).length then (((zfil P W).getD k.toNat 0 : Nat) : Int) else -1
def zft (σ : ZT) (n w : Nat) : Prop := zagr (dL σ) (gl σ) (gy σ) (dV σ) 0 n w ∧ zshp (dL σ) (gy σ) n w
theorem zp_fits : zPr_fits zRel := by
  rintro M1 M2 a1 a2 ⟨σ, ho, hc, hr⟩
  obtain ⟨a, rfl, l1, u1⟩ := zI_of a1
  obtain ⟨k, rfl, l2, u2⟩ := zI_of a2
  have hF := ho.2.1
  have hk := okT_hk ho
  have hN := ho.2.2.2.1
  have hN4 := hN.1
  have okl := dL_ok ho
  have hW := okl.1
  have hRel : zRel M1 M2 := ⟨σ, ho, hc, hr⟩
  unfold f_X11_fits f_X12_fits
  rw [c_has4 hc.2.1.2.2.2.2.1.1 hN4 l1 u1, zb_some, hr.2.2.2.1.1, zI_sub, r_in l1 u1 (by omega) (by omega) (by omega) (by omega), zb_some]
  by_cases h1 : 0 ≤ a ∧ a < gN σ
  · obtain ⟨n, rfl⟩ := Int.eq_ofNat_of_zero_le h1.1
    have hn : n < gN σ := by omega
    rw [if_neg (fun hh => zb_0.mp hh h1), if_neg (c := zI (zb (0 ≤ (n : Int) ∧ (n : Int) ≤ ((gN σ : Nat) : Int) - 1) : Int) = zI 0) (fun hh => zb_0.mp hh (by omega)), zk_bind]
    refine zOk_mono (k_fg ho hc) (fun C h => ?_)
    obtain ⟨hC, h13, h14⟩ := h
    have hs := hC.2.2.2.2.2.2.1 h13
    have hg := hC.2.2.2.2.2.2.2.1 h13 h14
    have hlC : lexC (dL σ) C := hs.2.2.2.1.1
    have cfit : ∀ w, w < (dL σ).length → f_X3_isFitting C (zI n) (zI w) = some (zI (zb (zft σ n w))) := fun w hw => c_isFitting hN4 okl hg.2.2.2.2.2.1 hn hw
    have cls : (if zI k = zI (-1) then zbind (f_X3_fitting C (zI n)) (fun r_27 => some (C, r_27)) else zbind (f_X3_fittingWord C (zI n) (zI k)) (fun r_39 => some (C, r_39))) = some (C, zI (zkth (zft σ n) (dL σ).length k)) := by
      by_cases ck : k = -1
      · have e : f_X3_fitting C (zI n) = some (zI (zkth (zft σ n) (dL σ).length k)) := by
          unfold f_X3_fitting
          refine zOk_is ?_
          rw [zk_bind]
          refine zOk_forQ (fun i s => s.1 = zI ((zfil (zft σ n) i).length : Int) ∧ s.2 = zI i) (dL σ).length ?_ ?_ ⟨rfl, rfl⟩
          · rintro i ⟨s1, s2⟩ hi ⟨e1, e2⟩ Q hQ _
            dsimp only at e1 e2
            unfold f_X3_fitting_L4 f_X2_held
            dsimp only
            rw [zb_some, hlC.1, e1, e2, if_neg (by simp (disch := omega) only [zk_bind, zk_chk, zk_bnd, zk_some, zlp_l, zlp_r, zb_some, zb_bnd, zI_add, zI_sub, zI_mul, zI_neg, zI_le, zI_lt, zI_eq, zI_ix, zI_inI, Int.toNat_natCast, Int.toNat_add, Int.toNat_mul, true_and, and_true]; omega), cfit i hi, zb_some]
            by_cases hz : zft σ n i
            · rw [if_neg (fun hh => zb_0.mp hh hz), zk_bnd, zk_bnd, zk_some, zI_add, zI_add]
              refine hQ _ ⟨?_, zI_inj (by omega)⟩
              dsimp only
              rw [zfil_s, zb_t hz]
              exact zI_inj (by omega)
            · rw [if_pos (zb_0.mpr hz), zk_bnd, zk_bnd, zk_some, zI_add, zI_add]
              refine hQ _ ⟨?_, zI_inj (by omega)⟩
              dsimp only
              rw [zfil_s, zb_f hz]
              exact zI_inj (by omega)
          · rintro ⟨s1, s2⟩ ⟨e1, e2⟩
            dsimp only at e1 e2
            refine ⟨s1, ?_, ?_⟩
            · unfold f_X3_fitting_L4 f_X2_held
              dsimp only
              rw [zb_some, hlC.1, e2, if_pos (by simp (disch := omega) only [zk_bind, zk_chk, zk_bnd, zk_some, zlp_l, zlp_r, zb_some, zb_bnd, zI_add, zI_sub, zI_mul, zI_neg, zI_le, zI_lt, zI_eq, zI_ix, zI_inI, Int.toNat_natCast, Int.toNat_add, Int.toNat_mul, true_and, and_true]; omega)]
            · rw [zk_some, e1]
              unfold zkth
              rw [if_pos ck]
        rw [if_pos (by rw [ck]), e, zb_some]
      · have e : f_X3_fittingWord C (zI n) (zI k) = some (zI (zkth (zft σ n) (dL σ).length k)) := by
          unfold f_X3_fittingWord
          refine zOk_is ?_
          rw [zk_bind]
          refine zOk_forQ (fun i s => s.1 = zI ((zfil (zft σ n) i).length : Int) ∧ s.2 = zI i ∧ ¬ (0 ≤ k ∧ k < (zfil (zft σ n) i).length)) (dL σ).length ?_ ?_ ⟨rfl, rfl, by rw [zfil_0]; exact fun hh => by have := hh.2; simp at this; omega⟩
          · rintro i ⟨s1, s2⟩ hi ⟨e1, e2, e3⟩ Q hQ hE
            dsimp only at e1 e2
            have hle := zfil_le (zft σ n) i
            unfold f_X3_fittingWord_L5 f_X2_held
            dsimp only
            rw [zb_some, hlC.1, e1, e2, if_neg (by simp (disch := omega) only [zk_bind, zk_chk, zk_bnd, zk_some, zlp_l, zlp_r, zb_some, zb_bnd, zI_add, zI_sub, zI_mul, zI_neg, zI_le, zI_lt, zI_eq, zI_ix, zI_inI, Int.toNat_natCast, Int.toNat_add, Int.toNat_mul, true_and, and_true]; omega), cfit i hi, zb_some]
            by_cases hz : zft σ n i
            · rw [if_neg (fun hh => zb_0.mp hh hz)]
              by_cases hlk : ((zfil (zft σ n) i).length : Int) = k
              · rw [if_pos (by rw [hlk]), zk_some]
                refine hE _ ?_
                show zOk (some (zI i)) _
                rw [zk_some]
                obtain ⟨g1, g2⟩ := zfil_at hz _ hi
                unfold zkth
                rw [if_neg ck, if_pos (by omega), ← hlk, Int.toNat_natCast, g2]
              · rw [if_neg (by simp (disch := omega) only [zk_bind, zk_chk, zk_bnd, zk_some, zlp_l, zlp_r, zb_some, zb_bnd, zI_add, zI_sub, zI_mul, zI_neg, zI_le, zI_lt, zI_eq, zI_ix, zI_inI, Int.toNat_natCast, Int.toNat_add, Int.toNat_mul, true_and, and_true]; omega), zk_bnd, zk_bnd, zk_some, zI_add, zI_add]
                refine hQ _ ⟨?_, zI_inj (by omega), ?_⟩
                · dsimp only
                  rw [zfil_s, zb_t hz]
                  exact zI_inj (by omega)
                · rw [zfil_s, zb_t hz]
                  omega
            · rw [if_pos (zb_0.mpr hz), zk_bnd, zk_some, zI_add]
              refine hQ _ ⟨?_, zI_inj (by omega), ?_⟩
              · dsimp only
                rw [zfil_s, zb_f hz]
                exact zI_inj (by omega)
              · rw [zfil_s, zb_f hz]
                omega
          · rintro ⟨s1, s2⟩ ⟨e1, e2, e3⟩
            dsimp only at e1 e2
            refine ⟨.inl (), ?_, ?_⟩
            · unfold f_X3_fittingWord_L5 f_X2_held
              dsimp only
              rw [zb_some, hlC.1, e2, if_pos (by simp (disch := omega) only [zk_bind, zk_chk, zk_bnd, zk_some, zlp_l, zlp_r, zb_some, zb_bnd, zI_add, zI_sub, zI_mul, zI_neg, zI_le, zI_lt, zI_eq, zI_ix, zI_inI, Int.toNat_natCast, Int.toNat_add, Int.toNat_mul, true_and, and_true]; omega)]
            · show zOk (some (zI (-1))) _
              rw [zk_some]
              unfold zkth
              rw [if_neg ck, if_neg e3]
        rw [if_neg (by simp (disch := omega) only [zk_bind, zk_chk, zk_bnd, zk_some, zlp_l, zlp_r, zb_some, zb_bnd, zI_add, zI_sub, zI_mul, zI_neg, zI_le, zI_lt, zI_eq, zI_ix, zI_inI, Int.toNat_natCast, Int.toNat_add, Int.toNat_mul, true_and, and_true]; omega), e, zb_some]
    rw [cls, zk_some]
    by_cases hk1 : -1 ≤ k
    · rw [if_pos (by simp (disch := omega) only [zk_bind, zk_chk, zk_bnd, zk_some, zlp_l, zlp_r, zb_some, zb_bnd, zI_add, zI_sub, zI_mul, zI_neg, zI_le, zI_lt, zI_eq, zI_ix, zI_inI, Int.toNat_natCast, Int.toNat_add, Int.toNat_mul, true_and, and_true]; omega), zk_bind]
      refine zOk_mono (k_ls ho hr) (fun R h' => ?_)
      have hlR : lexR (dL σ) R := h'.2.2.2.2.1.1
      have hkn : knV (gF σ) (dKN (gF σ) (gf σ) (gs σ) (gh σ)) R := h'.2.2.2.2.2.2.2
      have hRel' : zRel C R := ⟨σ, ho, hC, h'.1⟩
      have rfit : ∀ w, w < (dL σ).length → f_X12_fitsName R (zI w) (zI n) = some (zI (zb (zft σ n w))) := by
        intro w hw
        rw [r_fitsName hF hN h'.1.2.2.2.1 okl hlR (dSg_F hF ho.2.2.1) (dKN_ok hF hk) hkn hn hw]
        refine congrArg (fun x : Nat => some (zI (x : Int))) (zb_iff ?_)
        unfold zft
        rw [zagr_sg (fun i hi kind _ => dKN_sg hF ho.2.2.1 hw hi kind)]
      rw [zk_bind]
      refine zOk_forQ (fun i s => s.1 = zI ((zfil (zft σ n) i).length : Int) ∧ s.2 = zI i ∧ ¬ (0 ≤ k ∧ k < (zfil (zft σ n) i).length)) (dL σ).length ?_ ?_ ⟨rfl, rfl, by rw [zfil_0]; exact fun hh => by have := hh.2; simp at this; omega⟩
      · rintro i ⟨s1, s2⟩ hi ⟨e1, e2, e3⟩ Q hQ hE
        dsimp only at e1 e2
        have hle := zfil_le (zft σ n) i
        unfold f_X12_fits_L30
        dsimp only
        rw [hlR.1, e1, e2, if_neg (by simp (disch := omega) only [zk_bind, zk_chk, zk_bnd, zk_some, zlp_l, zlp_r, zb_some, zb_bnd, zI_add, zI_sub, zI_mul, zI_neg, zI_le, zI_lt, zI_eq, zI_ix, zI_inI, Int.toNat_natCast, Int.toNat_add, Int.toNat_mul, true_and, and_true]; omega), rfit i hi, zb_some]
        by_cases hz : zft σ n i
        · rw [if_neg (fun hh => zb_0.mp hh hz)]
          by_cases hlk : ((zfil (zft σ n) i).length : Int) = k
          · rw [if_pos (by rw [hlk]), zk_some]
            refine hE _ ?_
            show zOk (some (R, zI i)) _
            rw [zk_some]
            obtain ⟨g1, g2⟩ := zfil_at hz _ hi
            refine ⟨?_, hRel'⟩
            dsimp only
            unfold zkth
            rw [if_neg (by omega), if_pos (by omega), ← hlk, Int.toNat_natCast, g2]
          · rw [if_neg (by simp (disch := omega) only [zk_bind, zk_chk, zk_bnd, zk_some, zlp_l, zlp_r, zb_some, zb_bnd, zI_add, zI_sub, zI_mul, zI_neg, zI_le, zI_lt, zI_eq, zI_ix, zI_inI, Int.toNat_natCast, Int.toNat_add, Int.toNat_mul, true_and, and_true]; omega), zk_bnd, zk_bnd, zk_some, zI_add, zI_add]
            refine hQ _ ⟨?_, zI_inj (by omega), ?_⟩
            · dsimp only
              rw [zfil_s, zb_t hz]
              exact zI_inj (by omega)
            · rw [zfil_s, zb_t hz]
              omega
        · rw [if_pos (zb_0.mpr hz), zk_bnd, zk_some, zI_add]
          refine hQ _ ⟨?_, zI_inj (by omega), ?_⟩
          · dsimp only
            rw [zfil_s, zb_f hz]
            exact zI_inj (by omega)
          · rw [zfil_s, zb_f hz]
            omega
      · rintro ⟨s1, s2⟩ ⟨e1, e2, e3⟩
        dsimp only at e1 e2
        refine ⟨.inl s1, ?_, ?_⟩
        · unfold f_X12_fits_L30
          dsimp only
          rw [hlR.1, e2, if_pos (by simp (disch := omega) only [zk_bind, zk_chk, zk_bnd, zk_some, zlp_l, zlp_r, zb_some, zb_bnd, zI_add, zI_sub, zI_mul, zI_neg, zI_le, zI_lt, zI_eq, zI_ix, zI_inI, Int.toNat_natCast, Int.toNat_add, Int.toNat_mul, true_and, and_true]; omega)]
        · show zOk (if zI k = zI (-1) then some (R, s1) else some (R, zI (-1))) _
          unfold zkth
          by_cases ck : k = -1
          · rw [if_pos (by rw [ck]), zk_some, if_pos ck]
            exact ⟨e1.symm, hRel'⟩
          · rw [if_neg (by simp (disch := omega) only [zk_bind, zk_chk, zk_bnd, zk_some, zlp_l, zlp_r, zb_some, zb_bnd, zI_add, zI_sub, zI_mul, zI_neg, zI_le, zI_lt, zI_eq, zI_ix, zI_inI, Int.toNat_natCast, Int.toNat_add, Int.toNat_mul, true_and, and_true]; omega), zk_some, if_neg ck, if_neg e3]
            exact ⟨rfl, hRel'⟩
    · rw [if_neg (by simp (disch := omega) only [zk_bind, zk_chk, zk_bnd, zk_some, zlp_l, zlp_r, zb_some, zb_bnd, zI_add, zI_sub, zI_mul, zI_neg, zI_le, zI_lt, zI_eq, zI_ix, zI_inI, Int.toNat_natCast, Int.toNat_add, Int.toNat_mul, true_and, and_true]; omega), zk_some]
      unfold zkth
      rw [if_neg (by omega), if_neg (by omega)]
      exact ⟨rfl, σ, ho, hC, hr⟩
  · rw [if_pos (zb_0.mpr h1), if_pos (zb_0.mpr (by omega)), zk_some, zk_some]
    exact ⟨rfl, hRel⟩
