/-! ===== what is known: the reference ===== deps: 97.q.vals -/
def grpR (F : Nat) (gr : Nat → Nat → Nat) (R : ZMem) : Prop := ∀ kind f, kind < 2 → f < F → R.1 23 (20 * kind + f) = zI (gr kind f)
def knR (F : Nat) (h : Nat → Int) (gr : Nat → Nat → Nat) (R : ZMem) : Prop := ∀ kind f, kind < 2 → f < F → R.1 25 (20 * kind + f) = zI (zkn F h gr kind f)
theorem r_partOf {M : ZMem} {kind : Nat} {v : Int} (hk : kind < 2) (h1 : 0 ≤ v) (h2 : v ≤ 49) : f_X12_partOf M (zI v) (zI kind) = some (zI (zpt kind v)) := by
  unfold f_X12_partOf zpt
  by_cases c : kind = 0
  · rw [if_pos (by rw [c]; rfl), if_pos c, zI_div (by omega) (by omega) (by omega) (by omega)]
  · rw [if_neg (by simp (disch := omega) only [zk_bind, zk_chk, zk_bnd, zk_some, zlp_l, zlp_r, zb_some, zb_bnd, zI_add, zI_sub, zI_mul, zI_neg, zI_le, zI_lt, zI_eq, zI_ix, zI_inI, Int.toNat_natCast, Int.toNat_add, Int.toNat_mul, true_and, and_true]; omega), if_neg c, zI_rem (by omega) (by omega) (by omega) (by omega)]
def zfsR (F : Nat) (h : Nat → Int) (gr : Nat → Nat) (kind c lo : Nat) (v : Int) : Prop := (v = -1 ∧ ∀ g, lo ≤ g → g < F → ¬ (h (4 + g) ≠ -1 ∧ gr g = c)) ∨ ∃ g, lo ≤ g ∧ g < F ∧ (h (4 + g) ≠ -1 ∧ gr g = c) ∧ v = zpt kind (h (4 + g)) ∧ ∀ g', lo ≤ g' → g' < g → ¬ (h (4 + g') ≠ -1 ∧ gr g' = c)
theorem zfsR_0 {F : Nat} {h : Nat → Int} (hF : F ≤ 20) (hk : okH F h) {gr : Nat → Nat} {kind c : Nat} {v : Int} (hv : zfsR F h gr kind c 0 v) : v = zkc h gr kind c F := by
  rcases zkc_fst hk gr kind c F hF with ⟨a1, a2⟩ | ⟨g, a1, a2, a3, a4⟩
  · rcases hv with ⟨b1, _⟩ | ⟨g, _, b2, b3, _⟩
    · omega
    · exact absurd b3 (a2 g b2)
  · rcases hv with ⟨_, b2⟩ | ⟨g', _, b2, b3, b4, b5⟩
    · exact absurd a2 (b2 g (by omega) a1)
    · have : g = g' := by
        rcases Nat.lt_trichotomy g g' with hlt | heq | hgt
        · exact absurd a2 (b5 g (by omega) hlt)
        · exact heq
        · exact absurd b3 (a4 g' hgt)
      rw [b4, a3, this]
theorem r_laysKnown {M : ZMem} {F : Nat} {h : Nat → Int} {gr : Nat → Nat → Nat} (hF : F ≤ 20) (hF1 : M.1 0 4 = zI F) (hk : okH F h) (hh : handR h M) (hg : grpR F gr M) (hgl : ∀ kind f, f < F → gr kind f < 20) : zOk (f_X12_laysKnown M) (fun M' => knR F h gr M' ∧ zP (fun a _ => a == 25) M M') := by
  unfold f_X12_laysKnown
  rw [zk_bind]
  refine zOk_for0 (fun kind x => x.2 = zI kind ∧ zP (fun a _ => a == 25) M x.1 ∧ ∀ k f, k < kind → f < F → x.1.1 25 (20 * k + f) = zI (zkn F h gr k f)) 2 ?_ ?_ ⟨rfl, zP_rf, fun k f hk => absurd hk (Nat.not_lt_zero k)⟩
  · rintro kind ⟨x1, x2⟩ hkd ⟨e1, e2, e3⟩
    dsimp only at e1 e2 e3
    unfold f_X12_laysKnown_L2
    dsimp only
    rw [e1, if_neg (by simp (disch := omega) only [zk_bind, zk_chk, zk_bnd, zk_some, zlp_l, zlp_r, zb_some, zb_bnd, zI_add, zI_sub, zI_mul, zI_neg, zI_le, zI_lt, zI_eq, zI_ix, zI_inI, Int.toNat_natCast, Int.toNat_add, Int.toNat_mul, true_and, and_true]; omega), zk_bind]
    refine zOk_for0 (fun f x => x.2 = zI f ∧ zP (fun a _ => a == 25) M x.1 ∧ (∀ k f, k < kind → f < F → x.1.1 25 (20 * k + f) = zI (zkn F h gr k f)) ∧ ∀ f', f' < f → x.1.1 25 (20 * kind + f') = zI (zkn F h gr kind f')) F ?_ ?_ ⟨rfl, e2, e3, fun f hf => absurd hf (Nat.not_lt_zero f)⟩
    · rintro f ⟨y1, y2⟩ hf ⟨d1, d2, d3, d4⟩
      dsimp only at d1 d2 d3 d4
      unfold f_X12_laysKnown_L9
      dsimp only
      rw [d2.1 0 4 rfl, hF1, d1, if_neg (by simp (disch := omega) only [zk_bind, zk_chk, zk_bnd, zk_some, zlp_l, zlp_r, zb_some, zb_bnd, zI_add, zI_sub, zI_mul, zI_neg, zI_le, zI_lt, zI_eq, zI_ix, zI_inI, Int.toNat_natCast, Int.toNat_add, Int.toNat_mul, true_and, and_true]; omega), zI_mul, zI_add, zI_inI (by omega) (by omega) (by omega), zb_chk, zI_ix (by omega) (by omega), show (20 * (kind : Int) + f).toNat = 20 * kind + f by omega, zk_bnd, zm_Iq _ _ _ _ (by decide), d2.1 0 4 rfl, hF1, zI_sub, zk_bnd, zk_bind]
      refine zOk_forQ (fun d x => x.2 = zI ((F : Int) - 1 - d) ∧ zP (fun a _ => a == 25) M x.1 ∧ (∀ k f', (k < kind ∨ (k = kind ∧ f' < f)) → f' < F → x.1.1 25 (20 * k + f') = zI (zkn F h gr k f')) ∧ ∃ v, x.1.1 25 (20 * kind + f) = zI v ∧ zfsR F h (gr kind) kind (gr kind f) (F - d) v) F ?_ ?_ ⟨zI_inj (by omega), zP_I d2 rfl, fun k f' hkf hf' => ?_, -1, by rw [zm_Is], Or.inl ⟨rfl, fun g g1 g2 => by omega⟩⟩
      · rintro d ⟨u1, u2⟩ hd ⟨c1, c2, c3, v, c4, c5⟩ Q hQ _
        dsimp only at c1 c2 c3 c4
        obtain ⟨o1, o2, o3⟩ := hk.2.2.2.2.1 (F - 1 - d) (by omega)
        have gg := hgl kind (F - 1 - d) (by omega)
        have gf := hgl kind f hf
        unfold f_X12_laysKnown_L36
        dsimp only
        rw [c1, if_neg (by simp (disch := omega) only [zk_bind, zk_chk, zk_bnd, zk_some, zlp_l, zlp_r, zb_some, zb_bnd, zI_add, zI_sub, zI_mul, zI_neg, zI_le, zI_lt, zI_eq, zI_ix, zI_inI, Int.toNat_natCast, Int.toNat_add, Int.toNat_mul, true_and, and_true]; omega), zI_add, zI_inI (by omega) (by omega) (by omega), zb_chk, zb_chk, zI_ix (by omega) (by omega), show (4 + ((F : Int) - 1 - d)).toNat = 4 + (F - 1 - d) by omega, c2.1 9 _ rfl, hh _ (by omega)]
        have skip : ¬ (h (4 + (F - 1 - d)) ≠ -1 ∧ gr kind (F - 1 - d) = gr kind f) → zOk (zbnd (zI ((F : Int) - 1 - d) + zI (-1)) (fun x3_100 => (some (.inl (u1, x3_100)) : Option ((ZMem × Int32) ⊕ ZMem)))) Q := by
          intro hno
          rw [zk_bnd, zk_some, zI_add]
          refine hQ _ ⟨zI_inj (by omega), c2, c3, v, c4, ?_⟩
          rcases c5 with ⟨a1, a2⟩ | ⟨g, a1, a2, a3, a4, a5⟩
          · refine Or.inl ⟨a1, fun g g1 g2 => ?_⟩
            by_cases he : g = F - 1 - d
            · rw [he]; exact hno
            · exact a2 g (by omega) g2
          · refine Or.inr ⟨g, by omega, a2, a3, a4, fun g' g1 g2 => ?_⟩
            by_cases he : g' = F - 1 - d
            · rw [he]; exact hno
            · exact a5 g' (by omega) g2
        by_cases k1 : h (4 + (F - 1 - d)) = -1
        · rw [if_pos (by rw [k1])]
          exact skip (fun hh' => hh'.1 k1)
        · rw [if_neg (by simp (disch := omega) only [zk_bind, zk_chk, zk_bnd, zk_some, zlp_l, zlp_r, zb_some, zb_bnd, zI_add, zI_sub, zI_mul, zI_neg, zI_le, zI_lt, zI_eq, zI_ix, zI_inI, Int.toNat_natCast, Int.toNat_add, Int.toNat_mul, true_and, and_true]; omega), zI_mul, zI_add, zI_inI (by omega) (by omega) (by omega), zb_chk, zI_add, zI_inI (by omega) (by omega) (by omega), zb_chk, zI_ix (by omega) (by omega), zI_ix (by omega) (by omega), show (20 * (kind : Int) + ((F : Int) - 1 - d)).toNat = 20 * kind + (F - 1 - d) by omega, show (20 * (kind : Int) + f).toNat = 20 * kind + f by omega, c2.1 23 _ rfl, c2.1 23 _ rfl, hg kind _ hkd (by omega), hg kind f hkd hf]
          by_cases k2 : gr kind (F - 1 - d) = gr kind f
          · rw [if_pos (by rw [k2]), r_partOf hkd (by omega) (by omega), zb_some, zb_chk, zk_bnd, zk_bnd, zk_some, zI_add]
            refine hQ _ ⟨zI_inj (by omega), zP_I c2 rfl, fun k f' hkf hf' => ?_, zpt kind (h (4 + (F - 1 - d))), by rw [zm_Is], Or.inr ⟨F - 1 - d, by omega, by omega, ⟨k1, k2⟩, rfl, fun g' g1 g2 => by omega⟩⟩
            rw [zm_In _ _ _ _ (by omega)]
            exact c3 k f' hkf hf'
          · rw [if_neg (by simp (disch := omega) only [zk_bind, zk_chk, zk_bnd, zk_some, zlp_l, zlp_r, zb_some, zb_bnd, zI_add, zI_sub, zI_mul, zI_neg, zI_le, zI_lt, zI_eq, zI_ix, zI_inI, Int.toNat_natCast, Int.toNat_add, Int.toNat_mul, true_and, and_true]; omega)]
            exact skip (fun hh' => k2 hh'.2)
      · rintro ⟨u1, u2⟩ ⟨c1, c2, c3, v, c4, c5⟩
        dsimp only at c1 c2 c3 c4
        refine ⟨u1, ?_, ?_⟩
        · unfold f_X12_laysKnown_L36
          dsimp only
          rw [c1, if_pos (by simp (disch := omega) only [zk_bind, zk_chk, zk_bnd, zk_some, zlp_l, zlp_r, zb_some, zb_bnd, zI_add, zI_sub, zI_mul, zI_neg, zI_le, zI_lt, zI_eq, zI_ix, zI_inI, Int.toNat_natCast, Int.toNat_add, Int.toNat_mul, true_and, and_true]; omega)]
        · rw [zk_bnd, zk_some, zlp_l, zI_add]
          rw [Nat.sub_self] at c5
          refine ⟨zI_inj (by omega), c2, fun k f' hk' hf' => c3 k f' (Or.inl hk') hf', fun f' hf' => ?_⟩
          by_cases he : f' = f
          · rw [he, c4, zfsR_0 hF hk c5]
            rfl
          · exact c3 kind f' (Or.inr ⟨rfl, by omega⟩) (by omega)
      · rw [zm_In _ _ _ _ (by omega)]
        rcases hkf with hkf | ⟨rfl, hkf⟩
        · exact d3 k f' hkf hf'
        · exact d4 f' hkf
    · rintro ⟨y1, y2⟩ ⟨d1, d2, d3, d4⟩
      dsimp only at d1 d2 d3 d4
      unfold f_X12_laysKnown_L9
      dsimp only
      rw [d2.1 0 4 rfl, hF1, d1, if_pos (by simp (disch := omega) only [zk_bind, zk_chk, zk_bnd, zk_some, zlp_l, zlp_r, zb_some, zb_bnd, zI_add, zI_sub, zI_mul, zI_neg, zI_le, zI_lt, zI_eq, zI_ix, zI_inI, Int.toNat_natCast, Int.toNat_add, Int.toNat_mul, true_and, and_true]; omega), zk_some, zlp_r, zk_bnd, zk_some, zlp_l, zI_add]
      refine ⟨zI_inj (by omega), d2, fun k f hk' hf => ?_⟩
      by_cases he : k = kind
      · rw [he]; exact d4 f hf
      · exact d3 k f (by omega) hf
  · rintro ⟨x1, x2⟩ ⟨e1, e2, e3⟩
    dsimp only at e1 e2 e3
    unfold f_X12_laysKnown_L2
    dsimp only
    rw [e1, if_pos (by simp (disch := omega) only [zk_bind, zk_chk, zk_bnd, zk_some, zlp_l, zlp_r, zb_some, zb_bnd, zI_add, zI_sub, zI_mul, zI_neg, zI_le, zI_lt, zI_eq, zI_ix, zI_inI, Int.toNat_natCast, Int.toNat_add, Int.toNat_mul, true_and, and_true]; omega), zk_some, zlp_r, zk_some]
    exact ⟨e3, e2⟩
/-- whole, by what is laid as known -/
theorem r_isWhole {M : ZMem} {k0 k1 : Int} {f : Nat} (hf : f < 20) (h0 : M.1 25 f = zI k0) (h1 : M.1 25 (20 + f) = zI k1) (r0 : -1 ≤ k0) (r0' : k0 ≤ 9) (r1 : -1 ≤ k1) (r1' : k1 ≤ 9) : f_X12_isWhole M (zI f) = some (zI (zb (k0 ≠ -1 ∧ k1 ≠ -1))) := by
  unfold f_X12_isWhole
  rw [zI_inI (by omega) (by omega) (by omega), zb_chk, zI_ix (by omega) (by omega), Int.toNat_natCast, h0]
  by_cases c0 : k0 = -1
  · rw [if_pos (by rw [c0]), zb_f (fun hh => hh.1 c0)]; rfl
  · rw [if_neg (by simp (disch := omega) only [zk_bind, zk_chk, zk_bnd, zk_some, zlp_l, zlp_r, zb_some, zb_bnd, zI_add, zI_sub, zI_mul, zI_neg, zI_le, zI_lt, zI_eq, zI_ix, zI_inI, Int.toNat_natCast, Int.toNat_add, Int.toNat_mul, true_and, and_true]; omega), zI_add, zI_inI (by omega) (by omega) (by omega), zb_chk, zI_ix (by omega) (by omega), show (20 + (f : Int)).toNat = 20 + f by omega, h1]
    by_cases c1 : k1 = -1
    · rw [if_pos (by rw [c1]), zb_f (fun hh => hh.2 c1)]; rfl
    · rw [if_neg (by simp (disch := omega) only [zk_bind, zk_chk, zk_bnd, zk_some, zlp_l, zlp_r, zb_some, zb_bnd, zI_add, zI_sub, zI_mul, zI_neg, zI_le, zI_lt, zI_eq, zI_ix, zI_inI, Int.toNat_natCast, Int.toNat_add, Int.toNat_mul, true_and, and_true]; omega), zb_t ⟨c0, c1⟩]; rfl
theorem r_whole {M : ZMem} {F : Nat} {h : Nat → Int} {gr : Nat → Nat → Nat} (hF : F ≤ 20) (hk : okH F h) (hn : knR F h gr M) {f : Nat} (hf : f < F) : f_X12_isWhole M (zI f) = some (zI (zb (zwh F h gr f))) := by
  have r0 := zkn_rng hF hk gr 0 f
  have r1 := zkn_rng hF hk gr 1 f
  have n0 := hn 0 f (by decide) hf
  rw [Nat.mul_zero, Nat.zero_add] at n0
  have n1 := hn 1 f (by decide) hf
  rw [Nat.mul_one] at n1
  exact r_isWhole (by omega) n0 n1 r0.1 r0.2 r1.1 r1.2
theorem r_isDisputed {M : ZMem} {F : Nat} {h : Nat → Int} {gr : Nat → Nat → Nat} {sg : Nat → Nat} (hF : F ≤ 20) (hF1 : M.1 0 4 = zI F) (hk : okH F h) (hh : handR h M) (hsg : ∀ f, f < F → M.1 11 f = zI (sg f)) (hsl : ∀ f, f < F → sg f < 20) (hg : grpR F gr M) (hgl : ∀ kind f, f < F → gr kind f < 20) (hn : knR F h gr M) {f : Nat} (hf : f < F) : f_X12_isDisputed M (zI f) = some (zI (zb (zdsp F h gr sg f))) := by
  apply zOk_is
  unfold f_X12_isDisputed
  rw [zk_bind]
  have rf := fun kind => zkn_rng hF hk gr kind f
  refine zOk_forQ (fun g x => x = zI g ∧ ¬ ((∃ g' kind, g' < g ∧ kind < 2 ∧ h (4 + g') ≠ -1 ∧ gr kind g' = gr kind f ∧ zpt kind (h (4 + g')) ≠ zkn F h gr kind f) ∨ (∃ g', g' < g ∧ sg g' ≠ sg f ∧ zwh F h gr f ∧ zwh F h gr g' ∧ zkn F h gr 0 g' = zkn F h gr 0 f ∧ zkn F h gr 1 g' = zkn F h gr 1 f))) F ?_ ?_ ⟨rfl, fun hh => hh.elim (fun ⟨g', _, hg, _⟩ => absurd hg (Nat.not_lt_zero g')) (fun ⟨g', hg, _⟩ => absurd hg (Nat.not_lt_zero g'))⟩
  · rintro g x hgF ⟨rfl, e1⟩ Q hQ hR
    obtain ⟨o1, o2, o3⟩ := hk.2.2.2.2.1 g (by omega)
    unfold f_X12_isDisputed_L2
    rw [hF1, if_neg (by simp (disch := omega) only [zk_bind, zk_chk, zk_bnd, zk_some, zlp_l, zlp_r, zb_some, zb_bnd, zI_add, zI_sub, zI_mul, zI_neg, zI_le, zI_lt, zI_eq, zI_ix, zI_inI, Int.toNat_natCast, Int.toNat_add, Int.toNat_mul, true_and, and_true]; omega), zk_bind]
    refine zOk_forQ (fun kind x => x = zI kind ∧ ∀ k, k < kind → ¬ (h (4 + g) ≠ -1 ∧ gr k g = gr k f ∧ zpt k (h (4 + g)) ≠ zkn F h gr k f)) 2 ?_ ?_ ⟨rfl, fun k hk => absurd hk (Nat.not_lt_zero k)⟩
    · rintro kind x hkd ⟨rfl, d1⟩ Q' hQ' hR'
      have gg := hgl kind g hgF
      have gf := hgl kind f hf
      have key : ∀ v : Nat, v = zb (h (4 + g) ≠ -1 ∧ gr kind g = gr kind f) → zOk (f_X12_isDisputed_59_L12 M (zI f) (zI g) (zI kind) (zI v)) Q' := by
        intro v hv
        unfold f_X12_isDisputed_59_L12
        by_cases hc : h (4 + g) ≠ -1 ∧ gr kind g = gr kind f
        · rw [zb_t hc] at hv
          have pr := zpt_rng (kind := kind) (v := h (4 + g)) (by omega) (by omega)
          have rk := rf kind
          rw [hv, if_neg (by decide), zI_add, zI_inI (by omega) (by omega) (by omega), zb_chk, zI_ix (by omega) (by omega), show (4 + (g : Int)).toNat = 4 + g by omega, hh _ (by omega), r_partOf hkd (by omega) (by omega), zb_some, zI_mul, zI_add, zI_inI (by omega) (by omega) (by omega), zb_chk, zI_ix (by omega) (by omega), show (20 * (kind : Int) + f).toNat = 20 * kind + f by omega, hn kind f hkd hf]
          by_cases hd : zpt kind (h (4 + g)) = zkn F h gr kind f
          · rw [if_pos (by rw [hd]), zk_bnd, zk_some, zI_add]
            refine hQ' _ ⟨zI_inj (by omega), fun k hk' hh' => ?_⟩
            by_cases he : k = kind
            · rw [he] at hh'
              exact hh'.2.2 hd
            · exact d1 k (by omega) hh'
          · rw [if_neg (by simp (disch := omega) only [zk_bind, zk_chk, zk_bnd, zk_some, zlp_l, zlp_r, zb_some, zb_bnd, zI_add, zI_sub, zI_mul, zI_neg, zI_le, zI_lt, zI_eq, zI_ix, zI_inI, Int.toNat_natCast, Int.toNat_add, Int.toNat_mul, true_and, and_true]; omega), zk_some]
            refine hR' _ ?_
            show zOk (some (.inr (.inr (zI 1)))) Q
            rw [zk_some]
            refine hR _ ?_
            show zOk (some (zI 1)) _
            rw [zk_some, zb_t (p := zdsp F h gr sg f) (Or.inl ⟨g, kind, hgF, hkd, hc.1, hc.2, hd⟩)]
            rfl
        · rw [zb_f hc] at hv
          rw [hv, if_pos (by decide), zk_bnd, zk_some, zI_add]
          refine hQ' _ ⟨zI_inj (by omega), fun k hk' hh' => ?_⟩
          by_cases he : k = kind
          · rw [he] at hh'
            exact hc ⟨hh'.1, hh'.2.1⟩
          · exact d1 k (by omega) hh'
      unfold f_X12_isDisputed_L12 f_X12_isDisputed_58_L12
      rw [if_neg (by simp (disch := omega) only [zk_bind, zk_chk, zk_bnd, zk_some, zlp_l, zlp_r, zb_some, zb_bnd, zI_add, zI_sub, zI_mul, zI_neg, zI_le, zI_lt, zI_eq, zI_ix, zI_inI, Int.toNat_natCast, Int.toNat_add, Int.toNat_mul, true_and, and_true]; omega), zI_add, zI_inI (by omega) (by omega) (by omega), zb_chk, zI_ix (by omega) (by omega), show (4 + (g : Int)).toNat = 4 + g by omega, hh _ (by omega)]
      by_cases k1 : h (4 + g) = -1
      · rw [if_pos (by rw [k1])]
        exact key 0 (zb_f (fun hh' => hh'.1 k1)).symm
      · rw [if_neg (by simp (disch := omega) only [zk_bind, zk_chk, zk_bnd, zk_some, zlp_l, zlp_r, zb_some, zb_bnd, zI_add, zI_sub, zI_mul, zI_neg, zI_le, zI_lt, zI_eq, zI_ix, zI_inI, Int.toNat_natCast, Int.toNat_add, Int.toNat_mul, true_and, and_true]; omega), zI_mul, zI_add, zI_inI (by omega) (by omega) (by omega), zb_chk, zI_add, zI_inI (by omega) (by omega) (by omega), zb_chk, zI_ix (by omega) (by omega), zI_ix (by omega) (by omega), show (20 * (kind : Int) + g).toNat = 20 * kind + g by omega, show (20 * (kind : Int) + f).toNat = 20 * kind + f by omega, hg kind g hkd hgF, hg kind f hkd hf]
        by_cases k2 : gr kind g = gr kind f
        · rw [if_pos (by rw [k2])]
          exact key 1 (zb_t ⟨k1, k2⟩).symm
        · rw [if_neg (by simp (disch := omega) only [zk_bind, zk_chk, zk_bnd, zk_some, zlp_l, zlp_r, zb_some, zb_bnd, zI_add, zI_sub, zI_mul, zI_neg, zI_le, zI_lt, zI_eq, zI_ix, zI_inI, Int.toNat_natCast, Int.toNat_add, Int.toNat_mul, true_and, and_true]; omega)]
          exact key 0 (zb_f (fun hh' => k2 hh'.2)).symm
    · rintro x ⟨rfl, d1⟩
      refine ⟨.inl (), ?_, ?_⟩
      · unfold f_X12_isDisputed_L12
        rw [if_pos (by simp (disch := omega) only [zk_bind, zk_chk, zk_bnd, zk_some, zlp_l, zlp_r, zb_some, zb_bnd, zI_add, zI_sub, zI_mul, zI_neg, zI_le, zI_lt, zI_eq, zI_ix, zI_inI, Int.toNat_natCast, Int.toNat_add, Int.toNat_mul, true_and, and_true]; omega)]
      · show zOk (zchk (zin (zI g) 20) _) Q
        have sgg := hsl g hgF
        have sgf := hsl f hf
        have rg := fun kind => zkn_rng hF hk gr kind g
        have rg0 := rg 0
        have rg1 := rg 1
        have rf0 := rf 0
        have rf1 := rf 1
        have skip : ¬ (sg g ≠ sg f ∧ zwh F h gr f ∧ zwh F h gr g ∧ zkn F h gr 0 g = zkn F h gr 0 f ∧ zkn F h gr 1 g = zkn F h gr 1 f) → zOk (zbnd (zI g + zI 1) (fun x2_169 => (some (.inl x2_169) : Option (Int32 ⊕ (Unit ⊕ Int32))))) Q := by
          intro hno
          rw [zk_bnd, zk_some, zI_add]
          refine hQ _ ⟨zI_inj (by omega), ?_⟩
          rintro (⟨g', kind, a1, a2, a3⟩ | ⟨g', a1, a2⟩)
          · by_cases he : g' = g
            · rw [he] at a3
              exact d1 kind a2 a3
            · exact e1 (Or.inl ⟨g', kind, by omega, a2, a3⟩)
          · by_cases he : g' = g
            · rw [he] at a2
              exact hno a2
            · exact e1 (Or.inr ⟨g', by omega, a2⟩)
        rw [zI_inI (by omega) (by omega) (by omega), zb_chk, zI_inI (by omega) (by omega) (by omega), zb_chk, zI_ix (by omega) (by omega), zI_ix (by omega) (by omega), Int.toNat_natCast, Int.toNat_natCast, hsg g hgF, hsg f hf]
        by_cases c1 : sg g = sg f
        · rw [if_pos (by rw [c1])]
          exact skip (fun hh' => hh'.1 c1)
        · rw [if_neg (by simp (disch := omega) only [zk_bind, zk_chk, zk_bnd, zk_some, zlp_l, zlp_r, zb_some, zb_bnd, zI_add, zI_sub, zI_mul, zI_neg, zI_le, zI_lt, zI_eq, zI_ix, zI_inI, Int.toNat_natCast, Int.toNat_add, Int.toNat_mul, true_and, and_true]; omega), r_whole hF hk hn hf, zb_some]
          by_cases c2 : zwh F h gr f
          · rw [if_neg (by rw [zb_0]; exact not_not_intro c2), r_whole hF hk hn hgF, zb_some]
            by_cases c3 : zwh F h gr g
            · have n0g := hn 0 g (by decide) hgF
              have n0f := hn 0 f (by decide) hf
              rw [Nat.mul_zero, Nat.zero_add] at n0g n0f
              have n1g := hn 1 g (by decide) hgF
              have n1f := hn 1 f (by decide) hf
              rw [Nat.mul_one] at n1g n1f
              rw [if_neg (by rw [zb_0]; exact not_not_intro c3), zI_inI (by omega) (by omega) (by omega), zb_chk, zI_inI (by omega) (by omega) (by omega), zb_chk, n0g, n0f]
              by_cases c4 : zkn F h gr 0 g = zkn F h gr 0 f
              · rw [if_pos (by rw [c4]), zI_add, zI_inI (by omega) (by omega) (by omega), zb_chk, zI_add, zI_inI (by omega) (by omega) (by omega), zb_chk, zI_ix (by omega) (by omega), zI_ix (by omega) (by omega), show (20 + (g : Int)).toNat = 20 + g by omega, show (20 + (f : Int)).toNat = 20 + f by omega, n1g, n1f]
                by_cases c5 : zkn F h gr 1 g = zkn F h gr 1 f
                · rw [if_pos (by rw [c5]), zk_some]
                  refine hR _ ?_
                  show zOk (some (zI 1)) _
                  rw [zk_some, zb_t (p := zdsp F h gr sg f) (Or.inr ⟨g, hgF, c1, c2, c3, c4, c5⟩)]
                  rfl
                · rw [if_neg (by simp (disch := omega) only [zk_bind, zk_chk, zk_bnd, zk_some, zlp_l, zlp_r, zb_some, zb_bnd, zI_add, zI_sub, zI_mul, zI_neg, zI_le, zI_lt, zI_eq, zI_ix, zI_inI, Int.toNat_natCast, Int.toNat_add, Int.toNat_mul, true_and, and_true]; omega)]
                  exact skip (fun hh' => c5 hh'.2.2.2.2)
              · rw [if_neg (by simp (disch := omega) only [zk_bind, zk_chk, zk_bnd, zk_some, zlp_l, zlp_r, zb_some, zb_bnd, zI_add, zI_sub, zI_mul, zI_neg, zI_le, zI_lt, zI_eq, zI_ix, zI_inI, Int.toNat_natCast, Int.toNat_add, Int.toNat_mul, true_and, and_true]; omega)]
                exact skip (fun hh' => c4 hh'.2.2.2.1)
            · rw [if_pos (by rw [zb_0]; exact c3)]
              exact skip (fun hh' => c3 hh'.2.2.1)
          · rw [if_pos (by rw [zb_0]; exact c2)]
            exact skip (fun hh' => c2 hh'.2.1)
  · rintro x ⟨rfl, e1⟩
    refine ⟨.inl (), ?_, ?_⟩
    · unfold f_X12_isDisputed_L2
      rw [hF1, if_pos (by simp (disch := omega) only [zk_bind, zk_chk, zk_bnd, zk_some, zlp_l, zlp_r, zb_some, zb_bnd, zI_add, zI_sub, zI_mul, zI_neg, zI_le, zI_lt, zI_eq, zI_ix, zI_inI, Int.toNat_natCast, Int.toNat_add, Int.toNat_mul, true_and, and_true]; omega)]
    · show zOk (some (zI 0)) _
      rw [zk_some, zb_f (p := zdsp F h gr sg f) e1]
      rfl
theorem r_isSign {M : ZMem} {F : Nat} {sg : Nat → Nat} (hF : F ≤ 20) (hsg : ∀ f, f < F → M.1 11 f = zI (sg f)) (hsl : ∀ f, f < F → sg f < 20) {f : Nat} (hf : f < F) : f_X12_isSign M (zI f) = some (zI (zb (sg f = f))) := by
  have := hsl f hf
  unfold f_X12_isSign
  rw [zI_inI (by omega) (by omega) (by omega), zb_chk, zI_ix (by omega) (by omega), Int.toNat_natCast, hsg f hf]
  by_cases c : sg f = f
  · rw [if_pos (by rw [c]), zb_t c]; rfl
  · rw [if_neg (by simp (disch := omega) only [zk_bind, zk_chk, zk_bnd, zk_some, zlp_l, zlp_r, zb_some, zb_bnd, zI_add, zI_sub, zI_mul, zI_neg, zI_le, zI_lt, zI_eq, zI_ix, zI_inI, Int.toNat_natCast, Int.toNat_add, Int.toNat_mul, true_and, and_true]; omega), zb_f c]; rfl
noncomputable def zdspN (F : Nat) (h : Nat → Int) (gr : Nat → Nat → Nat) (sg : Nat → Nat) : Nat := zsum F (fun f => zb (sg f = f ∧ zdsp F h gr sg f))
theorem r_disputedMany {M : ZMem} {F : Nat} {h : Nat → Int} {gr : Nat → Nat → Nat} {sg : Nat → Nat} (hF : F ≤ 20) (hF1 : M.1 0 4 = zI F) (hk : okH F h) (hh : handR h M) (hsg : ∀ f, f < F → M.1 11 f = zI (sg f)) (hsl : ∀ f, f < F → sg f < 20) (hg : grpR F gr M) (hgl : ∀ kind f, f < F → gr kind f < 20) (hn : knR F h gr M) : f_X12_disputedMany M = some (zI (zdspN F h gr sg)) := by
  apply zOk_is
  unfold f_X12_disputedMany
  rw [zk_bind]
  refine zOk_forQ (fun f x => x = (zI (zsum f (fun f => zb (sg f = f ∧ zdsp F h gr sg f))), zI f)) F ?_ ?_ rfl
  · rintro f x hf rfl Q hQ _
    have key : ∀ v : Nat, v ≤ 1 → v = zb (sg f = f ∧ zdsp F h gr sg f) → zOk (f_X12_disputedMany_34_L4 M (zI f) (zI (zsum f (fun f => zb (sg f = f ∧ zdsp F h gr sg f)))) (zI v)) Q := by
      intro v hv1 hv
      unfold f_X12_disputedMany_34_L4
      rw [r_truth, zb_some, zk_bnd, zk_bnd, zk_some, zI_add]
      refine hQ _ (Prod.ext ?_ (zI_inj (by omega)))
      dsimp only
      rw [zsum_s, ← hv]
      by_cases h0 : v = 0
      · rw [if_pos (by rw [h0]; rfl), zI_add]; exact zI_inj (by omega)
      · rw [if_neg (by simp (disch := omega) only [zk_bind, zk_chk, zk_bnd, zk_some, zlp_l, zlp_r, zb_some, zb_bnd, zI_add, zI_sub, zI_mul, zI_neg, zI_le, zI_lt, zI_eq, zI_ix, zI_inI, Int.toNat_natCast, Int.toNat_add, Int.toNat_mul, true_and, and_true]; omega), zI_add]; exact zI_inj (by omega)
    unfold f_X12_disputedMany_L4 f_X12_disputedMany_33_L4
    dsimp only
    rw [hF1, if_neg (by simp (disch := omega) only [zk_bind, zk_chk, zk_bnd, zk_some, zlp_l, zlp_r, zb_some, zb_bnd, zI_add, zI_sub, zI_mul, zI_neg, zI_le, zI_lt, zI_eq, zI_ix, zI_inI, Int.toNat_natCast, Int.toNat_add, Int.toNat_mul, true_and, and_true]; omega), r_isSign hF hsg hsl hf, zb_some]
    by_cases c1 : sg f = f
    · rw [if_neg (by rw [zb_0]; exact not_not_intro c1), r_isDisputed hF hF1 hk hh hsg hsl hg hgl hn hf, zb_some]
      by_cases c2 : zdsp F h gr sg f
      · rw [if_neg (by rw [zb_0]; exact not_not_intro c2)]
        exact key 1 (by omega) (zb_t ⟨c1, c2⟩).symm
      · rw [if_pos (by rw [zb_0]; exact c2)]
        exact key 0 (by omega) (zb_f (fun hh' => c2 hh'.2)).symm
    · rw [if_pos (by rw [zb_0]; exact c1)]
      exact key 0 (by omega) (zb_f (fun hh' => c1 hh'.1)).symm
  · rintro x rfl
    refine ⟨zI (zdspN F h gr sg), ?_, ?_⟩
    · unfold f_X12_disputedMany_L4
      dsimp only
      rw [hF1, if_pos (by simp (disch := omega) only [zk_bind, zk_chk, zk_bnd, zk_some, zlp_l, zlp_r, zb_some, zb_bnd, zI_add, zI_sub, zI_mul, zI_neg, zI_le, zI_lt, zI_eq, zI_ix, zI_inI, Int.toNat_natCast, Int.toNat_add, Int.toNat_mul, true_and, and_true]; omega)]
      rfl
    · rw [zk_some]
theorem c_disputedSigns {M : ZMem} {F : Nat} {h : Nat → Int} {gr : Nat → Nat → Nat} {sg : Nat → Nat} (hF : F ≤ 20) (hv : valC F h gr sg M) : f_X9_disputedSigns M = some (zI (zdspN F h gr sg)) := by
  unfold f_X9_disputedSigns
  rw [zMk_pop (by decide) hv.2, zb_some]
  congr 2
  unfold zdspN
  rw [zsum_ext (m := F) (n := 20) hF (fun i h1 h2 => zb_f (fun hh => by omega))]
  exact congrArg _ (zsum_cg (fun i hi => zb_iff ⟨fun hh => hh.2, fun hh => ⟨hi, hh⟩⟩))
