/-! ===== what is known: the class ===== deps: 97.o.net -/
def zpt (kind : Nat) (v : Int) : Int := if kind = 0 then v / 5 else v % 5
theorem zpt_rng {kind : Nat} {v : Int} (h1 : 0 ≤ v) (h2 : v ≤ 49) : 0 ≤ zpt kind v ∧ zpt kind v ≤ 9 := by
  unfold zpt
  split <;> omega
/-- the first guess of a group c, of forms below i -/
noncomputable def zkc (h : Nat → Int) (gr : Nat → Nat) (kind c : Nat) : Nat → Int
  | 0 => -1
  | i + 1 => zif (zkc h gr kind c i = -1 ∧ h (4 + i) ≠ -1 ∧ gr i = c) (zpt kind (h (4 + i))) (zkc h gr kind c i)
noncomputable def zkn (F : Nat) (h : Nat → Int) (gr : Nat → Nat → Nat) (kind f : Nat) : Int := zkc h (gr kind) kind (gr kind f) F
def zwh (F : Nat) (h : Nat → Int) (gr : Nat → Nat → Nat) (f : Nat) : Prop := zkn F h gr 0 f ≠ -1 ∧ zkn F h gr 1 f ≠ -1
def zdsp (F : Nat) (h : Nat → Int) (gr : Nat → Nat → Nat) (sg : Nat → Nat) (f : Nat) : Prop := (∃ g kind, g < F ∧ kind < 2 ∧ h (4 + g) ≠ -1 ∧ gr kind g = gr kind f ∧ zpt kind (h (4 + g)) ≠ zkn F h gr kind f) ∨ (∃ g, g < F ∧ sg g ≠ sg f ∧ zwh F h gr f ∧ zwh F h gr g ∧ zkn F h gr 0 g = zkn F h gr 0 f ∧ zkn F h gr 1 g = zkn F h gr 1 f)
theorem zkc_rng {F : Nat} {h : Nat → Int} (hk : okH F h) (gr : Nat → Nat) (kind c : Nat) : ∀ i, i ≤ 20 → -1 ≤ zkc h gr kind c i ∧ zkc h gr kind c i ≤ 9
  | 0, _ => by show -1 ≤ (-1 : Int) ∧ (-1 : Int) ≤ 9; omega
  | i + 1, hi => by
    have ih := zkc_rng hk gr kind c i (by omega)
    show -1 ≤ zif _ _ _ ∧ zif _ _ _ ≤ 9
    by_cases hc : zkc h gr kind c i = -1 ∧ h (4 + i) ≠ -1 ∧ gr i = c
    · rw [zif_t hc]
      have o := hk.2.2.2.2.1 i (by omega)
      have := zpt_rng (kind := kind) (v := h (4 + i)) (by omega) (by omega)
      omega
    · rw [zif_f hc]
      exact ih
/-- the first one, said plainly -/
theorem zkc_fst {F : Nat} {h : Nat → Int} (hk : okH F h) (gr : Nat → Nat) (kind c : Nat) : ∀ i, i ≤ 20 → (zkc h gr kind c i = -1 ∧ ∀ g, g < i → ¬ (h (4 + g) ≠ -1 ∧ gr g = c)) ∨ ∃ g, g < i ∧ (h (4 + g) ≠ -1 ∧ gr g = c) ∧ zkc h gr kind c i = zpt kind (h (4 + g)) ∧ ∀ g', g' < g → ¬ (h (4 + g') ≠ -1 ∧ gr g' = c)
  | 0, _ => Or.inl ⟨rfl, fun g hg => absurd hg (Nat.not_lt_zero g)⟩
  | i + 1, hi => by
    have ih := zkc_fst hk gr kind c i (by omega)
    have hr := zkc_rng hk gr kind c i (by omega)
    show (zif _ _ _ = -1 ∧ _) ∨ ∃ g, g < i + 1 ∧ _ ∧ zif _ _ _ = _ ∧ _
    by_cases hc : zkc h gr kind c i = -1 ∧ h (4 + i) ≠ -1 ∧ gr i = c
    · rw [zif_t hc]
      right
      refine ⟨i, by omega, hc.2, rfl, ?_⟩
      rcases ih with ih | ⟨g, g1, g2, g3, g4⟩
      · exact ih.2
      · have o := hk.2.2.2.2.1 g (by omega)
        have := g2.1
        have := zpt_rng (kind := kind) (v := h (4 + g)) (by omega) (by omega)
        omega
    · rw [zif_f hc]
      rcases ih with ih | ⟨g, g1, g2, g3, g4⟩
      · left
        refine ⟨ih.1, fun g hg hh => ?_⟩
        by_cases he : g = i
        · rw [he] at hh
          exact hc ⟨ih.1, hh⟩
        · exact ih.2 g (by omega) hh
      · exact Or.inr ⟨g, by omega, g2, g3, g4⟩
theorem c_claim {q c : Nat} {M : ZMem} {u v : Int} (hc : c < 20) (hu : M.1 q c = zI u) (hu1 : -1 ≤ u) (hu2 : u ≤ 49) (hv1 : 0 ≤ v) (hv2 : v ≤ 49) : zOk (f_X9_claim q 20 M (zI c) (zI v)) (fun r => r.1.1 q c = zI (if u = -1 then v else u) ∧ zP (fun a k => a == q && k == c) M r.1 ∧ zMk r.2 20 (fun b => b = c ∧ u ≠ -1 ∧ u ≠ v)) := by
  unfold f_X9_claim
  rw [if_neg (by simp (disch := omega) only [zk_bind, zk_chk, zk_bnd, zk_some, zlp_l, zlp_r, zb_some, zb_bnd, zI_add, zI_sub, zI_mul, zI_neg, zI_le, zI_lt, zI_eq, zI_ix, zI_inI, Int.toNat_natCast, Int.toNat_add, Int.toNat_mul, true_and, and_true]; omega), if_pos (by simp (disch := omega) only [zk_bind, zk_chk, zk_bnd, zk_some, zlp_l, zlp_r, zb_some, zb_bnd, zI_add, zI_sub, zI_mul, zI_neg, zI_le, zI_lt, zI_eq, zI_ix, zI_inI, Int.toNat_natCast, Int.toNat_add, Int.toNat_mul, true_and, and_true]; omega), zI_inI (by omega) (by omega) (by omega), zb_chk, zI_ix (by omega) (by omega), Int.toNat_natCast, hu]
  by_cases c1 : u = -1
  · rw [if_pos (by rw [c1]), zb_chk, zk_bnd]
    unfold f_X9_claim_23
    rw [zI_inI (by omega) (by omega) (by omega), zb_chk, zI_ix (by omega) (by omega), Int.toNat_natCast, zm_Is, if_pos rfl, zk_some]
    exact ⟨by rw [zm_Is, if_pos c1], zP_I zP_rf (by simp), zMk_0 20 (fun b hb => hb.2.1 c1)⟩
  · rw [if_neg (by simp (disch := omega) only [zk_bind, zk_chk, zk_bnd, zk_some, zlp_l, zlp_r, zb_some, zb_bnd, zI_add, zI_sub, zI_mul, zI_neg, zI_le, zI_lt, zI_eq, zI_ix, zI_inI, Int.toNat_natCast, Int.toNat_add, Int.toNat_mul, true_and, and_true]; omega)]
    unfold f_X9_claim_23
    rw [zI_inI (by omega) (by omega) (by omega), zb_chk, zI_ix (by omega) (by omega), Int.toNat_natCast, hu]
    by_cases c2 : u = v
    · rw [if_pos (by rw [c2]), zk_some]
      exact ⟨by rw [hu, if_neg c1], zP_rf, zMk_0 20 (fun b hb => hb.2.2 c2)⟩
    · rw [if_neg (by simp (disch := omega) only [zk_bind, zk_chk, zk_bnd, zk_some, zlp_l, zlp_r, zb_some, zb_bnd, zI_add, zI_sub, zI_mul, zI_neg, zI_le, zI_lt, zI_eq, zI_ix, zI_inI, Int.toNat_natCast, Int.toNat_add, Int.toNat_mul, true_and, and_true]; omega), zk_some]
      exact ⟨by rw [hu, if_neg c1], zP_rf, zMk_cg (zMk_one hc (by decide)) (fun b => ⟨fun hh => ⟨hh, c1, c2⟩, fun hh => hh.1⟩)⟩
/-- labels of the class: of a sign, its group -/
def labC (F : Nat) (sg : Nat → Nat) (gr : Nat → Nat → Nat) (C : ZMem) : Prop := ∀ f, f < F → C.1 44 (sg f) = zI (gr 0 f) ∧ C.1 48 (sg f) = zI (gr 1 f)
def okG (F : Nat) (sg : Nat → Nat) (gr : Nat → Nat → Nat) : Prop := ∀ f, f < F → sg f ≤ f ∧ sg (sg f) = sg f ∧ ∀ kind, gr kind f ≤ f ∧ gr kind (sg f) = gr kind f
theorem c_isPlace5 {M : ZMem} {v : Nat} (hv : v < 20) : f_X5_isPlace M (zI v) = some (zI 1) := by
  unfold f_X5_isPlace
  rw [if_neg (by simp (disch := omega) only [zk_bind, zk_chk, zk_bnd, zk_some, zlp_l, zlp_r, zb_some, zb_bnd, zI_add, zI_sub, zI_mul, zI_neg, zI_le, zI_lt, zI_eq, zI_ix, zI_inI, Int.toNat_natCast, Int.toNat_add, Int.toNat_mul, true_and, and_true]; omega), if_neg (by simp (disch := omega) only [zk_bind, zk_chk, zk_bnd, zk_some, zlp_l, zlp_r, zb_some, zb_bnd, zI_add, zI_sub, zI_mul, zI_neg, zI_le, zI_lt, zI_eq, zI_ix, zI_inI, Int.toNat_natCast, Int.toNat_add, Int.toNat_mul, true_and, and_true]; omega)]
theorem c_isPlace9 {M : ZMem} {v : Nat} (hv : v < 20) : f_X9_isPlace M (zI v) = some (zI 1) := by
  unfold f_X9_isPlace
  rw [if_neg (by simp (disch := omega) only [zk_bind, zk_chk, zk_bnd, zk_some, zlp_l, zlp_r, zb_some, zb_bnd, zI_add, zI_sub, zI_mul, zI_neg, zI_le, zI_lt, zI_eq, zI_ix, zI_inI, Int.toNat_natCast, Int.toNat_add, Int.toNat_mul, true_and, and_true]; omega), if_neg (by simp (disch := omega) only [zk_bind, zk_chk, zk_bnd, zk_some, zlp_l, zlp_r, zb_some, zb_bnd, zI_add, zI_sub, zI_mul, zI_neg, zI_le, zI_lt, zI_eq, zI_ix, zI_inI, Int.toNat_natCast, Int.toNat_add, Int.toNat_mul, true_and, and_true]; omega)]
theorem c_labelOf {M : ZMem} {q v : Nat} (hv : v < 20) : f_X5_labelOf q M (zI v) = some (M.1 (q + 3) v) := by
  unfold f_X5_labelOf
  rw [c_isPlace5 hv, zb_some, if_neg (by decide), zI_inI (by omega) (by omega) (by omega), zb_chk, zI_ix (by omega) (by omega), Int.toNat_natCast]
def zdl (h : Nat → Int) (gr : Nat → Nat) (kind i c : Nat) : Prop := ∃ g, g < i ∧ h (4 + g) ≠ -1 ∧ gr g = c ∧ zpt kind (h (4 + g)) ≠ zkc h gr kind c i
def gthC (h : Nat → Int) (gr : Nat → Nat → Nat) (i : Nat) (C : ZMem) : Prop := (∀ c, c < 20 → C.1 52 c = zI (zkc h (gr 0) 0 c i) ∧ C.1 53 c = zI (zkc h (gr 1) 1 c i)) ∧ zMk (C.1 49 4) 20 (zdl h (gr 0) 0 i) ∧ zMk (C.1 49 5) 20 (zdl h (gr 1) 1 i)
def zWgth (a k : Nat) : Bool := a == 52 || a == 53 || (a == 49 && (k == 4 || k == 5))
theorem zkc_s {h : Nat → Int} {gr : Nat → Nat} {kind c i : Nat} (hn : ¬ (h (4 + i) ≠ -1 ∧ gr i = c)) : zkc h gr kind c (i + 1) = zkc h gr kind c i := by
  show zif _ _ _ = _
  rw [zif_f (fun hh => hn hh.2)]
theorem zdl_s {F : Nat} {h : Nat → Int} (hk : okH F h) {gr : Nat → Nat} {kind i : Nat} (hi : i < 20) (hg : h (4 + i) ≠ -1) (c : Nat) : zdl h gr kind (i + 1) c ↔ zdl h gr kind i c ∨ (c = gr i ∧ zkc h gr kind (gr i) i ≠ -1 ∧ zkc h gr kind (gr i) i ≠ zpt kind (h (4 + i))) := by
  by_cases hc : gr i = c
  · subst hc
    by_cases h1 : zkc h gr kind (gr i) i = -1
    · have e : zkc h gr kind (gr i) (i + 1) = zpt kind (h (4 + i)) := by
        show zif _ _ _ = _
        rw [zif_t ⟨h1, hg, rfl⟩]
      have hno : ∀ g, g < i → ¬ (h (4 + g) ≠ -1 ∧ gr g = gr i) := by
        rcases zkc_fst hk gr kind (gr i) i (by omega) with hh | ⟨g, g1, g2, g3, _⟩
        · exact hh.2
        · have o := hk.2.2.2.2.1 g (by omega)
          have := g2.1
          have := zpt_rng (kind := kind) (v := h (4 + g)) (by omega) (by omega)
          omega
      constructor
      · rintro ⟨g, g1, g2, g3, g4⟩
        by_cases he : g = i
        · rw [he, e] at g4
          exact absurd rfl g4
        · exact absurd ⟨g2, g3⟩ (hno g (by omega))
      · rintro (⟨g, g1, g2, g3, g4⟩ | hh)
        · exact absurd ⟨g2, g3⟩ (hno g g1)
        · exact absurd h1 hh.2.1
    · have e : zkc h gr kind (gr i) (i + 1) = zkc h gr kind (gr i) i := by
        show zif _ _ _ = _
        rw [zif_f (fun hh => h1 hh.1)]
      constructor
      · rintro ⟨g, g1, g2, g3, g4⟩
        rw [e] at g4
        by_cases he : g = i
        · rw [he] at g4
          exact Or.inr ⟨rfl, h1, Ne.symm g4⟩
        · exact Or.inl ⟨g, by omega, g2, g3, g4⟩
      · rintro (⟨g, g1, g2, g3, g4⟩ | hh)
        · exact ⟨g, by omega, g2, g3, by rw [e]; exact g4⟩
        · exact ⟨i, by omega, hg, rfl, by rw [e]; exact Ne.symm hh.2.2⟩
  · have e := zkc_s (kind := kind) (h := h) (gr := gr) (c := c) (i := i) (fun hh => hc hh.2)
    constructor
    · rintro ⟨g, g1, g2, g3, g4⟩
      rw [e] at g4
      by_cases he : g = i
      · rw [he] at g3
        exact absurd g3 hc
      · exact Or.inl ⟨g, by omega, g2, g3, g4⟩
    · rintro (⟨g, g1, g2, g3, g4⟩ | hh)
      · exact ⟨g, by omega, g2, g3, by rw [e]; exact g4⟩
      · exact absurd hh.1.symm hc
theorem zkc_upd {h : Nat → Int} {gr : Nat → Nat} {kind i : Nat} (hg : h (4 + i) ≠ -1) : (if zkc h gr kind (gr i) i = -1 then zpt kind (h (4 + i)) else zkc h gr kind (gr i) i) = zkc h gr kind (gr i) (i + 1) := by
  show _ = zif _ _ _
  by_cases h1 : zkc h gr kind (gr i) i = -1
  · rw [if_pos h1, zif_t ⟨h1, hg, rfl⟩]
  · rw [if_neg h1, zif_f (fun hh => h1 hh.1)]
theorem c_gather {M : ZMem} {F : Nat} {h : Nat → Int} {sg : Nat → Nat} {gr : Nat → Nat → Nat} (hF : F ≤ 20) (hF1 : M.1 3 7 = zI F) (hsg : ∀ f, f < F → M.1 9 f = zI (sg f)) (hG : okG F sg gr) (hk : okH F h) (hgs : ∀ f, f < 20 → M.1 26 f = zI (h (4 + f))) (hL : labC F sg gr M) : zOk (f_X9_gatherGuesses M) (fun M' => gthC h gr F M' ∧ zP zWgth M M') := by
  unfold f_X9_gatherGuesses
  rw [zk_bind]
  refine zOk_mono (zp_fill 52 20 (by decide) _ _) (fun M1 h1 => ?_)
  rw [zk_bind]
  refine zOk_mono (zp_fill 53 20 (by decide) _ _) (fun M2 h2 => ?_)
  obtain ⟨h1a, h1b, h1c, h1d⟩ := h1
  obtain ⟨h2a, h2b, h2c, h2d⟩ := h2
  rw [zk_bnd, zk_bnd, zk_bind]
  refine zOk_forQ (fun i x => x.2 = zI i ∧ zP zWgth M x.1 ∧ gthC h gr i x.1) F ?_ ?_ ⟨rfl, zP_I (zP_I ⟨fun a k ha => ?_, by rw [h2d, h1d]⟩ rfl) rfl, fun c hc => ⟨?_, ?_⟩, ?_, ?_⟩
  · rintro i ⟨x1, x2⟩ hi ⟨e1, e2, e3⟩ Q hQ _
    dsimp only at e1 e2 e3
    obtain ⟨o1, o2, o3⟩ := hk.2.2.2.2.1 i (by omega)
    obtain ⟨g1, g2, g3⟩ := hG i hi
    have g30 := g3 0
    have g31 := g3 1
    have hg : ∀ f, f < F → x1.1 9 f = zI (sg f) := fun f hf => by rw [e2.1 9 f rfl]; exact hsg f hf
    unfold f_X9_gatherGuesses_L29 f_X0_told f_X1_guessOf
    dsimp only
    rw [zb_some, e2.1 3 7 rfl, hF1, e1, if_neg (by simp (disch := omega) only [zk_bind, zk_chk, zk_bnd, zk_some, zlp_l, zlp_r, zb_some, zb_bnd, zI_add, zI_sub, zI_mul, zI_neg, zI_le, zI_lt, zI_eq, zI_ix, zI_inI, Int.toNat_natCast, Int.toNat_add, Int.toNat_mul, true_and, and_true]; omega), if_neg (by simp (disch := omega) only [zk_bind, zk_chk, zk_bnd, zk_some, zlp_l, zlp_r, zb_some, zb_bnd, zI_add, zI_sub, zI_mul, zI_neg, zI_le, zI_lt, zI_eq, zI_ix, zI_inI, Int.toNat_natCast, Int.toNat_add, Int.toNat_mul, true_and, and_true]; omega), if_neg (by simp (disch := omega) only [zk_bind, zk_chk, zk_bnd, zk_some, zlp_l, zlp_r, zb_some, zb_bnd, zI_add, zI_sub, zI_mul, zI_neg, zI_le, zI_lt, zI_eq, zI_ix, zI_inI, Int.toNat_natCast, Int.toNat_add, Int.toNat_mul, true_and, and_true]; omega), zI_inI (by omega) (by omega) (by omega), zb_chk, zI_ix (by omega) (by omega), Int.toNat_natCast, zb_some, e2.1 26 i rfl, hgs i (by omega)]
    by_cases hgz : h (4 + i) = -1
    · rw [if_pos (by rw [hgz]), zk_bnd, zk_some, zI_add]
      have es : ∀ kind c, zkc h (gr kind) kind c (i + 1) = zkc h (gr kind) kind c i := fun kind c => zkc_s (fun hh => hh.1 hgz)
      have ed : ∀ kind c, zdl h (gr kind) kind i c ↔ zdl h (gr kind) kind (i + 1) c := by
        intro kind c
        constructor
        · rintro ⟨g, a1, a2, a3, a4⟩
          exact ⟨g, by omega, a2, a3, by rw [es]; exact a4⟩
        · rintro ⟨g, a1, a2, a3, a4⟩
          rw [es] at a4
          by_cases he : g = i
          · rw [he] at a2
            exact absurd hgz a2
          · exact ⟨g, by omega, a2, a3, a4⟩
      exact hQ _ ⟨zI_inj (by omega), e2, fun c hc => by rw [es, es]; exact e3.1 c hc, zMk_cg e3.2.1 (ed 0), zMk_cg e3.2.2 (ed 1)⟩
    · have p0 := zpt_rng (kind := 0) (v := h (4 + i)) (by omega) (by omega)
      have p1 := zpt_rng (kind := 1) (v := h (4 + i)) (by omega) (by omega)
      have r0 := zkc_rng hk (gr 0) 0 (gr 0 i) i (by omega)
      have r1 := zkc_rng hk (gr 1) 1 (gr 1 i) i (by omega)
      obtain ⟨l0, l1⟩ := hL i hi
      rw [if_neg (by simp (disch := omega) only [zk_bind, zk_chk, zk_bnd, zk_some, zlp_l, zlp_r, zb_some, zb_bnd, zI_add, zI_sub, zI_mul, zI_neg, zI_le, zI_lt, zI_eq, zI_ix, zI_inI, Int.toNat_natCast, Int.toNat_add, Int.toNat_mul, true_and, and_true]; omega), c_signOfN ((e2.1 3 7 rfl).trans hF1) hF hg hi, zb_some, c_labelOf (by omega), zb_some, e2.1 44 _ rfl, l0, zI_rem (by omega) (by omega) (by omega) (by omega), show h (4 + i) % 5 = zpt 1 (h (4 + i)) from rfl, zI_div (by omega) (by omega) (by omega) (by omega), show h (4 + i) / 5 = zpt 0 (h (4 + i)) from rfl, zk_bind]
      refine zOk_mono (c_claim (by omega) (e3.1 _ (by omega)).1 (by omega) (by omega) (by omega) (by omega)) (fun r hr => ?_)
      obtain ⟨q1, q2, q3⟩ := hr
      rw [zk_bnd, c_labelOf (by omega), zb_some]
      have z2 : zP zWgth M r.1 := zP_tr e2 (zP_mono q2 (fun a k ha => by unfold zWgth at ha; simp at ha ⊢; omega))
      have w1 : zP zWgth M (zstI r.1 49 4 (x1.1 49 4 ||| r.2)) := zP_I z2 rfl
      have w2 : ∀ c, c < 20 → (zstI r.1 49 4 (x1.1 49 4 ||| r.2)).1 52 c = zI (zkc h (gr 0) 0 c (i + 1)) := by
        intro c hc
        rw [zm_Iq _ _ _ _ (by decide)]
        by_cases he : c = gr 0 i
        · rw [he, q1, zkc_upd hgz]
        · rw [q2.1 52 c (by simp; omega), (e3.1 c hc).1, zkc_s (fun hh => he hh.2.symm)]
      have w3 : ∀ c, (zstI r.1 49 4 (x1.1 49 4 ||| r.2)).1 53 c = x1.1 53 c := fun c => by rw [zm_Iq _ _ _ _ (by decide), q2.1 53 c (by simp)]
      have w4 : zMk ((zstI r.1 49 4 (x1.1 49 4 ||| r.2)).1 49 4) 20 (zdl h (gr 0) 0 (i + 1)) := by
        rw [zm_Is]
        refine zMk_cg (zMk_oo (by decide) e3.2.1 q3) (fun b => ?_)
        rw [zdl_s hk (by omega) hgz]
      have w5 : (zstI r.1 49 4 (x1.1 49 4 ||| r.2)).1 49 5 = x1.1 49 5 := by rw [zm_In _ _ _ _ (by decide), q2.1 49 5 (by simp)]
      generalize zstI r.1 49 4 (x1.1 49 4 ||| r.2) = N at w1 w2 w3 w4 w5 ⊢
      rw [w1.1 48 _ rfl, l1, zk_bind]
      refine zOk_mono (c_claim (by omega) ((w3 _).trans (e3.1 _ (by omega)).2) (by omega) (by omega) (by omega) (by omega)) (fun r' hr' => ?_)
      obtain ⟨q4, q5, q6⟩ := hr'
      rw [zk_bnd, zk_bnd, zk_some, zI_add]
      refine hQ _ ⟨zI_inj (by omega), zP_I (zP_tr w1 (zP_mono q5 (fun a k ha => by unfold zWgth at ha; simp at ha ⊢; omega))) rfl, fun c hc => ⟨?_, ?_⟩, ?_, ?_⟩
      · rw [zm_Iq _ _ _ _ (by decide), q5.1 52 c (by simp), w2 c hc]
      · rw [zm_Iq _ _ _ _ (by decide)]
        by_cases he : c = gr 1 i
        · rw [he, q4, zkc_upd hgz]
        · rw [q5.1 53 c (by simp; omega), w3, (e3.1 c hc).2, zkc_s (fun hh => he hh.2.symm)]
      · rw [zm_In _ _ _ _ (by decide), q5.1 49 4 (by simp)]
        exact w4
      · rw [zm_Is, w5]
        refine zMk_cg (zMk_oo (by decide) e3.2.2 q6) (fun b => ?_)
        rw [zdl_s hk (by omega) hgz]
  · rintro ⟨x1, x2⟩ ⟨e1, e2, e3⟩
    dsimp only at e1 e2 e3
    refine ⟨x1, ?_, ?_⟩
    · unfold f_X9_gatherGuesses_L29 f_X0_told
      dsimp only
      rw [zb_some, e2.1 3 7 rfl, hF1, e1, if_pos (by simp (disch := omega) only [zk_bind, zk_chk, zk_bnd, zk_some, zlp_l, zlp_r, zb_some, zb_bnd, zI_add, zI_sub, zI_mul, zI_neg, zI_le, zI_lt, zI_eq, zI_ix, zI_inI, Int.toNat_natCast, Int.toNat_add, Int.toNat_mul, true_and, and_true]; omega)]
    · rw [zk_some]
      exact ⟨e3, e2⟩
  · unfold zWgth at ha
    simp at ha
    rw [h2c a (by omega), h1c a (by omega)]
  · rw [zm_Iq _ _ _ _ (by decide), zm_Iq _ _ _ _ (by decide), h2c 52 (by decide), h1a c hc]; rfl
  · rw [zm_Iq _ _ _ _ (by decide), zm_Iq _ _ _ _ (by decide), h2a c hc]; rfl
  · rw [zm_In _ _ _ _ (by decide), zm_Is]
    exact zMk_0 20 (fun b ⟨g, hg, _⟩ => absurd hg (Nat.not_lt_zero g))
  · rw [zm_Is]
    exact zMk_0 20 (fun b ⟨g, hg, _⟩ => absurd hg (Nat.not_lt_zero g))
