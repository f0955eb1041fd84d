/-! ===== values of the class ===== deps: 97.p.known -/
noncomputable def zkv (F : Nat) (h : Nat → Int) (gr : Nat → Nat → Nat) (sg : Nat → Nat) (kind s : Nat) : Int := zif (s < F ∧ sg s = s) (zkn F h gr kind s) (-1)
def valC (F : Nat) (h : Nat → Int) (gr : Nat → Nat → Nat) (sg : Nat → Nat) (C : ZMem) : Prop := (∀ s, s < 20 → C.1 50 s = zI (zkv F h gr sg 0 s) ∧ C.1 51 s = zI (zkv F h gr sg 1 s)) ∧ zMk (C.1 49 6) 20 (fun s => s < F ∧ sg s = s ∧ zdsp F h gr sg s)
theorem c_isSign {M : ZMem} {F : Nat} {sg : Nat → Nat} (hF : F ≤ 20) (hF1 : M.1 3 7 = zI F) (hsg : ∀ f, f < F → M.1 9 f = zI (sg f)) (hsl : ∀ f, f < F → sg f < 20) {a : Nat} (ha : a < 2147483648) : f_X0_isSign M (zI a) = some (zI (zb (a < F ∧ sg a = a))) := by
  unfold f_X0_isSign
  rw [c_has hF1 hF a (by omega) (by omega), zb_some]
  by_cases h1 : a < F
  · have := hsl a h1
    rw [if_neg (by rw [zb_0]; omega), zI_inI (by omega) (by omega) (by omega), zb_chk, zI_ix (by omega) (by omega), Int.toNat_natCast, hsg a h1]
    by_cases h2 : sg a = a
    · rw [if_pos (by rw [h2]), zb_t ⟨h1, h2⟩]; rfl
    · rw [if_neg (by simp (disch := omega) only [zk_bind, zk_chk, zk_bnd, zk_some, zlp_l, zlp_r, zb_some, zb_bnd, zI_add, zI_sub, zI_mul, zI_neg, zI_le, zI_lt, zI_eq, zI_ix, zI_inI, Int.toNat_natCast, Int.toNat_add, Int.toNat_mul, true_and, and_true]; omega), zb_f (fun hh => h2 hh.2)]; rfl
  · rw [if_pos (by rw [zb_0]; omega), zb_f (fun hh => h1 hh.1)]; rfl
theorem zkn_rng {F : Nat} {h : Nat → Int} (hF : F ≤ 20) (hk : okH F h) (gr : Nat → Nat → Nat) (kind f : Nat) : -1 ≤ zkn F h gr kind f ∧ zkn F h gr kind f ≤ 9 := zkc_rng hk (gr kind) kind (gr kind f) F hF
theorem zkv_rng {F : Nat} {h : Nat → Int} (hF : F ≤ 20) (hk : okH F h) (gr : Nat → Nat → Nat) (sg : Nat → Nat) (kind f : Nat) : -1 ≤ zkv F h gr sg kind f ∧ zkv F h gr sg kind f ≤ 9 := by
  unfold zkv
  by_cases hc : f < F ∧ sg f = f
  · rw [zif_t hc]; exact zkn_rng hF hk gr kind f
  · rw [zif_f hc]; omega
def zpr (F : Nat) (h : Nat → Int) (gr : Nat → Nat → Nat) (sg : Nat → Nat) (x y : Nat) : Prop := zkv F h gr sg 0 x ≠ -1 ∧ zkv F h gr sg 1 x ≠ -1 ∧ zkv F h gr sg 0 x = zkv F h gr sg 0 y ∧ zkv F h gr sg 1 x = zkv F h gr sg 1 y
theorem zkn_sg {F : Nat} {h : Nat → Int} {gr : Nat → Nat → Nat} {sg : Nat → Nat} (hG : okG F sg gr) {kind f : Nat} (hf : f < F) : zkn F h gr kind (sg f) = zkn F h gr kind f := by
  unfold zkn
  rw [((hG f hf).2.2 kind).2]
/-- disputed, as the class has it -/
theorem zdsp_iff {F : Nat} {h : Nat → Int} {gr : Nat → Nat → Nat} {sg : Nat → Nat} (hF : F ≤ 20) (hG : okG F sg gr) (b : Nat) : ((b < F ∧ sg b = b ∧ (zdl h (gr 0) 0 F (gr 0 b) ∨ zdl h (gr 1) 1 F (gr 1 b))) ∨ ∃ x y, x < y ∧ y < 20 ∧ zpr F h gr sg x y ∧ (b = x ∨ b = y)) ↔ (b < F ∧ sg b = b ∧ zdsp F h gr sg b) := by
  have hv : ∀ kind s, zkv F h gr sg kind s ≠ -1 → (s < F ∧ sg s = s) ∧ zkv F h gr sg kind s = zkn F h gr kind s := by
    intro kind s hs
    unfold zkv at hs ⊢
    by_cases hc : s < F ∧ sg s = s
    · exact ⟨hc, zif_t hc _ _⟩
    · rw [zif_f hc] at hs
      exact absurd rfl hs
  have hv2 : ∀ kind s, s < F → sg s = s → zkv F h gr sg kind s = zkn F h gr kind s := fun kind s h1 h2 => zif_t ⟨h1, h2⟩ _ _
  constructor
  · rintro (⟨h1, h2, h3⟩ | ⟨x, y, h1, h2, h3, h4⟩)
    · refine ⟨h1, h2, Or.inl ?_⟩
      rcases h3 with ⟨g, g1, g2, g3, g4⟩ | ⟨g, g1, g2, g3, g4⟩
      · exact ⟨g, 0, g1, by omega, g2, g3, g4⟩
      · exact ⟨g, 1, g1, by omega, g2, g3, g4⟩
    · obtain ⟨p1, p2, p3, p4⟩ := h3
      obtain ⟨a1, a2⟩ := hv 0 x p1
      obtain ⟨_, a3⟩ := hv 1 x p2
      obtain ⟨b1, b2⟩ := hv 0 y (by rw [← p3]; exact p1)
      obtain ⟨_, b3⟩ := hv 1 y (by rw [← p4]; exact p2)
      rw [a2] at p1 p3
      rw [a3] at p2 p4
      rw [b2] at p3
      rw [b3] at p4
      rcases h4 with rfl | rfl
      · exact ⟨a1.1, a1.2, Or.inr ⟨y, b1.1, by rw [b1.2, a1.2]; omega, ⟨p1, p2⟩, ⟨by rw [← p3]; exact p1, by rw [← p4]; exact p2⟩, p3.symm, p4.symm⟩⟩
      · exact ⟨b1.1, b1.2, Or.inr ⟨x, a1.1, by rw [b1.2, a1.2]; omega, ⟨by rw [← p3]; exact p1, by rw [← p4]; exact p2⟩, ⟨p1, p2⟩, p3, p4⟩⟩
  · rintro ⟨h1, h2, h3 | ⟨g, g1, g2, g3, g4, g5, g6⟩⟩
    · obtain ⟨g, kind, g1, g2, g3, g4, g5⟩ := h3
      left
      refine ⟨h1, h2, ?_⟩
      by_cases hk : kind = 0
      · subst hk
        exact Or.inl ⟨g, g1, g3, g4, g5⟩
      · have : kind = 1 := by omega
        subst this
        exact Or.inr ⟨g, g1, g3, g4, g5⟩
    · right
      have s1 := hG g g1
      have e0 := zkn_sg (h := h) (kind := 0) hG g1
      have e1 := zkn_sg (h := h) (kind := 1) hG g1
      have v0 := hv2 0 (sg g) (by omega) s1.2.1
      have v1 := hv2 1 (sg g) (by omega) s1.2.1
      have w0 := hv2 0 b h1 h2
      have w1 := hv2 1 b h1 h2
      rw [h2] at g2
      rcases Nat.lt_or_gt_of_ne g2 with hlt | hgt
      · refine ⟨sg g, b, hlt, by omega, ⟨?_, ?_, ?_, ?_⟩, Or.inr rfl⟩
        · rw [v0, e0]; exact g4.1
        · rw [v1, e1]; exact g4.2
        · rw [v0, w0, e0]; exact g5
        · rw [v1, w1, e1]; exact g6
      · refine ⟨b, sg g, hgt, by omega, ⟨?_, ?_, ?_, ?_⟩, Or.inl rfl⟩
        · rw [w0]; exact g3.1
        · rw [w1]; exact g3.2
        · rw [v0, w0, e0]; exact g5.symm
        · rw [v1, w1, e1]; exact g6.symm
def zWval (a k : Nat) : Bool := zWgth a k || a == 50 || a == 51 || (a == 49 && k == 6)
theorem c_valSettle {M : ZMem} {F : Nat} {h : Nat → Int} {sg : Nat → Nat} {gr : Nat → Nat → Nat} (hF : F ≤ 20) (hF1 : M.1 3 7 = zI F) (hsg : ∀ f, f < F → M.1 9 f = zI (sg f)) (hG : okG F sg gr) (hk : okH F h) (hgs : ∀ f, f < 20 → M.1 26 f = zI (h (4 + f))) (hL : labC F sg gr M) : zOk (f_X9_settle M) (fun M' => valC F h gr sg M' ∧ zP zWval M M') := by
  have hsl : ∀ f, f < F → sg f < 20 := fun f hf => by have := (hG f hf).1; omega
  unfold f_X9_settle
  rw [zk_bind]
  refine zOk_mono (c_gather hF hF1 hsg hG hk hgs hL) (fun M0 h0 => ?_)
  rw [zk_bind]
  refine zOk_mono (zp_fill 50 20 (by decide) _ _) (fun M1 h1 => ?_)
  rw [zk_bind]
  refine zOk_mono (zp_fill 51 20 (by decide) _ _) (fun M2 h2 => ?_)
  obtain ⟨h0a, h0b⟩ := h0
  obtain ⟨h1a, h1b, h1c, h1d⟩ := h1
  obtain ⟨h2a, h2b, h2c, h2d⟩ := h2
  have hv2 : ∀ kind s, s < F → sg s = s → zkv F h gr sg kind s = zkn F h gr kind s := fun kind s h1 h2 => zif_t ⟨h1, h2⟩ _ _
  have hv3 : ∀ kind s, ¬ (s < F ∧ sg s = s) → zkv F h gr sg kind s = -1 := fun kind s h1 => zif_f h1 _ _
  rw [zk_bnd, zk_bind]
  have hp2 : zP (fun a k => a == 50 || a == 51 || (a == 49 && k == 6)) M0 (zstI M2 49 6 (zI 0)) := by
    refine zP_I ⟨fun a k ha => ?_, by rw [h2d, h1d]⟩ rfl
    simp at ha
    rw [h2c a (by omega), h1c a (by omega)]
  refine zOk_forQ (fun i x => x.2 = zI i ∧ zP (fun a k => a == 50 || a == 51 || (a == 49 && k == 6)) M0 x.1 ∧ (∀ s, s < 20 → x.1.1 50 s = zI (if s < i then zkv F h gr sg 0 s else -1) ∧ x.1.1 51 s = zI (if s < i then zkv F h gr sg 1 s else -1)) ∧ zMk (x.1.1 49 6) 20 (fun s => s < i ∧ s < F ∧ sg s = s ∧ (zdl h (gr 0) 0 F (gr 0 s) ∨ zdl h (gr 1) 1 F (gr 1 s)))) 20 ?_ ?_ ⟨rfl, hp2, fun s hs => ⟨?_, ?_⟩, ?_⟩
  · rintro i ⟨x1, x2⟩ hi ⟨e1, e2, e3, e4⟩ Q hQ _
    dsimp only at e1 e2 e3 e4
    have hf1 : x1.1 3 7 = zI F := by rw [e2.1 3 7 rfl, h0b.1 3 7 rfl]; exact hF1
    have hg : ∀ f, f < F → x1.1 9 f = zI (sg f) := fun f hf => by rw [e2.1 9 f rfl, h0b.1 9 f rfl]; exact hsg f hf
    unfold f_X9_settle_L33
    dsimp only
    rw [e1, if_neg (by simp (disch := omega) only [zk_bind, zk_chk, zk_bnd, zk_some, zlp_l, zlp_r, zb_some, zb_bnd, zI_add, zI_sub, zI_mul, zI_neg, zI_le, zI_lt, zI_eq, zI_ix, zI_inI, Int.toNat_natCast, Int.toNat_add, Int.toNat_mul, true_and, and_true]; omega), c_isSign hF hf1 hg hsl (by omega), zb_some]
    by_cases hs : i < F ∧ sg i = i
    · obtain ⟨g1, g2, g3⟩ := hG i hs.1
      have g30 := (g3 0).1
      have g31 := (g3 1).1
      obtain ⟨l0, l1⟩ := hL i hs.1
      rw [hs.2] at l0 l1
      have l0' : x1.1 44 i = zI (gr 0 i) := by rw [e2.1 44 i rfl, h0b.1 44 i rfl]; exact l0
      have l1' : x1.1 48 i = zI (gr 1 i) := by rw [e2.1 48 i rfl, h0b.1 48 i rfl]; exact l1
      have m4 : zMk (x1.1 49 4) 20 (zdl h (gr 0) 0 F) := by rw [e2.1 49 4 rfl]; exact h0a.2.1
      have m5 : zMk (x1.1 49 5) 20 (zdl h (gr 1) 1 F) := by rw [e2.1 49 5 rfl]; exact h0a.2.2
      have k52 : x1.1 52 (gr 0 i) = zI (zkv F h gr sg 0 i) := by rw [e2.1 52 _ rfl, (h0a.1 _ (by omega)).1, hv2 0 i hs.1 hs.2]; rfl
      have k53 : x1.1 53 (gr 1 i) = zI (zkv F h gr sg 1 i) := by rw [e2.1 53 _ rfl, (h0a.1 _ (by omega)).2, hv2 1 i hs.1 hs.2]; rfl
      have k53' : ∀ v, (zstI x1 50 i v).1 53 (gr 1 i) = zI (zkv F h gr sg 1 i) := fun v => by rw [zm_Iq _ _ _ _ (by decide), k53]
      rw [if_neg (by rw [zb_0]; exact not_not_intro hs), c_labelOf (by omega), c_labelOf (by omega), zb_some, zb_some, l0', l1']
      unfold f_X9_spread
      rw [c_isPlace9 (by omega), c_isPlace9 (by omega), c_isPlace9 (by omega), zb_some, if_neg (by decide), zb_some, if_neg (by decide), zb_some, if_neg (by decide), zI_inI (by omega) (by omega) (by omega), zb_chk, zI_inI (by omega) (by omega) (by omega), zb_chk, zb_bnd, zI_inI (by omega) (by omega) (by omega), zb_chk, zb_chk, zb_bnd, zI_ix (by omega) (by omega), zI_ix (by omega) (by omega), zI_ix (by omega) (by omega), Int.toNat_natCast, Int.toNat_natCast, Int.toNat_natCast, k52, k53']
      have w0 : zP (fun a k => a == 50 || a == 51 || (a == 49 && k == 6)) M0 (zstI (zstI x1 50 i (zI (zkv F h gr sg 0 i))) 51 i (zI (zkv F h gr sg 1 i))) := zP_I (zP_I e2 rfl) rfl
      have w1 : ∀ s, s < 20 → (zstI (zstI x1 50 i (zI (zkv F h gr sg 0 i))) 51 i (zI (zkv F h gr sg 1 i))).1 50 s = zI (if s < i + 1 then zkv F h gr sg 0 s else -1) ∧ (zstI (zstI x1 50 i (zI (zkv F h gr sg 0 i))) 51 i (zI (zkv F h gr sg 1 i))).1 51 s = zI (if s < i + 1 then zkv F h gr sg 1 s else -1) := by
        intro s hs'
        by_cases he : s = i
        · rw [he, if_pos (by omega), if_pos (by omega)]
          exact ⟨by rw [zm_Iq _ _ _ _ (by decide), zm_Is], by rw [zm_Is]⟩
        · rw [zm_Iq _ _ _ _ (by decide), zm_In _ _ _ _ he, zm_In _ _ _ _ he, zm_Iq _ _ _ _ (by decide), (e3 s hs').1, (e3 s hs').2]
          by_cases hl : s < i
          · rw [if_pos hl, if_pos hl, if_pos (show s < i + 1 by omega), if_pos (show s < i + 1 by omega)]; exact ⟨rfl, rfl⟩
          · rw [if_neg hl, if_neg hl, if_neg (show ¬ s < i + 1 by omega), if_neg (show ¬ s < i + 1 by omega)]; exact ⟨rfl, rfl⟩
      have w2 : (zstI (zstI x1 50 i (zI (zkv F h gr sg 0 i))) 51 i (zI (zkv F h gr sg 1 i))).1 49 = x1.1 49 := by rw [zm_Iq _ _ _ _ (by decide), zm_Iq _ _ _ _ (by decide)]
      generalize zstI (zstI x1 50 i (zI (zkv F h gr sg 0 i))) 51 i (zI (zkv F h gr sg 1 i)) = N at w0 w1 w2 ⊢
      rw [w2, zMk_bit (by decide) m4 (by omega), zMk_bit (by decide) m5 (by omega)]
      have hit : (zdl h (gr 0) 0 F (gr 0 i) ∨ zdl h (gr 1) 1 F (gr 1 i)) → zOk (zbind (f_X9_spread_70 N (zI i)) (fun M_65 => zbnd (zI i + zI 1) (fun x5_68 => (some (.inl (M_65, x5_68)) : Option ((ZMem × Int32) ⊕ ZMem))))) Q := by
        intro hd
        unfold f_X9_spread_70
        rw [zb_bnd, zb_some, zk_bnd, zk_some, zI_add]
        refine hQ _ ⟨zI_inj (by omega), zP_I w0 rfl, fun s hs' => by rw [zm_Iq _ _ _ _ (by decide), zm_Iq _ _ _ _ (by decide)]; exact w1 s hs', ?_⟩
        rw [zm_Is, w2]
        refine zMk_cg (zMk_or (by decide) e4 hi) (fun b => ⟨?_, ?_⟩)
        · rintro (hb | rfl)
          · exact ⟨by omega, hb.2⟩
          · exact ⟨by omega, hs.1, hs.2, hd⟩
        · rintro ⟨b1, b2⟩
          by_cases he : b = i
          · exact Or.inr he
          · exact Or.inl ⟨by omega, b2⟩
      by_cases c1 : zdl h (gr 0) 0 F (gr 0 i)
      · rw [if_pos (by rw [zb_1]; exact c1)]
        exact hit (Or.inl c1)
      · rw [if_neg (by rw [zb_1]; exact c1)]
        by_cases c2 : zdl h (gr 1) 1 F (gr 1 i)
        · rw [if_pos (by rw [zb_1]; exact c2)]
          exact hit (Or.inr c2)
        · rw [if_neg (by rw [zb_1]; exact c2), zb_some, zk_bnd, zk_some, zI_add]
          refine hQ _ ⟨zI_inj (by omega), w0, w1, ?_⟩
          rw [w2]
          refine zMk_cg e4 (fun b => ⟨fun hb => ⟨by omega, hb.2⟩, fun hb => ⟨?_, hb.2⟩⟩)
          by_cases he : b = i
          · rw [he] at hb
            exact (hb.2.2.2.elim c1 c2).elim
          · omega
    · rw [if_pos (by rw [zb_0]; exact hs), zk_bnd, zk_some, zI_add]
      refine hQ _ ⟨zI_inj (by omega), e2, fun s hs' => ?_, zMk_cg e4 (fun b => ⟨fun hb => ⟨by omega, hb.2⟩, fun hb => ⟨?_, hb.2⟩⟩)⟩
      · rw [(e3 s hs').1, (e3 s hs').2]
        by_cases he : s = i
        · rw [he, if_neg (Nat.lt_irrefl i), if_neg (Nat.lt_irrefl i), if_pos (Nat.lt_succ_self i), if_pos (Nat.lt_succ_self i), hv3 0 i hs, hv3 1 i hs]; exact ⟨rfl, rfl⟩
        · by_cases hl : s < i
          · rw [if_pos hl, if_pos hl, if_pos (show s < i + 1 by omega), if_pos (show s < i + 1 by omega)]; exact ⟨rfl, rfl⟩
          · rw [if_neg hl, if_neg hl, if_neg (show ¬ s < i + 1 by omega), if_neg (show ¬ s < i + 1 by omega)]; exact ⟨rfl, rfl⟩
      · by_cases he : b = i
        · rw [he] at hb
          exact absurd ⟨hb.2.1, hb.2.2.1⟩ hs
        · omega
  · rintro ⟨x1, x2⟩ ⟨e1, e2, e3, e4⟩
    dsimp only at e1 e2 e3 e4
    have e3' : ∀ s, s < 20 → x1.1 50 s = zI (zkv F h gr sg 0 s) ∧ x1.1 51 s = zI (zkv F h gr sg 1 s) := fun s hs => by have := e3 s hs; rwa [if_pos hs, if_pos hs] at this
    refine ⟨x1, ?_, ?_⟩
    · unfold f_X9_settle_L33
      dsimp only
      rw [e1, if_pos (by simp (disch := omega) only [zk_bind, zk_chk, zk_bnd, zk_some, zlp_l, zlp_r, zb_some, zb_bnd, zI_add, zI_sub, zI_mul, zI_neg, zI_le, zI_lt, zI_eq, zI_ix, zI_inI, Int.toNat_natCast, Int.toNat_add, Int.toNat_mul, true_and, and_true]; omega)]
    · rw [zk_bind]
      refine zOk_forQ (fun i x => x.2 = zI i ∧ zP (fun a k => a == 49 && k == 6) x1 x.1 ∧ zMk (x.1.1 49 6) 20 (fun b => (b < F ∧ sg b = b ∧ (zdl h (gr 0) 0 F (gr 0 b) ∨ zdl h (gr 1) 1 F (gr 1 b))) ∨ ∃ x y, x < y ∧ y < 20 ∧ x < i ∧ zpr F h gr sg x y ∧ (b = x ∨ b = y))) 20 ?_ ?_ ⟨rfl, zP_rf, zMk_cg e4 (fun b => ⟨fun hb => Or.inl hb.2, fun hb => hb.elim (fun hb => ⟨by omega, hb⟩) (fun ⟨x, y, _, _, hx, _⟩ => absurd hx (Nat.not_lt_zero x))⟩)⟩
      · rintro i ⟨y1, y2⟩ hi ⟨d1, d2, d3⟩ Q hQ _
        dsimp only at d1 d2 d3
        unfold f_X9_settle_L77
        dsimp only
        rw [d1, if_neg (by simp (disch := omega) only [zk_bind, zk_chk, zk_bnd, zk_some, zlp_l, zlp_r, zb_some, zb_bnd, zI_add, zI_sub, zI_mul, zI_neg, zI_le, zI_lt, zI_eq, zI_ix, zI_inI, Int.toNat_natCast, Int.toNat_add, Int.toNat_mul, true_and, and_true]; omega), zI_add, zk_bnd, zk_bind]
        refine zOk_forQ (fun j x => x.2 = zI ((i + 1 + j : Nat) : Int) ∧ zP (fun a k => a == 49 && k == 6) x1 x.1 ∧ zMk (x.1.1 49 6) 20 (fun b => (b < F ∧ sg b = b ∧ (zdl h (gr 0) 0 F (gr 0 b) ∨ zdl h (gr 1) 1 F (gr 1 b))) ∨ ∃ x y, x < y ∧ y < 20 ∧ (x < i ∨ (x = i ∧ y < i + 1 + j)) ∧ zpr F h gr sg x y ∧ (b = x ∨ b = y))) (20 - (i + 1)) ?_ ?_ ⟨zI_inj (by omega), d2, zMk_cg d3 (fun b => or_congr Iff.rfl ⟨fun ⟨x, y, h1, h2, h3, h4⟩ => ⟨x, y, h1, h2, Or.inl h3, h4⟩, fun ⟨x, y, h1, h2, h3, h4⟩ => ⟨x, y, h1, h2, by omega, h4⟩⟩)⟩
        · rintro j ⟨u1, u2⟩ hj ⟨c1, c2, c3⟩ Q' hQ' _
          dsimp only at c1 c2 c3
          have vi := e3' i hi
          have vj := e3' (i + 1 + j) (by omega)
          have r0i := zkv_rng hF hk gr sg 0 i
          have r1i := zkv_rng hF hk gr sg 1 i
          have r0j := zkv_rng hF hk gr sg 0 (i + 1 + j)
          have r1j := zkv_rng hF hk gr sg 1 (i + 1 + j)
          have skip : ¬ zpr F h gr sg i (i + 1 + j) → zOk (zbnd (zI ((i + 1 + j : Nat) : Int) + zI 1) (fun x6_158 => (some (.inl (u1, x6_158)) : Option ((ZMem × Int32) ⊕ ZMem)))) Q' := by
            intro hno
            rw [zk_bnd, zk_some, zI_add]
            refine hQ' _ ⟨zI_inj (by omega), c2, zMk_cg c3 (fun b => or_congr Iff.rfl ⟨fun ⟨x, y, h1, h2, h3, h4⟩ => ⟨x, y, h1, h2, by omega, h4⟩, fun ⟨x, y, h1, h2, h3, h4⟩ => ⟨x, y, h1, h2, ?_, h4⟩⟩)⟩
            by_cases he : x = i ∧ y = i + 1 + j
            · rw [he.1, he.2] at h4
              exact absurd h4.1 hno
            · omega
          unfold f_X9_settle_L90 f_X9_bothKnown
          dsimp only
          rw [c1, if_neg (by simp (disch := omega) only [zk_bind, zk_chk, zk_bnd, zk_some, zlp_l, zlp_r, zb_some, zb_bnd, zI_add, zI_sub, zI_mul, zI_neg, zI_le, zI_lt, zI_eq, zI_ix, zI_inI, Int.toNat_natCast, Int.toNat_add, Int.toNat_mul, true_and, and_true]; omega), c_isPlace9 (by omega), zb_some, if_neg (by decide), zI_inI (by omega) (by omega) (by omega), zb_chk, zb_chk, zb_chk, zb_chk, zI_ix (by omega) (by omega), Int.toNat_natCast, c2.1 50 i (by simp), c2.1 51 i (by simp), vi.1, vi.2]
          by_cases k0 : zkv F h gr sg 0 i = -1
          · rw [if_pos (by rw [k0]), zb_some, if_pos (by decide)]
            exact skip (fun hh => hh.1 k0)
          · rw [if_neg (by simp (disch := omega) only [zk_bind, zk_chk, zk_bnd, zk_some, zlp_l, zlp_r, zb_some, zb_bnd, zI_add, zI_sub, zI_mul, zI_neg, zI_le, zI_lt, zI_eq, zI_ix, zI_inI, Int.toNat_natCast, Int.toNat_add, Int.toNat_mul, true_and, and_true]; omega)]
            by_cases k1 : zkv F h gr sg 1 i = -1
            · rw [if_pos (by rw [k1]), zb_some, if_pos (by decide)]
              exact skip (fun hh => hh.2.1 k1)
            · rw [if_neg (by simp (disch := omega) only [zk_bind, zk_chk, zk_bnd, zk_some, zlp_l, zlp_r, zb_some, zb_bnd, zI_add, zI_sub, zI_mul, zI_neg, zI_le, zI_lt, zI_eq, zI_ix, zI_inI, Int.toNat_natCast, Int.toNat_add, Int.toNat_mul, true_and, and_true]; omega), zb_some, if_neg (by decide), zI_inI (by omega) (by omega) (by omega), zb_chk, zb_chk, zI_ix (by omega) (by omega), Int.toNat_natCast, c2.1 50 (i + 1 + j) (by simp), c2.1 51 (i + 1 + j) (by simp), vj.1, vj.2]
              by_cases k2 : zkv F h gr sg 0 i = zkv F h gr sg 0 (i + 1 + j)
              · rw [if_pos (by rw [k2])]
                by_cases k3 : zkv F h gr sg 1 i = zkv F h gr sg 1 (i + 1 + j)
                · rw [if_pos (by rw [k3]), zk_bnd, zk_bnd, zk_some, zI_add]
                  refine hQ' _ ⟨zI_inj (by omega), zP_I c2 (by simp), ?_⟩
                  rw [zm_Is]
                  refine zMk_cg (zMk_oo (by decide) c3 (zMk_oo (by decide) (zMk_one hi (by decide)) (zMk_one (v := i + 1 + j) (by omega) (by decide)))) (fun b => ⟨?_, ?_⟩)
                  · rintro ((hb | ⟨x, y, h1, h2, h3, h4⟩) | hb)
                    · exact Or.inl hb
                    · exact Or.inr ⟨x, y, h1, h2, by omega, h4⟩
                    · exact Or.inr ⟨i, i + 1 + j, by omega, by omega, by omega, ⟨k0, k1, k2, k3⟩, hb⟩
                  · rintro (hb | ⟨x, y, h1, h2, h3, h4, h5⟩)
                    · exact Or.inl (Or.inl hb)
                    · by_cases he : x = i ∧ y = i + 1 + j
                      · rw [he.1, he.2] at h5
                        exact Or.inr h5
                      · exact Or.inl (Or.inr ⟨x, y, h1, h2, by omega, h4, h5⟩)
                · rw [if_neg (by simp (disch := omega) only [zk_bind, zk_chk, zk_bnd, zk_some, zlp_l, zlp_r, zb_some, zb_bnd, zI_add, zI_sub, zI_mul, zI_neg, zI_le, zI_lt, zI_eq, zI_ix, zI_inI, Int.toNat_natCast, Int.toNat_add, Int.toNat_mul, true_and, and_true]; omega)]
                  exact skip (fun hh => k3 hh.2.2.2)
              · rw [if_neg (by simp (disch := omega) only [zk_bind, zk_chk, zk_bnd, zk_some, zlp_l, zlp_r, zb_some, zb_bnd, zI_add, zI_sub, zI_mul, zI_neg, zI_le, zI_lt, zI_eq, zI_ix, zI_inI, Int.toNat_natCast, Int.toNat_add, Int.toNat_mul, true_and, and_true]; omega)]
                exact skip (fun hh => k2 hh.2.2.1)
        · rintro ⟨u1, u2⟩ ⟨c1, c2, c3⟩
          dsimp only at c1 c2 c3
          refine ⟨u1, ?_, ?_⟩
          · unfold f_X9_settle_L90
            dsimp only
            rw [c1, if_pos (by simp (disch := omega) only [zk_bind, zk_chk, zk_bnd, zk_some, zlp_l, zlp_r, zb_some, zb_bnd, zI_add, zI_sub, zI_mul, zI_neg, zI_le, zI_lt, zI_eq, zI_ix, zI_inI, Int.toNat_natCast, Int.toNat_add, Int.toNat_mul, true_and, and_true]; omega)]
          · rw [zk_bnd, zk_some]
            exact hQ _ ⟨zI_inj (by omega), c2, zMk_cg c3 (fun b => or_congr Iff.rfl ⟨fun ⟨x, y, h1, h2, h3, h4⟩ => ⟨x, y, h1, h2, by omega, h4⟩, fun ⟨x, y, h1, h2, h3, h4⟩ => ⟨x, y, h1, h2, by omega, h4⟩⟩)⟩
      · rintro ⟨y1, y2⟩ ⟨d1, d2, d3⟩
        dsimp only at d1 d2 d3
        refine ⟨y1, ?_, ?_⟩
        · unfold f_X9_settle_L77
          dsimp only
          rw [d1, if_pos (by simp (disch := omega) only [zk_bind, zk_chk, zk_bnd, zk_some, zlp_l, zlp_r, zb_some, zb_bnd, zI_add, zI_sub, zI_mul, zI_neg, zI_le, zI_lt, zI_eq, zI_ix, zI_inI, Int.toNat_natCast, Int.toNat_add, Int.toNat_mul, true_and, and_true]; omega)]
        · rw [zk_some]
          refine ⟨⟨fun s hs => ⟨by rw [d2.1 50 s (by simp)]; exact (e3' s hs).1, by rw [d2.1 51 s (by simp)]; exact (e3' s hs).2⟩, zMk_cg d3 (fun b => ?_)⟩, ?_⟩
          · rw [← zdsp_iff hF hG]
            exact or_congr Iff.rfl ⟨fun ⟨x, y, h1, h2, h3, h4⟩ => ⟨x, y, h1, h2, h4⟩, fun ⟨x, y, h1, h2, h4⟩ => ⟨x, y, h1, h2, by omega, h4⟩⟩
          · refine zP_tr (zP_mono h0b (fun a k ha => by unfold zWval at ha; simp only [Bool.or_eq_false_iff] at ha; exact ha.1.1.1)) (zP_tr (zP_mono e2 (fun a k ha => by unfold zWval at ha; simp at ha ⊢; omega)) (zP_mono d2 (fun a k ha => by unfold zWval at ha; simp at ha ⊢; omega)))
  · rw [zm_Iq _ _ _ _ (by decide), h2c 50 (by decide), h1a s hs, if_neg (by omega)]
  · rw [zm_Iq _ _ _ _ (by decide), h2a s hs, if_neg (by omega)]
  · rw [zm_Is]
    exact zMk_0 20 (fun b hb => absurd hb.1 (Nat.not_lt_zero b))
