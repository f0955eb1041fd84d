/-! ===== settled things within the relation; the first calls ===== deps: 97.zi.rel -/
theorem k_fs {σ : ZT} {C : ZMem} (ho : okT σ) (h : relC σ C) : zOk (f_X11_freshenScript C) (fun C' => relC σ C' ∧ C'.1 0 13 = zI 0) := by
  obtain ⟨h1, h2, h3, h4, h5, h6⟩ := h
  unfold f_X11_freshenScript
  by_cases hc : C.1 0 13 = zI 0
  · rw [if_pos hc, zk_some]
    exact ⟨⟨h1, h2, h3, h4, h5, h6⟩, hc⟩
  · rw [if_neg hc, zk_bind]
    refine zOk_mono (c_settleScript ho.2.2.1 (ho.2.2.2.2.2.1 _ (Nat.le_refl _)) h2) (fun M' hm => ?_)
    obtain ⟨a1, a2, a3, a4, a5⟩ := hm
    rw [zk_some]
    refine ⟨⟨⟨by rw [a4 1 1 rfl]; exact h1.1, fun i hi => by rw [a4 2 i rfl]; exact h1.2 i hi⟩, baC_x a4 h2, ⟨by rw [a4 3 10 rfl]; exact h3.1, fun k hk => by rw [a4 7 _ rfl, a4 7 _ rfl]; exact h3.2 k hk⟩, ⟨by rw [a4 20 11 rfl]; exact h4.1, fun p hp => by rw [a4 27 p rfl, a4 28 p rfl, a4 29 p rfl]; exact h4.2 p hp⟩, by rw [a4 0 12 rfl]; exact h5, ⟨Or.inl a2, Or.inr a3, by rw [a5]; exact h6.1.2.2⟩, fun _ => a1, fun _ hh => ?_, fun _ hh => ?_⟩, a2⟩
    · rw [a3] at hh
      exact absurd hh (by decide)
    · rw [a3] at hh
      exact absurd hh (by decide)
theorem k_fg {σ : ZT} {C : ZMem} (ho : okT σ) (h : relC σ C) : zOk (f_X11_freshenGrid C) (fun C' => relC σ C' ∧ C'.1 0 13 = zI 0 ∧ C'.1 0 14 = zI 0) := by
  have key : ∀ C, relC σ C → C.1 0 13 = zI 0 → zOk (f_X11_freshenGrid_11 C) (fun C' => relC σ C' ∧ C'.1 0 13 = zI 0 ∧ C'.1 0 14 = zI 0) := by
    intro C h h13
    obtain ⟨h1, h2, h3, h4, h5, h6⟩ := h
    unfold f_X11_freshenGrid_11
    by_cases hc : C.1 0 14 = zI 0
    · rw [if_pos hc, zk_some]
      exact ⟨⟨h1, h2, h3, h4, h5, h6⟩, h13, hc⟩
    · rw [if_neg hc, zk_bind]
      refine zOk_mono (c_settleGrid ho.2.2.1 (ho.2.2.2.2.2.1 _ (Nat.le_refl _)) ho.2.2.2.1 h2 (h6.2.1 h13)) (fun M' hm => ?_)
      obtain ⟨a1, a2, a3, a4, a4'⟩ := hm
      have b13 : M'.1 0 13 = zI 0 := by rw [a4 0 13 rfl]; exact h13
      rw [zk_some]
      refine ⟨⟨⟨by rw [a4 1 1 rfl]; exact h1.1, fun i hi => by rw [a4 2 i rfl]; exact h1.2 i hi⟩, baC_x (fun a k hk => a4 a k (by unfold zWca at hk; unfold zWgr; simp at hk ⊢; omega)) h2, ⟨by rw [a4 3 10 rfl]; exact h3.1, fun k hk => by rw [a4 7 _ rfl, a4 7 _ rfl]; exact h3.2 k hk⟩, ⟨by rw [a4 20 11 rfl]; exact h4.1, fun p hp => by rw [a4 27 p rfl, a4 28 p rfl, a4 29 p rfl]; exact h4.2 p hp⟩, by rw [a4 0 12 rfl]; exact h5, ⟨Or.inl b13, Or.inl a2, Or.inr a3⟩, fun _ => scriptC_x (fun a k hk _ _ _ => a4 a k hk) (by rw [a4']) (by rw [a4']) (h6.2.1 h13), fun _ _ => a1, fun _ _ hh => ?_⟩, b13, a2⟩
      rw [a3] at hh
      exact absurd hh (by decide)
  unfold f_X11_freshenGrid
  have hs := k_fs ho h
  unfold f_X11_freshenScript at hs
  by_cases hc : C.1 0 13 = zI 0
  · rw [if_pos hc]
    exact key C h hc
  · rw [if_neg hc] at hs ⊢
    rw [zk_bind] at hs ⊢
    refine zOk_mono hs (fun M' hm => ?_)
    rw [zk_some] at hm
    exact key M' hm.1 hm.2
theorem k_ls {σ : ZT} {R : ZMem} (ho : okT σ) (h : relR σ R) : zOk (f_X12_lays R) (fun R' => relR σ R' ∧ R'.1 0 45 = zI 1 ∧ laidR (gF σ) (gf σ) (gs σ) (gh σ) R') := by
  obtain ⟨h1, h2, h3, h4, h5, h6, h7, h8, h9⟩ := h
  refine zOk_mono (r_lays h2 ho.2.2.1 h3 h5 (ho.2.2.2.2.2.1 _ (Nat.le_refl _)) h8 h9) (fun M' hm => ?_)
  obtain ⟨a1, a2, a3, a4⟩ := hm
  refine ⟨⟨⟨by rw [a3 0 1 rfl]; exact h1.1, fun i hi => by rw [a3 1 i rfl]; exact h1.2 i hi⟩, formsR_x (fun a k hk => a3 a k (by unfold dformsR at hk; unfold zWlay; simp at hk ⊢; omega)) h2, ⟨by rw [a3 0 8 rfl]; exact h3.1, fun t ht => by rw [a3 4 t rfl]; exact h3.2.1 t ht, fun q hq => ?_⟩, ⟨by rw [a3 0 12 rfl]; exact h4.1, fun n hn => ⟨by rw [a3 7 n rfl]; exact (h4.2 n hn).1, fun k hk => by rw [a3 8 _ rfl]; exact (h4.2 n hn).2 k hk⟩⟩, handR_x (fun k => a3 9 k rfl) h5, ⟨by rw [a3 0 17 rfl]; exact h6.1, fun p k hp hk => by rw [a3 10 _ rfl]; exact h6.2 p k hp hk⟩, by rw [a3 0 41 rfl]; exact h7, Or.inr a2, fun _ => a1⟩, a2, a1⟩
  obtain ⟨q1, q2, q3, q4⟩ := h3.2.2 q hq
  exact ⟨by rw [a3 5 q rfl]; exact q1, fun k hk => by rw [a3 6 _ rfl]; exact q2 k hk, fun k hk => by rw [a3 6 _ rfl]; exact q3 k hk, fun k hk => by rw [a3 6 _ rfl]; exact q4 k hk⟩
theorem zsgl {σ : ZT} (ho : okT σ) {f : Nat} (hf : f < gF σ) : zsg (gF σ) (gf σ) (gh σ) f < 20 := by
  have := (zsg_f (gF σ) (gf σ) (gh σ) hf).1
  have := ho.2.1
  omega
-- known by signs alone
noncomputable def dKN (F : Nat) (fr : Nat → Nat) (s : ZS) (h : Nat → Int) : Nat → Nat → Int := fun kind f => zkn F h (dGR F fr s h) kind f
theorem dKN_ok {F : Nat} {fr : Nat → Nat} {s : ZS} {h : Nat → Int} (hF : F ≤ 20) (hk : okH F h) : okV (dKN F fr s h) := fun kind f => zkn_rng hF hk _ kind f
theorem dKN_sg {F : Nat} {fr : Nat → Nat} {s : ZS} {h : Nat → Int} (hF : F ≤ 20) (hs : okS F s) {w i : Nat} (hw : w < (dLX F fr s h).length) (hi : i < zN (dLX F fr s h) w) (kind : Nat) : dKN F fr s h kind (zSg (dLX F fr s h) w i) = dKV F fr s h kind (zSg (dLX F fr s h) w i) := by
  obtain ⟨f, f1, f2⟩ := dSg_lt (fr := fr) (h := h) hF hs hw hi
  have h1 := zsg_f F fr h f1
  rw [f2]
  unfold dKV zkv
  rw [zif_t ⟨by omega, h1.2⟩]
  rfl
theorem dSg_F {F : Nat} {fr : Nat → Nat} {s : ZS} {h : Nat → Int} (hF : F ≤ 20) (hs : okS F s) : ∀ w i, w < (dLX F fr s h).length → i < zN (dLX F fr s h) w → zSg (dLX F fr s h) w i < F := by
  intro w i hw hi
  obtain ⟨f, f1, f2⟩ := dSg_lt (fr := fr) (h := h) hF hs hw hi
  have h1 := zsg_f F fr h f1
  omega
theorem zagr_sg {l : List (Nat × Nat)} {nl ny : Nat → Nat} {kv kv' : Nat → Nat → Int} {all n w : Nat} (h : ∀ i, i < zN l w → ∀ kind, kind < 2 → kv kind (zSg l w i) = kv' kind (zSg l w i)) : zagr l nl ny kv all n w ↔ zagr l nl ny kv' all n w := by
  unfold zagr
  constructor
  · rintro ⟨h1, h2⟩
    exact ⟨h1, fun i hi kind hk => by rw [← h i (by omega) kind hk]; exact h2 i hi kind hk⟩
  · rintro ⟨h1, h2⟩
    exact ⟨h1, fun i hi kind hk => by rw [h i (by omega) kind hk]; exact h2 i hi kind hk⟩
theorem dHit {F : Nat} {fr : Nat → Nat} {s : ZS} {h : Nat → Int} {N : Nat} {nl ny : Nat → Nat} (hF : F ≤ 20) (hs : okS F s) : zhitN (dLX F fr s h) N nl ny (dKN F fr s h) = zhitN (dLX F fr s h) N nl ny (dKV F fr s h) := by
  unfold zhitN
  refine zsum_cg (fun n hn => zsum_cg (fun w hw => zb_iff ?_))
  rw [zagr_sg (fun i hi kind _ => dKN_sg hF hs hw hi kind)]
theorem zfil_cg {P Q : Nat → Prop} {N : Nat} (h : ∀ x, x < N → (P x ↔ Q x)) : zfil P N = zfil Q N := by
  induction N with
  | zero => rfl
  | succ N ih =>
    have e := ih (fun x hx => h x (by omega))
    by_cases hp : P N
    · rw [zfil_t hp, zfil_t ((h N (Nat.lt_succ_self N)).mp hp), e]
    · rw [zfil_f hp, zfil_f (fun hq => hp ((h N (Nat.lt_succ_self N)).mpr hq)), e]
theorem zwy_cg {c1 c1' : Nat → Nat → Prop} {c2 : Nat → Nat → Nat → Nat → Prop} {W : Nat} (h : ∀ b w, w < W → (c1 b w ↔ c1' b w)) : ∀ (d : Nat) (p : List Nat), zwy c1 c2 W d p = zwy c1' c2 W d p
  | 0, p => rfl
  | d + 1, p => by
    unfold zwy
    rw [zfil_cg (Q := zok c1' c2 p p.length) (fun x hx => by unfold zok; rw [h _ x hx])]
    congr 1
    funext w
    exact zwy_cg h d (p ++ [w])
theorem dWall {F : Nat} {fr : Nat → Nat} {s : ZS} {h : Nat → Int} {N : Nat} {nl ny : Nat → Nat} (hF : F ≤ 20) (hs : okS F s) : zwall (dLX F fr s h) N nl ny (dKN F fr s h) (dGR F fr s h) = zwall (dLX F fr s h) N nl ny (dKV F fr s h) (dGR F fr s h) := by
  unfold zwall
  refine zwy_cg (fun b w hw => ?_) N []
  unfold zc1
  rw [zagr_sg (fun i hi kind _ => dKN_sg hF hs hw hi kind)]
theorem dGR_lt {F : Nat} {fr : Nat → Nat} {s : ZS} {h : Nat → Int} (hF : F ≤ 20) : ∀ kind f, f < F → dGR F fr s h kind f < 20 := fun kind f hf => by
  have := ((dGR_ok (fr := fr) (s := s) (h := h) f hf).2.2 kind).1
  omega
-- calls
theorem zp_unlike : zPr_unlike zRel := by
  rintro M1 M2 a1 a2 ⟨σ, ho, hc, hr⟩
  obtain ⟨a, rfl, l1, u1⟩ := zI_of a1
  obtain ⟨b, rfl, l2, u2⟩ := zI_of a2
  have hF := ho.2.1
  have hfC := hc.2.1.1
  have hfR := hr.2.1
  have hRel : zRel M1 M2 := ⟨σ, ho, hc, hr⟩
  unfold f_X11_unlike f_X12_unlike
  by_cases h : (0 ≤ a ∧ a < gF σ) ∧ (0 ≤ b ∧ b < gF σ)
  · obtain ⟨a, rfl⟩ := Int.eq_ofNat_of_zero_le h.1.1
    obtain ⟨b, rfl⟩ := Int.eq_ofNat_of_zero_le h.2.1
    rw [c_unlikeOf hfC (by omega) (by omega), r_isForm hfR.2.1 hF _ l1 u1, r_isForm hfR.2.1 hF _ l2 u2, r_unlikeOf hfR (by omega) (by omega), zb_some, zb_some, zb_some, if_neg (fun hh => zb_0.mp hh h.1), if_neg (fun hh => zb_0.mp hh h.2), zk_some, zk_some]
    exact ⟨rfl, hRel⟩
  · have e1 : f_X0_unlikeOf M1 (zI a) (zI b) = some (zI (-1)) := by
      unfold f_X0_unlikeOf
      rw [c_has hfC.2.1 hF _ l1 u1, c_has hfC.2.1 hF _ l2 u2, zb_some, zb_some]
      by_cases h1 : 0 ≤ a ∧ a < gF σ
      · rw [if_neg (fun hh => zb_0.mp hh h1), if_pos (zb_0.mpr (fun hh => h ⟨h1, hh⟩))]
      · rw [if_pos (zb_0.mpr h1)]
    rw [e1, r_isForm hfR.2.1 hF _ l1 u1, r_isForm hfR.2.1 hF _ l2 u2, zb_some, zb_some, zb_some, zk_some]
    by_cases h1 : 0 ≤ a ∧ a < gF σ
    · rw [if_neg (fun hh => zb_0.mp hh h1), if_pos (zb_0.mpr (fun hh => h ⟨h1, hh⟩)), zk_some]
      exact ⟨rfl, hRel⟩
    · rw [if_pos (zb_0.mpr h1), zk_some]
      exact ⟨rfl, hRel⟩
theorem zp_tree : zPr_tree zRel := by
  rintro M1 M2 a1 a2 ⟨σ, ho, hc, hr⟩
  obtain ⟨a, rfl, l1, u1⟩ := zI_of a1
  obtain ⟨b, rfl, l2, u2⟩ := zI_of a2
  rw [c_tree hc.2.1.1 hc.2.2.1 a b l1 u1 l2 u2, zk_some]
  refine zOk_mono (r_tree hr.2.1 a b l1 u1 l2 u2) (fun r h => ⟨h.2.symm, σ, ho, hc, relR_x (zP_mono h.1 (fun a k ha => ?_)) hr⟩)
  unfold zScR at ha
  simp at ha ⊢
  omega
theorem zp_sign : zPr_sign zRel := by
  rintro M1 M2 a1 ⟨σ, ho, hc, hr⟩
  obtain ⟨a, rfl, l1, u1⟩ := zI_of a1
  have hF := ho.2.1
  unfold f_X11_sign f_X12_sign_
  rw [zk_bind]
  refine zOk_mono (k_fs ho hc) (fun C' h => ?_)
  have hs := (h.1.2.2.2.2.2.2.1 h.2).1
  rw [c_signOf h.1.2.1.1.2.1 hF hs.1 l1 u1, zb_some, zk_some, r_isForm hr.2.1.2.1 hF _ l1 u1, zb_some]
  by_cases h1 : 0 ≤ a ∧ a < gF σ
  · rw [if_pos h1, if_neg (fun hh => zb_0.mp hh h1), zk_bind]
    refine zOk_mono (k_ls ho hr) (fun R' h' => ?_)
    obtain ⟨a, rfl⟩ := Int.eq_ofNat_of_zero_le h1.1
    rw [zI_inI (by omega) (by omega) (by omega), zb_chk, zI_ix (by omega) (by omega), Int.toNat_natCast, zk_some]
    refine ⟨?_, σ, ho, h.1, h'.1⟩
    dsimp only
    rw [h'.2.2.1.1 a (by omega)]
  · rw [if_neg h1, if_pos (zb_0.mpr h1), zk_some]
    exact ⟨rfl, σ, ho, h.1, hr⟩
theorem zp_size : zPr_size zRel := by
  rintro M1 M2 a1 ⟨σ, ho, hc, hr⟩
  obtain ⟨a, rfl, l1, u1⟩ := zI_of a1
  have hF := ho.2.1
  unfold f_X11_size f_X12_size f_X0_sizeOf
  rw [zk_bind]
  refine zOk_mono (k_fs ho hc) (fun C' h => ?_)
  have hs := (h.1.2.2.2.2.2.2.1 h.2).1
  rw [c_signOf h.1.2.1.1.2.1 hF hs.1 l1 u1, zb_some, r_isForm hr.2.1.2.1 hF _ l1 u1, zb_some]
  by_cases h1 : 0 ≤ a ∧ a < gF σ
  · obtain ⟨a, rfl⟩ := Int.eq_ofNat_of_zero_le h1.1
    have hlt := zsgl ho (show a < gF σ by omega)
    rw [if_pos h1, Int.toNat_natCast, if_neg (by simp (disch := omega) only [zk_bind, zk_chk, zk_bnd, zk_some, zlp_l, zlp_r, zb_some, zb_bnd, zI_add, zI_sub, zI_mul, zI_neg, zI_le, zI_lt, zI_eq, zI_ix, zI_inI, Int.toNat_natCast, Int.toNat_add, Int.toNat_mul, true_and, and_true]; omega), if_neg (by simp (disch := omega) only [zk_bind, zk_chk, zk_bnd, zk_some, zlp_l, zlp_r, zb_some, zb_bnd, zI_add, zI_sub, zI_mul, zI_neg, zI_le, zI_lt, zI_eq, zI_ix, zI_inI, Int.toNat_natCast, Int.toNat_add, Int.toNat_mul, true_and, and_true]; omega), zI_inI (by omega) (by omega) (by omega), zb_chk, zI_ix (by omega) (by omega), Int.toNat_natCast, zb_some, zk_some, if_neg (fun hh => zb_0.mp hh h1), zk_bind]
    refine zOk_mono (k_ls ho hr) (fun R' h' => ?_)
    have hsR := h'.2.2.1
    have hF1 := h'.1.2.1.2.1
    rw [zk_bind]
    refine zOk_forQ (fun i x => x.1 = zI (zsum i (fun f => zb (zsg (gF σ) (gf σ) (gh σ) f = zsg (gF σ) (gf σ) (gh σ) a)) : Int) ∧ x.2 = zI i) (gF σ) ?_ ?_ ⟨rfl, rfl⟩
    · rintro i ⟨x1, x2⟩ hi ⟨e1, e2⟩ Q hQ _
      dsimp only at e1 e2
      have hl2 := zsgl ho hi
      unfold f_X12_size_L18
      dsimp only
      rw [hF1, e2, e1, if_neg (by simp (disch := omega) only [zk_bind, zk_chk, zk_bnd, zk_some, zlp_l, zlp_r, zb_some, zb_bnd, zI_add, zI_sub, zI_mul, zI_neg, zI_le, zI_lt, zI_eq, zI_ix, zI_inI, Int.toNat_natCast, Int.toNat_add, Int.toNat_mul, true_and, and_true]; omega), zI_inI (by omega) (by omega) (by omega), zb_chk, zI_inI (by omega) (by omega) (by omega), zb_chk, zI_ix (by omega) (by omega), zI_ix (by omega) (by omega), Int.toNat_natCast, Int.toNat_natCast, hsR.1 i hi, hsR.1 a (by omega)]
      unfold f_X12_size_47_L18
      rw [r_truth, r_truth]
      by_cases he : zsg (gF σ) (gf σ) (gh σ) i = zsg (gF σ) (gf σ) (gh σ) a
      · rw [if_pos (by rw [he]), if_neg (by decide), zb_some, zk_bnd, zk_bnd, zk_some, zI_add, zI_add]
        refine hQ _ ⟨?_, zI_inj (by omega)⟩
        dsimp only
        rw [zsum_s, zb_t he]
        exact zI_inj (by omega)
      · rw [if_neg (by simp (disch := omega) only [zk_bind, zk_chk, zk_bnd, zk_some, zlp_l, zlp_r, zb_some, zb_bnd, zI_add, zI_sub, zI_mul, zI_neg, zI_le, zI_lt, zI_eq, zI_ix, zI_inI, Int.toNat_natCast, Int.toNat_add, Int.toNat_mul, true_and, and_true]; omega), if_pos rfl, zb_some, zk_bnd, zk_bnd, zk_some, zI_add, zI_add]
        refine hQ _ ⟨?_, zI_inj (by omega)⟩
        dsimp only
        rw [zsum_s, zb_f he]
        exact zI_inj (by omega)
    · rintro ⟨x1, x2⟩ ⟨e1, e2⟩
      dsimp only at e1 e2
      refine ⟨x1, ?_, ?_⟩
      · unfold f_X12_size_L18
        dsimp only
        rw [hF1, e2, if_pos (by simp (disch := omega) only [zk_bind, zk_chk, zk_bnd, zk_some, zlp_l, zlp_r, zb_some, zb_bnd, zI_add, zI_sub, zI_mul, zI_neg, zI_le, zI_lt, zI_eq, zI_ix, zI_inI, Int.toNat_natCast, Int.toNat_add, Int.toNat_mul, true_and, and_true]; omega)]
      · rw [zk_some]
        refine ⟨?_, σ, ho, h.1, h'.1⟩
        dsimp only
        rw [hs.2.1 _ hlt, e1]
        rfl
  · rw [if_neg h1, if_pos (by decide), zb_some, zk_some, if_pos (zb_0.mpr h1), zk_some]
    exact ⟨rfl, σ, ho, h.1, hr⟩
theorem zp_words : zPr_words zRel := by
  rintro M1 M2 ⟨σ, ho, hc, hr⟩
  unfold f_X11_words f_X12_words f_X2_held
  rw [zk_bind]
  refine zOk_mono (k_fs ho hc) (fun C' h => ?_)
  rw [zb_some, zk_some, zk_bind]
  refine zOk_mono (k_ls ho hr) (fun R' h' => ?_)
  rw [zk_some]
  refine ⟨?_, σ, ho, h.1, h'.1⟩
  dsimp only
  rw [h'.2.2.2.2.1.1.1, (h.1.2.2.2.2.2.2.1 h.2).2.2.2.1.1.1]
theorem zp_hits : zPr_hits zRel := by
  rintro M1 M2 ⟨σ, ho, hc, hr⟩
  have hF := ho.2.1
  unfold f_X11_hits f_X12_hits f_X3_hitsNow
  rw [zk_bind]
  refine zOk_mono (k_fg ho hc) (fun C' h => ?_)
  have hg := h.1.2.2.2.2.2.2.2.1 h.2.1 h.2.2
  rw [zb_some, zk_some, zk_bind]
  refine zOk_mono (k_ls ho hr) (fun R' h' => ?_)
  have hkn : knV (gF σ) (dKN (gF σ) (gf σ) (gs σ) (gh σ)) R' := h'.2.2.2.2.2.2.2
  rw [r_hitsNow hF ho.2.2.2.1 h'.1.2.2.2.1 (dLX_ok hF ho.2.2.1) h'.2.2.2.2.1.1 (dSg_F hF ho.2.2.1) (dKN_ok hF (ho.2.2.2.2.2.1 _ (Nat.le_refl _))) hkn, zb_some, zk_some, dHit hF ho.2.2.1]
  exact ⟨hg.2.2.2.2.2.2, σ, ho, h.1, h'.1⟩
theorem okT_x {σ : ZT} {t : List Nat} {x : Nat} (ho : okT σ) (h1 : t.length ≤ 300) (h2 : ∀ i, i < t.length → t.getD i 0 < 256) (hx : x < 2147483648) : okT (zTX σ t x) := ⟨⟨h1, h2⟩, ho.2.1, ho.2.2.1, ho.2.2.2.1, ho.2.2.2.2.1, ho.2.2.2.2.2.1, hx⟩
theorem zp_draws : zPr_draws zRel := by
  rintro M1 M2 a1 ⟨σ, ho, hc, hr⟩
  obtain ⟨a, rfl, l1, u1⟩ := zI_of a1
  unfold f_X11_draws f_X12_draws
  by_cases h : 0 ≤ a
  · obtain ⟨a, rfl⟩ := Int.eq_ofNat_of_zero_le h
    rw [if_pos (by simp (disch := omega) only [zk_bind, zk_chk, zk_bnd, zk_some, zlp_l, zlp_r, zb_some, zb_bnd, zI_add, zI_sub, zI_mul, zI_neg, zI_le, zI_lt, zI_eq, zI_ix, zI_inI, Int.toNat_natCast, Int.toNat_add, Int.toNat_mul, true_and, and_true]; omega), if_pos (by simp (disch := omega) only [zk_bind, zk_chk, zk_bnd, zk_some, zlp_l, zlp_r, zb_some, zb_bnd, zI_add, zI_sub, zI_mul, zI_neg, zI_le, zI_lt, zI_eq, zI_ix, zI_inI, Int.toNat_natCast, Int.toNat_add, Int.toNat_mul, true_and, and_true]; omega), zk_bnd, zk_bnd, zk_some, zk_bnd, zk_bnd, zk_some]
    refine ⟨by rw [hc.2.2.2.2.1, hr.2.2.2.2.2.2.1], zTX σ (gT σ) a, okT_x ho ho.1.1 ho.1.2 (by omega), relC_y (zP_I zP_rf rfl) ⟨?_, fun i hi => ?_⟩ (zm_Is _ _ _ _) hc, relR_y (zP_I zP_rf rfl) ⟨?_, fun i hi => ?_⟩ (zm_Is _ _ _ _) hr⟩
    · rw [zm_Iq _ _ _ _ (by decide)]
      exact hc.1.1
    · rw [zm_Iq _ _ _ _ (by decide)]
      exact hc.1.2 i hi
    · rw [zm_In _ _ _ _ (by decide)]
      exact hr.1.1
    · rw [zm_Iq _ _ _ _ (by decide)]
      exact hr.1.2 i hi
  · rw [if_neg (by simp (disch := omega) only [zk_bind, zk_chk, zk_bnd, zk_some, zlp_l, zlp_r, zb_some, zb_bnd, zI_add, zI_sub, zI_mul, zI_neg, zI_le, zI_lt, zI_eq, zI_ix, zI_inI, Int.toNat_natCast, Int.toNat_add, Int.toNat_mul, true_and, and_true]; omega), if_neg (by simp (disch := omega) only [zk_bind, zk_chk, zk_bnd, zk_some, zlp_l, zlp_r, zb_some, zb_bnd, zI_add, zI_sub, zI_mul, zI_neg, zI_le, zI_lt, zI_eq, zI_ix, zI_inI, Int.toNat_natCast, Int.toNat_add, Int.toNat_mul, true_and, and_true]; omega), zk_some, zk_some]
    exact ⟨rfl, σ, ho, hc, hr⟩
theorem ztake {t : List Nat} {n : Nat} (hn : n ≤ t.length) : (t.take n).length = n ∧ ∀ i, i < n → (t.take n).getD i 0 = t.getD i 0 := ⟨by rw [List.length_take]; omega, fun i hi => zgetD_t hi⟩
theorem c_cut {σ : ZT} {C : ZMem} (ho : okT σ) (h : relC σ C) {n : Nat} (hn : n ≤ (gT σ).length) : relC (zTX σ ((gT σ).take n) (gx σ)) (zstI C 1 1 (zI n)) := by
  have ht := ztake hn
  refine relC_y (zP_I zP_rf rfl) ⟨?_, fun i hi => ?_⟩ ?_ h
  · rw [zm_Is, ht.1]
  · rw [ht.1] at hi
    rw [zm_Iq _ _ _ _ (by decide), ht.2 i hi]
    exact h.1.2 i (by omega)
  · rw [zm_Iq _ _ _ _ (by decide)]
    exact h.2.2.2.2.1
theorem r_cut {σ : ZT} {R : ZMem} (ho : okT σ) (h : relR σ R) {n : Nat} (hn : n ≤ (gT σ).length) : relR (zTX σ ((gT σ).take n) (gx σ)) (zstI R 0 1 (zI n)) := by
  have ht := ztake hn
  refine relR_y (zP_I zP_rf rfl) ⟨?_, fun i hi => ?_⟩ ?_ h
  · rw [zm_Is, ht.1]
  · rw [ht.1] at hi
    rw [zm_Iq _ _ _ _ (by decide), ht.2 i hi]
    exact h.1.2 i (by omega)
  · rw [zm_In _ _ _ _ (by decide)]
    exact h.2.2.2.2.2.2.1
theorem okT_cut {σ : ZT} (ho : okT σ) {n : Nat} (hn : n ≤ (gT σ).length) : okT (zTX σ ((gT σ).take n) (gx σ)) := by
  have ht := ztake hn
  refine okT_x ho (by rw [ht.1]; have := ho.1.1; omega) (fun i hi => ?_) ho.2.2.2.2.2.2
  rw [ht.1] at hi
  rw [ht.2 i hi]
  exact ho.1.2 i (by omega)
theorem c_cutTo {M : ZMem} {n : Nat} (h : M.1 1 1 = zI n) (hn : n ≤ 300) {a : Int} (l1 : -2147483648 ≤ a) (u1 : a ≤ 2147483647) : f_X8_cutTo M (zI a) = if 0 ≤ a ∧ a ≤ n then some (zstI M 1 1 (zI a), zI 1) else some (M, zI 0) := by
  unfold f_X8_cutTo
  rw [h]
  by_cases h0 : a < 0
  · rw [if_pos (by simp (disch := omega) only [zk_bind, zk_chk, zk_bnd, zk_some, zlp_l, zlp_r, zb_some, zb_bnd, zI_add, zI_sub, zI_mul, zI_neg, zI_le, zI_lt, zI_eq, zI_ix, zI_inI, Int.toNat_natCast, Int.toNat_add, Int.toNat_mul, true_and, and_true]; omega), if_neg (by omega)]
  · rw [if_neg (by simp (disch := omega) only [zk_bind, zk_chk, zk_bnd, zk_some, zlp_l, zlp_r, zb_some, zb_bnd, zI_add, zI_sub, zI_mul, zI_neg, zI_le, zI_lt, zI_eq, zI_ix, zI_inI, Int.toNat_natCast, Int.toNat_add, Int.toNat_mul, true_and, and_true]; omega)]
    by_cases h1 : a ≤ n
    · rw [if_pos (by simp (disch := omega) only [zk_bind, zk_chk, zk_bnd, zk_some, zlp_l, zlp_r, zb_some, zb_bnd, zI_add, zI_sub, zI_mul, zI_neg, zI_le, zI_lt, zI_eq, zI_ix, zI_inI, Int.toNat_natCast, Int.toNat_add, Int.toNat_mul, true_and, and_true]; omega), if_pos (by omega)]
      rfl
    · rw [if_neg (by simp (disch := omega) only [zk_bind, zk_chk, zk_bnd, zk_some, zlp_l, zlp_r, zb_some, zb_bnd, zI_add, zI_sub, zI_mul, zI_neg, zI_le, zI_lt, zI_eq, zI_ix, zI_inI, Int.toNat_natCast, Int.toNat_add, Int.toNat_mul, true_and, and_true]; omega), if_neg (by omega)]
theorem zp_end : zPr_end zRel := by
  rintro M1 M2 a1 ⟨σ, ho, hc, hr⟩
  obtain ⟨a, rfl, l1, u1⟩ := zI_of a1
  have h3 := ho.1.1
  unfold f_X11_end
  rw [c_cutTo hc.1.1 h3 l1 u1]
  unfold f_X12_end
  rw [hr.1.1]
  by_cases h0 : 0 ≤ a ∧ a ≤ (gT σ).length
  · obtain ⟨a, rfl⟩ := Int.eq_ofNat_of_zero_le h0.1
    have h1 : a ≤ (gT σ).length := by omega
    rw [if_pos h0, zb_some, if_neg (show ¬ (zI 1 = zI 0) by decide), zk_some, if_neg (by simp (disch := omega) only [zk_bind, zk_chk, zk_bnd, zk_some, zlp_l, zlp_r, zb_some, zb_bnd, zI_add, zI_sub, zI_mul, zI_neg, zI_le, zI_lt, zI_eq, zI_ix, zI_inI, Int.toNat_natCast, Int.toNat_add, Int.toNat_mul, true_and, and_true]; omega), if_pos (by simp (disch := omega) only [zk_bind, zk_chk, zk_bnd, zk_some, zlp_l, zlp_r, zb_some, zb_bnd, zI_add, zI_sub, zI_mul, zI_neg, zI_le, zI_lt, zI_eq, zI_ix, zI_inI, Int.toNat_natCast, Int.toNat_add, Int.toNat_mul, true_and, and_true]; omega), zk_bnd, zk_some]
    exact ⟨rfl, zTX σ ((gT σ).take a) (gx σ), okT_cut ho h1, c_cut ho hc h1, r_cut ho hr h1⟩
  · rw [if_neg h0, zb_some, if_pos rfl, zk_some]
    refine zk_if (fun _ => ?_) (fun h1 => ?_)
    · rw [zk_some]
      exact ⟨rfl, σ, ho, hc, hr⟩
    · rw [if_neg (by simp (disch := omega) only [zk_bind, zk_chk, zk_bnd, zk_some, zlp_l, zlp_r, zb_some, zb_bnd, zI_add, zI_sub, zI_mul, zI_neg, zI_le, zI_lt, zI_eq, zI_ix, zI_inI, Int.toNat_natCast, Int.toNat_add, Int.toNat_mul, true_and, and_true] at h1; simp (disch := omega) only [zk_bind, zk_chk, zk_bnd, zk_some, zlp_l, zlp_r, zb_some, zb_bnd, zI_add, zI_sub, zI_mul, zI_neg, zI_le, zI_lt, zI_eq, zI_ix, zI_inI, Int.toNat_natCast, Int.toNat_add, Int.toNat_mul, true_and, and_true]; omega), zk_some]
      exact ⟨rfl, σ, ho, hc, hr⟩
theorem c_put {M : ZMem} {t : List Nat} (v : Int32) (h : tapeC t M) (hl : t.length + 4 ≤ 300) : zOk (f_X8_put M v) (fun M' => tapeC (t ++ zbytes v) M' ∧ zP (fun a k => a == 2 || (a == 1 && k == 1)) M M') := by
  unfold f_X8_put
  rw [zk_bind]
  refine zOk_for0 (fun i s => s.2 = zI (24 - 8 * (i : Nat)) ∧ tapeC (t ++ (zbytes v).take i) s.1 ∧ zP (fun a k => a == 2 || (a == 1 && k == 1)) M s.1) 4 ?_ ?_ ?_
  · intro i s hi ⟨h1, h2, hp⟩
    unfold f_X8_put_L3
    have hlen : (t ++ (zbytes v).take i).length = t.length + i := by simp [zbytes]; omega
    have h3 := h2.1
    rw [hlen] at h3
    rw [h1, h3]
    rw [if_neg (by rw [zI_lt (by omega) (by omega) (by omega) (by omega)]; omega)]
    rw [if_neg (by rw [zI_le (by omega) (by omega) (by omega) (by omega)]; omega)]
    rw [zk_chk, zk_bnd, zk_bnd, zk_bnd, zk_some]
    refine ⟨zI_inI (by omega) (by omega) (by omega), ?_, ?_, zP_I (zP_I hp rfl) rfl⟩
    · rw [zI_add]
      exact congrArg zI (by omega)
    · rw [zI_ix (by omega) (by omega), zbyte_c v i hi, show ((t.length + i : Nat) : Int).toNat = t.length + i by omega, zbytes_take v i hi, ← List.append_assoc]
      refine tapeC_snoc h2 ?_ ?_ ?_
      · rw [zm_Is, zm_Iq _ _ _ _ (by decide), h3, hlen, zI_add]
        (try rfl)
      · rw [zm_Iq _ _ _ _ (by decide), hlen, zm_Is]
      · intro j hj
        rw [zm_Iq _ _ _ _ (by decide), zm_In _ _ _ _ (by omega)]
  · intro s ⟨h1, h2, hp⟩
    unfold f_X8_put_L3
    rw [h1, if_pos (by decide), zk_some]
    exact zk_some.mpr ⟨h2, hp⟩
  · refine ⟨rfl, ?_, zP_rf⟩
    rw [List.take_zero, List.append_nil]
    exact h
theorem r_puts {M : ZMem} {t : List Nat} (v : Int32) (h : tapeR t M) (hl : t.length + 4 ≤ 300) : zOk (f_X12_puts M v) (fun M' => tapeR (t ++ zbytes v) M' ∧ zP (fun a k => a == 1 || (a == 0 && k == 1)) M M') := by
  unfold f_X12_puts
  rw [zk_bind]
  refine zOk_for0 (fun i s => s.2 = zI (24 - 8 * (i : Nat)) ∧ tapeR (t ++ (zbytes v).take i) s.1 ∧ zP (fun a k => a == 1 || (a == 0 && k == 1)) M s.1) 4 ?_ ?_ ?_
  · intro i s hi ⟨h1, h2, hp⟩
    unfold f_X12_puts_L3
    have hlen : (t ++ (zbytes v).take i).length = t.length + i := by simp [zbytes]; omega
    have h3 := h2.1
    rw [hlen] at h3
    rw [h1, h3]
    rw [if_neg (by rw [zI_lt (by omega) (by omega) (by omega) (by omega)]; omega)]
    rw [zk_chk, zk_bnd, zk_bnd, zk_bnd, zk_some]
    refine ⟨zI_inI (by omega) (by omega) (by omega), ?_, ?_, zP_I (zP_I hp rfl) rfl⟩
    · rw [zI_add]
      exact congrArg zI (by omega)
    · rw [zI_ix (by omega) (by omega), pk_vb, show ((t.length + i : Nat) : Int).toNat = t.length + i by omega, zbytes_take v i hi, ← List.append_assoc]
      refine tapeR_snoc h2 ?_ ?_ ?_
      · rw [zm_Is, zm_Iq _ _ _ _ (by decide), h3, hlen, zI_add]
        (try rfl)
      · rw [zm_Iq _ _ _ _ (by decide), hlen, zm_Is]
        exact zbyte_r v i hi
      · intro j hj
        rw [zm_Iq _ _ _ _ (by decide), zm_In _ _ _ _ (by omega)]
  · intro s ⟨h1, h2, hp⟩
    unfold f_X12_puts_L3
    rw [h1, if_pos (by decide), zk_some]
    exact zk_some.mpr ⟨h2, hp⟩
  · refine ⟨rfl, ?_, zP_rf⟩
    rw [List.take_zero, List.append_nil]
    exact h
theorem zbytes_mem {v : Int32} {x : Nat} (h : x ∈ zbytes v) : x < 256 := by
  unfold zbytes at h
  simp only [List.mem_cons, List.not_mem_nil, or_false] at h
  rcases h with h | h | h | h <;> rw [h] <;> exact zbyte_lt v _
theorem zp_feed : zPr_feed zRel := by
  rintro M1 M2 a1 a2 a3 a4 a5 ⟨σ, ho, hc, hr⟩
  have h3 := ho.1.1
  have hb : ∀ x, x ∈ gT σ → x < 256 := by
    intro x hx
    obtain ⟨i, hi, rfl⟩ := List.getElem_of_mem hx
    have := ho.1.2 i hi
    rw [List.getD_eq_getElem?_getD, List.getElem?_eq_getElem hi] at this
    exact this
  unfold f_X11_feed f_X12_feed f_X8_used
  rw [zb_some, hc.1.1, hr.1.1, zI_add]
  by_cases h : (gT σ).length + 20 ≤ 300
  · rw [if_pos (by simp (disch := omega) only [zk_bind, zk_chk, zk_bnd, zk_some, zlp_l, zlp_r, zb_some, zb_bnd, zI_add, zI_sub, zI_mul, zI_neg, zI_le, zI_lt, zI_eq, zI_ix, zI_inI, Int.toNat_natCast, Int.toNat_add, Int.toNat_mul, true_and, and_true]; omega), if_pos (by simp (disch := omega) only [zk_bind, zk_chk, zk_bnd, zk_some, zlp_l, zlp_r, zb_some, zb_bnd, zI_add, zI_sub, zI_mul, zI_neg, zI_le, zI_lt, zI_eq, zI_ix, zI_inI, Int.toNat_natCast, Int.toNat_add, Int.toNat_mul, true_and, and_true]; omega)]
    have l4 : ∀ v, (zbytes v).length = 4 := fun v => rfl
    rw [zk_bind]
    refine zOk_mono (c_put a1 hc.1 (by omega)) (fun m1 k1 => ?_)
    rw [zk_bind]
    refine zOk_mono (c_put a2 k1.1 (by simp only [List.length_append, l4]; omega)) (fun m2 k2 => ?_)
    rw [zk_bind]
    refine zOk_mono (c_put a3 k2.1 (by simp only [List.length_append, l4]; omega)) (fun m3 k3 => ?_)
    rw [zk_bind]
    refine zOk_mono (c_put a4 k3.1 (by simp only [List.length_append, l4]; omega)) (fun m4 k4 => ?_)
    rw [zk_bind]
    refine zOk_mono (c_put a5 k4.1 (by simp only [List.length_append, l4]; omega)) (fun m5 k5 => ?_)
    rw [zb_some, zk_some]
    have kp := zP_tr k1.2 (zP_tr k2.2 (zP_tr k3.2 (zP_tr k4.2 k5.2)))
    rw [zk_bind]
    refine zOk_mono (r_puts a1 hr.1 (by omega)) (fun n1 j1 => ?_)
    rw [zk_bind]
    refine zOk_mono (r_puts a2 j1.1 (by simp only [List.length_append, l4]; omega)) (fun n2 j2 => ?_)
    rw [zk_bind]
    refine zOk_mono (r_puts a3 j2.1 (by simp only [List.length_append, l4]; omega)) (fun n3 j3 => ?_)
    rw [zk_bind]
    refine zOk_mono (r_puts a4 j3.1 (by simp only [List.length_append, l4]; omega)) (fun n4 j4 => ?_)
    rw [zk_bind]
    refine zOk_mono (r_puts a5 j4.1 (by simp only [List.length_append, l4]; omega)) (fun n5 j5 => ?_)
    have jp := zP_tr j1.2 (zP_tr j2.2 (zP_tr j3.2 (zP_tr j4.2 j5.2)))
    rw [zk_some]
    refine ⟨by dsimp only; rw [k5.1.1, j5.1.1], zTX σ _ (gx σ), okT_x ho ?_ (fun i hi => ?_) ho.2.2.2.2.2.2, relC_y (zP_mono kp (fun a k ha => ?_)) k5.1 ?_ hc, relR_y (zP_mono jp (fun a k ha => ?_)) j5.1 ?_ hr⟩
    · simp only [List.length_append, l4]
      omega
    · have hm := zgetD_m hi
      rw [List.mem_append, List.mem_append, List.mem_append, List.mem_append, List.mem_append] at hm
      rcases hm with ((((hm | hm) | hm) | hm) | hm) | hm
      · exact hb _ hm
      all_goals exact zbytes_mem hm
    · unfold zScCy at ha
      simp at ha ⊢
      omega
    · dsimp only
      rw [kp.1 0 12 rfl]
      exact hc.2.2.2.2.1
    · unfold zScRy at ha
      simp at ha ⊢
      omega
    · dsimp only
      rw [jp.1 0 41 rfl]
      exact hr.2.2.2.2.2.2.1
  · rw [if_neg (by simp (disch := omega) only [zk_bind, zk_chk, zk_bnd, zk_some, zlp_l, zlp_r, zb_some, zb_bnd, zI_add, zI_sub, zI_mul, zI_neg, zI_le, zI_lt, zI_eq, zI_ix, zI_inI, Int.toNat_natCast, Int.toNat_add, Int.toNat_mul, true_and, and_true]; omega), if_neg (by simp (disch := omega) only [zk_bind, zk_chk, zk_bnd, zk_some, zlp_l, zlp_r, zb_some, zb_bnd, zI_add, zI_sub, zI_mul, zI_neg, zI_le, zI_lt, zI_eq, zI_ix, zI_inI, Int.toNat_natCast, Int.toNat_add, Int.toNat_mul, true_and, and_true]; omega), zk_some, zk_some]
    exact ⟨rfl, σ, ho, hc, hr⟩
