/-! ===== tests: the reference ===== deps: 97.ze.test2 -/
def whlR (wl : List Nat) (kv : Nat → Nat → Int) (R : ZMem) : Prop := (∀ k, k < wl.length → R.1 28 k = zI (wl.getD k 0)) ∧ ∀ k, k < wl.length → R.1 29 k = zI (5 * kv 0 (wl.getD k 0) + kv 1 (wl.getD k 0))
theorem r_laysWhole {M : ZMem} {F : Nat} {h : Nat → Int} {gr : Nat → Nat → Nat} {sg : Nat → Nat} (hF : F ≤ 20) (hF1 : M.1 0 4 = zI F) (hk : okH F h) (hsg : ∀ f, f < F → M.1 11 f = zI (sg f)) (hsl : ∀ f, f < F → sg f < 20) (hn : knR F h gr M) : zOk (f_X12_laysWhole M) (fun r => r.2 = zI ((zwhl (zkv F h gr sg)).length : Int) ∧ whlR (zwhl (zkv F h gr sg)) (zkv F h gr sg) r.1 ∧ zP (fun a _ => a == 28 || a == 29) M r.1) := by
  have hPe : ∀ f, f < F → ((zkv F h gr sg 0 f ≠ -1 ∧ zkv F h gr sg 1 f ≠ -1) ↔ (sg f = f ∧ zwh F h gr f)) := by
    intro f hf
    unfold zkv zwh
    by_cases hc : f < F ∧ sg f = f
    · rw [zif_t hc, zif_t hc]
      exact ⟨fun hh => ⟨hc.2, hh⟩, fun hh => hh.2⟩
    · rw [zif_f hc, zif_f hc]
      exact ⟨fun hh => absurd rfl hh.1, fun hh => absurd ⟨hf, hh.1⟩ hc⟩
  have hwl : zwhl (zkv F h gr sg) = zfil (fun s => zkv F h gr sg 0 s ≠ -1 ∧ zkv F h gr sg 1 s ≠ -1) F := by
    unfold zwhl
    refine zfil_ext hF (fun x h1 h2 h3 => ?_)
    refine h3.1 ?_
    unfold zkv
    exact zif_f (fun hh => by omega) _ _
  rw [hwl]
  unfold f_X12_laysWhole
  rw [zk_bind]
  refine zOk_forQ (fun f x => x.2.2 = zI f ∧ x.2.1 = zI ((zfil (fun s => zkv F h gr sg 0 s ≠ -1 ∧ zkv F h gr sg 1 s ≠ -1) f).length : Int) ∧ whlR (zfil (fun s => zkv F h gr sg 0 s ≠ -1 ∧ zkv F h gr sg 1 s ≠ -1) f) (zkv F h gr sg) x.1 ∧ zP (fun a _ => a == 28 || a == 29) M x.1) F ?_ ?_ ⟨rfl, rfl, ⟨fun k hk => absurd hk (Nat.not_lt_zero k), fun k hk => absurd hk (Nat.not_lt_zero k)⟩, zP_rf⟩
  · rintro f ⟨x1, x2, x3⟩ hf ⟨e1, e2, e3, e4⟩ Q hQ _
    dsimp only at e1 e2 e3 e4
    have hle := zfil_le (fun s => zkv F h gr sg 0 s ≠ -1 ∧ zkv F h gr sg 1 s ≠ -1) f
    have hn1 : knR F h gr x1 := fun kind g h1 h2 => by rw [e4.1 25 _ rfl]; exact hn kind g h1 h2
    have hg : ∀ f, f < F → x1.1 11 f = zI (sg f) := fun f hf => by rw [e4.1 11 f rfl]; exact hsg f hf
    unfold f_X12_laysWhole_L4
    dsimp only
    rw [e4.1 0 4 rfl, hF1, e1, if_neg (by simp (disch := omega) only [zk_bind, zk_chk, zk_bnd, zk_some, zlp_l, zlp_r, zb_some, zb_bnd, zI_add, zI_sub, zI_mul, zI_neg, zI_le, zI_lt, zI_eq, zI_ix, zI_inI, Int.toNat_natCast, Int.toNat_add, Int.toNat_mul, true_and, and_true]; omega), r_isSign hF hg hsl hf, zb_some]
    have skip : ¬ (sg f = f ∧ zwh F h gr f) → zOk (zbnd (zI f + zI 1) (fun x2_62 => (some (.inl (x1, x2, x2_62)) : Option ((ZMem × Int32 × Int32) ⊕ (ZMem × Int32))))) Q := by
      intro hno
      have hs := zfil_f (P := fun s => zkv F h gr sg 0 s ≠ -1 ∧ zkv F h gr sg 1 s ≠ -1) (N := f) (fun hh => hno ((hPe f hf).mp hh))
      rw [zk_bnd, zk_some, zI_add]
      refine hQ _ ⟨zI_inj (by omega), ?_, ?_, e4⟩
      · rw [hs]; exact e2
      · rw [hs]; exact e3
    by_cases c1 : sg f = f
    · rw [if_neg (by rw [zb_0]; exact not_not_intro c1), r_whole hF hk hn1 hf, zb_some]
      by_cases c2 : zwh F h gr f
      · have hs := zfil_t (P := fun s => zkv F h gr sg 0 s ≠ -1 ∧ zkv F h gr sg 1 s ≠ -1) (N := f) ((hPe f hf).mpr ⟨c1, c2⟩)
        have k0 := hn 0 f (by decide) hf
        have k1 := hn 1 f (by decide) hf
        rw [Nat.mul_zero, Nat.zero_add] at k0
        rw [Nat.mul_one] at k1
        rw [if_neg (by rw [zb_0]; exact not_not_intro c2), e2, zI_inI (by omega) (by omega) (by omega), zb_chk, zk_bnd, zI_inI (by omega) (by omega) (by omega), zb_chk, zI_add, zI_inI (by omega) (by omega) (by omega), zb_chk, zb_chk, zk_bnd, zk_bnd, zk_bnd, zk_some, zI_ix (by omega) (by omega), zI_ix (by omega) (by omega), zI_ix (by omega) (by omega), Int.toNat_natCast, Int.toNat_natCast, show (20 + (f : Int)).toNat = 20 + f by omega, zm_Iq _ _ _ _ (by decide), e4.1 25 _ rfl, e4.1 25 _ rfl, k0, k1, zI_mul, zI_add, zI_add, zI_add]
        have ev : ∀ kind, zkv F h gr sg kind f = zkn F h gr kind f := fun kind => zif_t ⟨hf, c1⟩ _ _
        refine hQ _ ⟨zI_inj (by omega), by rw [hs, List.length_append, List.length_singleton]; exact zI_inj (by omega), ⟨fun k hk => ?_, fun k hk => ?_⟩, zP_I (zP_I e4 rfl) rfl⟩
        · rw [hs, List.length_append, List.length_singleton] at hk
          rw [hs, zm_Iq _ _ _ _ (by decide)]
          by_cases he : k = (zfil (fun s => zkv F h gr sg 0 s ≠ -1 ∧ zkv F h gr sg 1 s ≠ -1) f).length
          · rw [he, zm_Is, zgetD_e]
          · rw [zm_In _ _ _ _ he, zgetD_l (by omega)]
            exact e3.1 k (by omega)
        · rw [hs, List.length_append, List.length_singleton] at hk
          rw [hs]
          by_cases he : k = (zfil (fun s => zkv F h gr sg 0 s ≠ -1 ∧ zkv F h gr sg 1 s ≠ -1) f).length
          · rw [he, zm_Is, zgetD_e, ev 0, ev 1]
          · rw [zm_In _ _ _ _ he, zm_Iq _ _ _ _ (by decide), zgetD_l (by omega)]
            exact e3.2 k (by omega)
      · rw [if_pos (by rw [zb_0]; exact c2)]
        exact skip (fun hh => c2 hh.2)
    · rw [if_pos (by rw [zb_0]; exact c1)]
      exact skip (fun hh => c1 hh.1)
  · rintro ⟨x1, x2, x3⟩ ⟨e1, e2, e3, e4⟩
    dsimp only at e1 e2 e3 e4
    refine ⟨(x1, x2), ?_, ?_⟩
    · unfold f_X12_laysWhole_L4
      dsimp only
      rw [e4.1 0 4 rfl, hF1, e1, if_pos (by simp (disch := omega) only [zk_bind, zk_chk, zk_bnd, zk_some, zlp_l, zlp_r, zb_some, zb_bnd, zI_add, zI_sub, zI_mul, zI_neg, zI_le, zI_lt, zI_eq, zI_ix, zI_inI, Int.toNat_natCast, Int.toNat_add, Int.toNat_mul, true_and, and_true]; omega)]
    · rw [zk_some]
      exact ⟨e2, e3, e4⟩
theorem r_drawn {M : ZMem} {x i : Nat} (hx : x < 2147483648) (hi : i < 20) (hM : M.1 0 41 = zI x) : f_X12_drawn M (zI i + zI 1) = some (zstI M 0 41 (zI (zlcg x)), zI ((zlcg x / 65536 % (i + 1) : Nat) : Int)) := by
  have hz : zne (zI i + zI 1) = true := by
    rw [zI_add]
    unfold zne
    simp only [decide_eq_true_eq]
    rw [show (0 : Int32) = zI 0 from rfl, zI_eq (by omega) (by omega) (by omega) (by omega)]
    omega
  unfold f_X12_drawn
  rw [hM, zlcg_r hx, zb_bnd, hz, zb_chk, zm_Is, c_draw hx hi]
def zWmx (a k : Nat) : Bool := a == 25 || a == 30 || (a == 0 && k == 41)
theorem r_mixes {M : ZMem} {F : Nat} {wl : List Nat} {kv : Nat → Nat → Int} {x : Nat} (hF : F ≤ 20) (hlen : wl.length ≤ 20) (hmem : ∀ k, k < wl.length → wl.getD k 0 < F) (hinj : ∀ i j, i < wl.length → j < wl.length → wl.getD i 0 = wl.getD j 0 → i = j) (hv : okV kv) (hkn : ∀ k, k < wl.length → kv 0 (wl.getD k 0) ≠ -1 ∧ kv 1 (wl.getD k 0) ≠ -1 ∧ kv 1 (wl.getD k 0) ≤ 4) (hx : x < 2147483648) (hM : M.1 0 41 = zI x) (hw : whlR wl kv M) : zOk (f_X12_mixes M (zI (wl.length : Int))) (fun M' => knV F (zmx wl (zshP wl.length x (wl.length - 1)) kv) M' ∧ M'.1 0 41 = zI (zshX x (wl.length - 1)) ∧ zP zWmx M M') := by
  obtain ⟨w1, w2⟩ := hw
  unfold f_X12_mixes
  rw [zk_bind]
  refine zOk_for0 (fun i s => s.2 = zI i ∧ zP (fun a _ => a == 30) M s.1 ∧ ∀ k, k < i → s.1.1 30 k = M.1 29 k) wl.length ?_ ?_ ⟨rfl, zP_rf, fun k hk => absurd hk (Nat.not_lt_zero k)⟩
  · rintro i ⟨s1, s2⟩ hi ⟨e1, e2, e3⟩
    dsimp only at e1 e2 e3
    unfold f_X12_mixes_L2
    dsimp only
    rw [e1, if_neg (by simp (disch := omega) only [zk_bind, zk_chk, zk_bnd, zk_some, zlp_l, zlp_r, zb_some, zb_bnd, zI_add, zI_sub, zI_mul, zI_neg, zI_le, zI_lt, zI_eq, zI_ix, zI_inI, Int.toNat_natCast, Int.toNat_add, Int.toNat_mul, true_and, and_true]; omega), zI_inI (by omega) (by omega) (by omega), zb_chk, zb_chk, zI_ix (by omega) (by omega), Int.toNat_natCast, e2.1 29 i rfl, zk_bnd, zk_bnd, zk_some, zlp_l, zI_add]
    refine ⟨zI_inj (by omega), zP_I e2 rfl, fun k hk => ?_⟩
    by_cases he : k = i
    · rw [he, zm_Is]
    · rw [zm_In _ _ _ _ he]; exact e3 k (by omega)
  rintro ⟨s1, s2⟩ ⟨e1, e2, e3⟩
  dsimp only at e1 e2 e3
  unfold f_X12_mixes_L2
  dsimp only
  rw [e1, if_pos (by simp (disch := omega) only [zk_bind, zk_chk, zk_bnd, zk_some, zlp_l, zlp_r, zb_some, zb_bnd, zI_add, zI_sub, zI_mul, zI_neg, zI_le, zI_lt, zI_eq, zI_ix, zI_inI, Int.toNat_natCast, Int.toNat_add, Int.toNat_mul, true_and, and_true]; omega), zk_some, zlp_r, zI_sub, zk_bnd, zk_bind]
  refine zOk_forQ (fun j s => s.2 = zI ((wl.length : Int) - 1 - j) ∧ s.1.1 0 41 = zI (zshX x j) ∧ zP (fun a k => a == 30 || (a == 0 && k == 41)) M s.1 ∧ ∀ k, k < wl.length → s.1.1 30 k = M.1 29 (zshP wl.length x j k)) (wl.length - 1) ?_ ?_ ⟨zI_inj (by omega), by rw [e2.1 0 41 rfl]; exact hM, zP_mono e2 (fun a k ha => by simp at ha ⊢; exact ha.1), fun k hk => e3 k hk⟩
  · rintro j ⟨t1, t2⟩ hj ⟨d1, d2, d3, d4⟩ Q hQ _
    dsimp only at d1 d2 d3 d4
    have hX := zshX_lt hx j
    have hd := zdrw_le wl.length x j
    unfold f_X12_mixes_L29
    dsimp only
    rw [d1, if_neg (by simp (disch := omega) only [zk_bind, zk_chk, zk_bnd, zk_some, zlp_l, zlp_r, zb_some, zb_bnd, zI_add, zI_sub, zI_mul, zI_neg, zI_le, zI_lt, zI_eq, zI_ix, zI_inI, Int.toNat_natCast, Int.toNat_add, Int.toNat_mul, true_and, and_true]; omega), show ((wl.length : Int) - 1 - j) = ((wl.length - 1 - j : Nat) : Int) by omega, r_drawn hX (by omega) d2, zb_some]
    dsimp only
    rw [show zlcg (zshX x j) / 65536 % (wl.length - 1 - j + 1) = zdrw wl.length x j from rfl, zI_inI (by omega) (by omega) (by omega), zb_chk, zk_bnd, zI_inI (by omega) (by omega) (by omega), zb_chk, zb_chk, zk_bnd, zb_chk, zk_bnd, zk_bnd, zk_some, zI_ix (by omega) (by omega), zI_ix (by omega) (by omega), Int.toNat_natCast, Int.toNat_natCast, zm_Iq _ _ _ _ (by decide), d4 _ (by omega), d4 _ (by omega), zI_add]
    refine hQ _ ⟨zI_inj (by omega), ?_, zP_I (zP_I (zP_I d3 rfl) rfl) rfl, fun k hk => ?_⟩
    · rw [zm_Iq _ _ _ _ (by decide), zm_Iq _ _ _ _ (by decide), zm_Is]
      rfl
    · show _ = M.1 29 (zswp (zshP wl.length x j) (wl.length - 1 - j) (zdrw wl.length x j) k)
      unfold zswp
      rw [zm_I]
      by_cases c1 : k = zdrw wl.length x j
      · rw [if_pos ⟨rfl, c1⟩]
        by_cases c2 : k = wl.length - 1 - j
        · rw [if_pos c2, ← c1, c2]
        · rw [if_neg c2, if_pos c1]
      · rw [if_neg (fun hh => c1 hh.2), zm_I]
        by_cases c2 : k = wl.length - 1 - j
        · rw [if_pos ⟨rfl, c2⟩, if_pos c2]
        · rw [if_neg (fun hh => c2 hh.2), if_neg c2, if_neg c1, zm_Iq _ _ _ _ (by decide)]
          exact d4 k hk
  · rintro ⟨t1, t2⟩ ⟨d1, d2, d3, d4⟩
    dsimp only at d1 d2 d3 d4
    refine ⟨t1, ?_, ?_⟩
    · unfold f_X12_mixes_L29
      dsimp only
      rw [d1, if_pos (by simp (disch := omega) only [zk_bind, zk_chk, zk_bnd, zk_some, zlp_l, zlp_r, zb_some, zb_bnd, zI_add, zI_sub, zI_mul, zI_neg, zI_le, zI_lt, zI_eq, zI_ix, zI_inI, Int.toNat_natCast, Int.toNat_add, Int.toNat_mul, true_and, and_true]; omega)]
    · have hπ : ∀ k, k < wl.length → zshP wl.length x (wl.length - 1) k < wl.length := fun k hk => zshP_lt (wl.length - 1) k (by omega) hk
      rw [zk_bind]
      refine zOk_for0 (fun i s => s.2 = zI i ∧ zP (fun a _ => a == 25) t1 s.1 ∧ ∀ k, k < i → s.1.1 25 k = zI (-1)) 40 ?_ ?_ ⟨rfl, zP_rf, fun k hk => absurd hk (Nat.not_lt_zero k)⟩
      · rintro i ⟨u1, u2⟩ hi ⟨c1, c2, c3⟩
        dsimp only at c1 c2 c3
        unfold f_X12_mixes_L77
        dsimp only
        rw [c1, if_neg (by simp (disch := omega) only [zk_bind, zk_chk, zk_bnd, zk_some, zlp_l, zlp_r, zb_some, zb_bnd, zI_add, zI_sub, zI_mul, zI_neg, zI_le, zI_lt, zI_eq, zI_ix, zI_inI, Int.toNat_natCast, Int.toNat_add, Int.toNat_mul, true_and, and_true]; omega), zI_inI (by omega) (by omega) (by omega), zb_chk, zI_ix (by omega) (by omega), Int.toNat_natCast, zk_bnd, zk_bnd, zk_some, zlp_l, zI_add]
        refine ⟨zI_inj (by omega), zP_I c2 rfl, fun k hk => ?_⟩
        by_cases he : k = i
        · rw [he, zm_Is]
        · rw [zm_In _ _ _ _ he]; exact c3 k (by omega)
      rintro ⟨u1, u2⟩ ⟨c1, c2, c3⟩
      dsimp only at c1 c2 c3
      unfold f_X12_mixes_L77
      dsimp only
      rw [c1, if_pos (by simp (disch := omega) only [zk_bind, zk_chk, zk_bnd, zk_some, zlp_l, zlp_r, zb_some, zb_bnd, zI_add, zI_sub, zI_mul, zI_neg, zI_le, zI_lt, zI_eq, zI_ix, zI_inI, Int.toNat_natCast, Int.toNat_add, Int.toNat_mul, true_and, and_true]; omega), zk_some, zlp_r, zk_bind]
      refine zOk_for0 (fun i s => s.2 = zI i ∧ zP (fun a _ => a == 25) t1 s.1 ∧ (∀ k, k < i → s.1.1 25 (wl.getD k 0) = zI (kv 0 (wl.getD (zshP wl.length x (wl.length - 1) k) 0)) ∧ s.1.1 25 (20 + wl.getD k 0) = zI (kv 1 (wl.getD (zshP wl.length x (wl.length - 1) k) 0))) ∧ ∀ s', s' < F → (∀ k, k < i → wl.getD k 0 ≠ s') → s.1.1 25 s' = zI (-1) ∧ s.1.1 25 (20 + s') = zI (-1)) wl.length ?_ ?_ ⟨rfl, c2, fun k hk => absurd hk (Nat.not_lt_zero k), fun s' hs' _ => ⟨c3 s' (by omega), c3 (20 + s') (by omega)⟩⟩
      · rintro i ⟨v1, v2⟩ hi ⟨b1, b2, b3, b4⟩
        dsimp only at b1 b2 b3 b4
        have hmi := hmem i hi
        have hpi := hπ i hi
        have hval : t1.1 30 i = zI (5 * kv 0 (wl.getD (zshP wl.length x (wl.length - 1) i) 0) + kv 1 (wl.getD (zshP wl.length x (wl.length - 1) i) 0)) := by rw [d4 i hi]; exact w2 _ hpi
        have ho0 := hv 0 (wl.getD (zshP wl.length x (wl.length - 1) i) 0)
        have ho1 := hv 1 (wl.getD (zshP wl.length x (wl.length - 1) i) 0)
        have hk2 := hkn _ hpi
        generalize hA : kv 0 (wl.getD (zshP wl.length x (wl.length - 1) i) 0) = A at *
        generalize hB : kv 1 (wl.getD (zshP wl.length x (wl.length - 1) i) 0) = B at *
        have h28 : t1.1 28 i = zI (wl.getD i 0) := by rw [d3.1 28 i rfl]; exact w1 i hi
        unfold f_X12_mixes_L98
        dsimp only
        rw [b1, if_neg (by simp (disch := omega) only [zk_bind, zk_chk, zk_bnd, zk_some, zlp_l, zlp_r, zb_some, zb_bnd, zI_add, zI_sub, zI_mul, zI_neg, zI_le, zI_lt, zI_eq, zI_ix, zI_inI, Int.toNat_natCast, Int.toNat_add, Int.toNat_mul, true_and, and_true]; omega), zI_inI (by omega) (by omega) (by omega), zb_chk, zb_chk, zI_ix (by omega) (by omega), Int.toNat_natCast, b2.1 28 i rfl, b2.1 30 i rfl, h28, hval, zI_inI (by omega) (by omega) (by omega), zb_chk, zk_bnd, zb_chk, zb_chk, zm_Iq _ _ _ _ (by decide), zm_Iq _ _ _ _ (by decide), b2.1 28 i rfl, b2.1 30 i rfl, h28, hval, zI_add, zI_inI (by omega) (by omega) (by omega), zb_chk, zk_bnd, zk_bnd, zk_some, zlp_l, zI_rem (by omega) (by omega) (by omega) (by omega), zI_div (by omega) (by omega) (by omega) (by omega), zI_ix (by omega) (by omega), zI_ix (by omega) (by omega), Int.toNat_natCast, show (20 + (wl.getD i 0 : Int)).toNat = 20 + wl.getD i 0 by omega, zI_add]
        refine ⟨zI_inj (by omega), zP_I (zP_I b2 rfl) rfl, fun k hk => ?_, fun s' hs' hns => ?_⟩
        · by_cases he : k = i
          · rw [he]
            exact ⟨by rw [zm_In _ _ _ _ (by omega), zm_Is, hA]; exact zI_inj (by omega), by rw [zm_Is, hB]; exact zI_inj (by omega)⟩
          · have hki := hmem k (by omega)
            have hne : wl.getD k 0 ≠ wl.getD i 0 := fun h => he (hinj k i (by omega) hi h)
            exact ⟨by rw [zm_In _ _ _ _ (by omega), zm_In _ _ _ _ hne]; exact (b3 k (by omega)).1, by rw [zm_In _ _ _ _ (by omega), zm_In _ _ _ _ (by omega)]; exact (b3 k (by omega)).2⟩
        · have hne := hns i (by omega)
          have hb4 := b4 s' hs' (fun k hk => hns k (by omega))
          exact ⟨by rw [zm_In _ _ _ _ (by omega), zm_In _ _ _ _ (Ne.symm hne)]; exact hb4.1, by rw [zm_In _ _ _ _ (by omega), zm_In _ _ _ _ (by omega)]; exact hb4.2⟩
      · rintro ⟨v1, v2⟩ ⟨b1, b2, b3, b4⟩
        dsimp only at b1 b2 b3 b4
        unfold f_X12_mixes_L98
        dsimp only
        rw [b1, if_pos (by simp (disch := omega) only [zk_bind, zk_chk, zk_bnd, zk_some, zlp_l, zlp_r, zb_some, zb_bnd, zI_add, zI_sub, zI_mul, zI_neg, zI_le, zI_lt, zI_eq, zI_ix, zI_inI, Int.toNat_natCast, Int.toNat_add, Int.toNat_mul, true_and, and_true]; omega), zk_some, zlp_r, zk_some]
        refine ⟨fun kind s' hkd hs' => ?_, by rw [b2.1 0 41 rfl]; exact d2, zP_tr (zP_mono d3 (fun a k ha => by unfold zWmx at ha; simp at ha ⊢; omega)) (zP_mono b2 (fun a k ha => by unfold zWmx at ha; simp at ha ⊢; omega))⟩
        have hone : v1.1 25 s' = zI (zmx wl (zshP wl.length x (wl.length - 1)) kv 0 s') ∧ v1.1 25 (20 + s') = zI (zmx wl (zshP wl.length x (wl.length - 1)) kv 1 s') := by
          by_cases hw : ∃ k, k < wl.length ∧ wl.getD k 0 = s'
          · obtain ⟨k, k1, k2⟩ := hw
            unfold zmx
            rw [← k2, zmxB_k hinj _ _ _ _ k1, zmxB_k hinj _ _ _ _ k1]
            exact b3 k k1
          · unfold zmx zmxB
            rw [zif_f hw, zif_f hw]
            exact b4 s' hs' (fun k hk he => hw ⟨k, hk, he⟩)
        by_cases hk0 : kind = 0
        · rw [hk0, Nat.mul_zero, Nat.zero_add]; exact hone.1
        · rw [show kind = 1 by omega, Nat.mul_one]; exact hone.2
