/-! ===== ways: the class counts ===== deps: 97.y.choose -/
theorem zfil_split (P : Nat → Prop) {k W : Nat} (h : k ≤ W) : ∃ r, zfil P W = zfil P k ++ r := by
  obtain ⟨d, rfl⟩ := Nat.exists_eq_add_of_le h
  clear h
  induction d with
  | zero => exact ⟨[], by simp⟩
  | succ d ih =>
    obtain ⟨r, hr⟩ := ih
    rw [← Nat.add_assoc]
    by_cases hp : P (k + d)
    · exact ⟨r ++ [k + d], by rw [zfil_t hp, hr, List.append_assoc]⟩
    · exact ⟨r, by rw [zfil_f hp, hr]⟩
def chPre (c1 : Nat → Nat → Prop) (c2 : Nat → Nat → Nat → Nat → Prop) (W N : Nat) (p : List Nat) (t : Nat) (M : ZMem) : Prop := M.1 17 2 = zI N ∧ M.1 34 6 = zI W ∧ opn c1 c2 W N p M ∧ prt c1 c2 W N M ∧ M.1 59 9 = zI t ∧ t ≤ 999 ∧ ∀ m, m < p.length → M.1 62 m = zI (p.getD m 0)
def chPost (A : List (List Nat)) (N : Nat) (p : List Nat) (t : Nat) (M M' : ZMem) : Prop := zP2 zWw zVw M M' ∧ M'.1 59 9 = zI ((min 999 (t + A.length) : Nat) : Int) ∧ (t = 0 → ∀ x, A.head? = some x → ∀ m, m < N → M'.1 63 m = zI (x.getD m 0)) ∧ (0 < t → ∀ m, M'.1 63 m = M.1 63 m) ∧ (∀ m, m < p.length → M'.1 62 m = M.1 62 m) ∧ (∀ i, M'.2 60 i = M.2 60 i) ∧ ∀ i, i < ((p.length + 1) * 4) * 3 → M'.2 61 i = M.2 61 i
theorem c_countLast {M : ZMem} {c1 : Nat → Nat → Prop} {c2 : Nat → Nat → Nat → Nat → Prop} {W N : Nat} {p : List Nat} {t : Nat} (hN4 : N ≤ 4) (hW : W ≤ 120) (hp : p.length + 1 = N) (h : chPre c1 c2 W N p t M) : zOk (f_X10_countLast M (zI p.length)) (fun M' => chPost (zwy c1 c2 W 1 p) N p t M M') := by
  obtain ⟨h1, h2, h3, h4, h5, h6, h7⟩ := h
  have hz : zwy c1 c2 W 1 p = (zfil (zok c1 c2 p p.length) W).map (fun w => p ++ [w]) := by
    show (zfil (zok c1 c2 p p.length) W).flatMap (fun w => [p ++ [w]]) = _
    induction zfil (zok c1 c2 p p.length) W with
    | nil => rfl
    | cons a r ih => rw [List.flatMap_cons, ih]; rfl
  unfold f_X10_countLast
  rw [zk_bind]
  refine zOk_forQ (fun k x => x.2.2 = zI k ∧ x.2.1 = zI ((zfil (zok c1 c2 p p.length) k).length : Int) ∧ zP2 zWw zVw M x.1 ∧ x.1.2 = M.2 ∧ x.1.1 59 9 = zI t ∧ (t = 0 → ∀ w, (zfil (zok c1 c2 p p.length) k).head? = some w → ∀ m, m < N → x.1.1 63 m = zI ((p ++ [w]).getD m 0)) ∧ (0 < t → ∀ m, x.1.1 63 m = M.1 63 m) ∧ ∀ m, m < p.length → x.1.1 62 m = M.1 62 m) W ?_ ?_ ⟨rfl, rfl, zP2_rf, rfl, h5, (fun _ w hw => by cases hw), fun _ _ => rfl, fun _ _ => rfl⟩
  · rintro k ⟨x1, x2, x3⟩ hk ⟨e1, e2, e3, e4, e5, e6, e7, e8⟩ Q hQ _
    dsimp only at e1 e2 e3 e4 e5 e6 e7 e8
    have hB : zBt x1 61 ((p.length * 4 + p.length) * 3) (fun k => k < W ∧ zok c1 c2 p p.length k) := zBt_x (h3 p.length (Nat.le_refl _) (by omega)) (fun i _ => by rw [e4])
    have hle := zfil_le (zok c1 c2 p p.length) k
    unfold f_X10_countLast_L4 f_X2_held
    dsimp only
    rw [zb_some, e3.1 34 6 rfl, h2, e1, if_neg (by simp (disch := omega) only [zk_bind, zk_chk, zk_bnd, zk_some, zlp_l, zlp_r, zb_some, zb_bnd, zI_add, zI_sub, zI_mul, zI_neg, zI_le, zI_lt, zI_eq, zI_ix, zI_inI, Int.toNat_natCast, Int.toNat_add, Int.toNat_mul, true_and, and_true]; omega), c_openAt (by omega) (by omega), zb_some, c_hasBit hB (by omega) (by omega) (by omega), zb_some]
    by_cases hc : zok c1 c2 p p.length k
    · have hs := zfil_t (P := zok c1 c2 p p.length) hc
      rw [if_neg (by rw [zb_0]; exact not_not_intro ⟨hk, hc⟩), e5]
      have keep : (0 < t ∨ 0 < (zfil (zok c1 c2 p p.length) k).length) → zOk (zbnd (x2 + zI 1) (fun x2_63 => zbnd (zI k + zI 1) (fun x3_66 => (some (.inl (x1, x2_63, x3_66)) : Option ((ZMem × Int32 × Int32) ⊕ (ZMem × Int32)))))) Q := by
        intro hpos
        rw [zk_bnd, zk_bnd, zk_some, e2, zI_add, zI_add]
        refine hQ _ ⟨zI_inj (by omega), by rw [hs, List.length_append, List.length_singleton]; exact zI_inj (by omega), e3, e4, e5, fun t0 w hw => ?_, e7, e8⟩
        refine e6 t0 w ?_
        rw [hs] at hw
        cases hz : zfil (zok c1 c2 p p.length) k with
        | nil => rw [hz] at hpos; simp at hpos; omega
        | cons a r => rw [hz] at hw; exact hw
      by_cases ht : t = 0
      · rw [if_pos (by rw [ht]; rfl)]
        by_cases hn0 : (zfil (zok c1 c2 p p.length) k).length = 0
        · rw [if_pos (by rw [e2, hn0]; rfl), zI_inI (by omega) (by omega) (by omega), zb_chk, zk_bnd, show zcp (zI 0) (zI 0) (zI 4) 4 4 = true from by decide, zb_chk, zk_bnd, zk_bnd, zk_bnd, zk_some, e2, zI_add, zI_add, zI_ix (by omega) (by omega), Int.toNat_natCast, show zix (zI 0) = 0 from rfl, show zix (zI 4) = 4 from rfl]
          refine hQ _ ⟨zI_inj (by omega), by rw [hs, List.length_append, List.length_singleton]; exact zI_inj (by omega), zP2_F (zP2_I e3 rfl) (fun _ => rfl), e4, by rw [zm_Fq _ _ _ (by decide), zm_Iq _ _ _ _ (by decide)]; exact e5, fun _ w hw m hm => ?_, fun h => by omega, fun m hm => ?_⟩
          · have hnil : zfil (zok c1 c2 p p.length) k = [] := List.length_eq_zero_iff.mp hn0
            rw [hs, hnil] at hw
            have hwk : k = w := by simpa using hw
            subst hwk
            rw [zm_Fs]
            unfold va_cpy
            rw [if_pos (by omega), show 0 + (m - 0) = m by omega]
            by_cases he : m = p.length
            · rw [he, zm_Is, zgetD_e]
            · rw [zm_In _ _ _ _ he, zgetD_l (by omega), e8 m (by omega)]
              exact h7 m (by omega)
          · rw [zm_Fq _ _ _ (by decide), zm_In _ _ _ _ (by omega)]
            exact e8 m hm
        · rw [if_neg (by rw [e2]; simp (disch := omega) only [zk_bind, zk_chk, zk_bnd, zk_some, zlp_l, zlp_r, zb_some, zb_bnd, zI_add, zI_sub, zI_mul, zI_neg, zI_le, zI_lt, zI_eq, zI_ix, zI_inI, Int.toNat_natCast, Int.toNat_add, Int.toNat_mul, true_and, and_true]; omega)]
          exact keep (Or.inr (by omega))
      · rw [if_neg (by simp (disch := omega) only [zk_bind, zk_chk, zk_bnd, zk_some, zlp_l, zlp_r, zb_some, zb_bnd, zI_add, zI_sub, zI_mul, zI_neg, zI_le, zI_lt, zI_eq, zI_ix, zI_inI, Int.toNat_natCast, Int.toNat_add, Int.toNat_mul, true_and, and_true]; omega)]
        exact keep (Or.inl (by omega))
    · have hs := zfil_f (P := zok c1 c2 p p.length) hc
      rw [if_pos (by rw [zb_0]; exact fun hh => hc hh.2), zk_bnd, zk_some, zI_add]
      exact hQ _ ⟨zI_inj (by omega), by rw [hs]; exact e2, e3, e4, e5, by rw [hs]; exact e6, e7, e8⟩
  · rintro ⟨x1, x2, x3⟩ ⟨e1, e2, e3, e4, e5, e6, e7, e8⟩
    dsimp only at e1 e2 e3 e4 e5 e6 e7 e8
    have hle := zfil_le (zok c1 c2 p p.length) W
    refine ⟨(x1, x2), ?_, ?_⟩
    · unfold f_X10_countLast_L4 f_X2_held
      dsimp only
      rw [zb_some, e3.1 34 6 rfl, h2, e1, if_pos (by simp (disch := omega) only [zk_bind, zk_chk, zk_bnd, zk_some, zlp_l, zlp_r, zb_some, zb_bnd, zI_add, zI_sub, zI_mul, zI_neg, zI_le, zI_lt, zI_eq, zI_ix, zI_inI, Int.toNat_natCast, Int.toNat_add, Int.toNat_mul, true_and, and_true]; omega)]
    · dsimp only
      rw [e2, e5, zI_add, zk_bnd, zk_some]
      have emin : (if zI ((t : Int) + ((zfil (zok c1 c2 p p.length) W).length : Int)) < zI 999 then zI ((t : Int) + ((zfil (zok c1 c2 p p.length) W).length : Int)) else zI 999) = zI ((min 999 (t + (zwy c1 c2 W 1 p).length) : Nat) : Int) := by
        rw [hz, List.length_map]
        by_cases hc : t + (zfil (zok c1 c2 p p.length) W).length < 999
        · rw [if_pos (by simp (disch := omega) only [zk_bind, zk_chk, zk_bnd, zk_some, zlp_l, zlp_r, zb_some, zb_bnd, zI_add, zI_sub, zI_mul, zI_neg, zI_le, zI_lt, zI_eq, zI_ix, zI_inI, Int.toNat_natCast, Int.toNat_add, Int.toNat_mul, true_and, and_true]; omega)]; exact zI_inj (by omega)
        · rw [if_neg (by simp (disch := omega) only [zk_bind, zk_chk, zk_bnd, zk_some, zlp_l, zlp_r, zb_some, zb_bnd, zI_add, zI_sub, zI_mul, zI_neg, zI_le, zI_lt, zI_eq, zI_ix, zI_inI, Int.toNat_natCast, Int.toNat_add, Int.toNat_mul, true_and, and_true]; omega)]; exact zI_inj (by omega)
      rw [emin]
      refine ⟨zP2_I e3 rfl, by rw [zm_Is], fun t0 x hx m hm => ?_, fun ht m => by rw [zm_Iq _ _ _ _ (by decide)]; exact e7 ht m, fun m hm => by rw [zm_Iq _ _ _ _ (by decide)]; exact e8 m hm, fun i => by rw [zm_I2, e4], fun i _ => by rw [zm_I2, e4]⟩
      rw [hz, List.head?_map] at hx
      cases hh : (zfil (zok c1 c2 p p.length) W).head? with
      | none => rw [hh] at hx; cases hx
      | some w =>
        rw [hh] at hx
        have hx : p ++ [w] = x := by simpa using hx
        rw [← hx, zm_Iq _ _ _ _ (by decide)]
        exact e6 t0 w hh m hm
theorem opn_x {c1 : Nat → Nat → Prop} {c2 : Nat → Nat → Nat → Nat → Prop} {W N : Nat} {p : List Nat} {M M' : ZMem} (hN4 : N ≤ 4) (h : opn c1 c2 W N p M) (e : ∀ i, i < ((p.length + 1) * 4) * 3 → M'.2 61 i = M.2 61 i) : opn c1 c2 W N p M' := fun b h1 h2 => zBt_x (h b h1 h2) (fun i hi => e _ (by omega))
theorem prt_x {c1 : Nat → Nat → Prop} {c2 : Nat → Nat → Nat → Nat → Prop} {W N : Nat} {M M' : ZMem} (h : prt c1 c2 W N M) (e : ∀ i, M'.2 60 i = M.2 60 i) : prt c1 c2 W N M' := fun a b k h1 h2 h3 h4 => zBt_x (h a b k h1 h2 h3 h4) (fun i _ => e _)
theorem c_chooseN {c1 : Nat → Nat → Prop} {c2 : Nat → Nat → Nat → Nat → Prop} {W N : Nat} (hN4 : N ≤ 4) (hW : W ≤ 120) : ∀ (f d : Nat) (M : ZMem) (p : List Nat) (t : Nat), d ≤ f → p.length + d = N → 1 ≤ d → chPre c1 c2 W N p t M → zOk (f_X10_chooseN f M (zI p.length)) (fun M' => chPost (zwy c1 c2 W d p) N p t M M') := by
  intro f
  induction f with
  | zero => intro d M p t h1 h2 h3; omega
  | succ f ih =>
    intro d M p t hdf hpd hd1 hpre
    have hpre0 := hpre
    obtain ⟨h1, h2, h3, h4, h5, h6, h7⟩ := hpre
    show zOk (f_X10_choose (f_X10_chooseN f) M (zI p.length)) _
    unfold f_X10_choose f_X4_told
    rw [if_neg (by simp (disch := omega) only [zk_bind, zk_chk, zk_bnd, zk_some, zlp_l, zlp_r, zb_some, zb_bnd, zI_add, zI_sub, zI_mul, zI_neg, zI_le, zI_lt, zI_eq, zI_ix, zI_inI, Int.toNat_natCast, Int.toNat_add, Int.toNat_mul, true_and, and_true]; omega), if_neg (by simp (disch := omega) only [zk_bind, zk_chk, zk_bnd, zk_some, zlp_l, zlp_r, zb_some, zb_bnd, zI_add, zI_sub, zI_mul, zI_neg, zI_le, zI_lt, zI_eq, zI_ix, zI_inI, Int.toNat_natCast, Int.toNat_add, Int.toNat_mul, true_and, and_true]; omega), zb_some, h1, if_pos (by simp (disch := omega) only [zk_bind, zk_chk, zk_bnd, zk_some, zlp_l, zlp_r, zb_some, zb_bnd, zI_add, zI_sub, zI_mul, zI_neg, zI_le, zI_lt, zI_eq, zI_ix, zI_inI, Int.toNat_natCast, Int.toNat_add, Int.toNat_mul, true_and, and_true]; omega), zb_some, zI_sub]
    by_cases hlast : d = 1
    · rw [if_pos (zI_inj (by omega)), zk_bind]
      refine zOk_mono (c_countLast hN4 hW (by omega) hpre0) (fun M' h' => ?_)
      rw [zk_some, hlast]
      exact h'
    · obtain ⟨d', rfl⟩ : ∃ d', d = d' + 1 := ⟨d - 1, by omega⟩
      rw [if_neg (by simp (disch := omega) only [zk_bind, zk_chk, zk_bnd, zk_some, zlp_l, zlp_r, zb_some, zb_bnd, zI_add, zI_sub, zI_mul, zI_neg, zI_le, zI_lt, zI_eq, zI_ix, zI_inI, Int.toNat_natCast, Int.toNat_add, Int.toNat_mul, true_and, and_true]; omega), zk_bind]
      have hz : zwy c1 c2 W (d' + 1) p = (zfil (zok c1 c2 p p.length) W).flatMap (fun w => zwy c1 c2 W d' (p ++ [w])) := rfl
      rw [hz]
      refine zOk_forQ (fun k x => x.2 = zI k ∧ chPost ((zfil (zok c1 c2 p p.length) k).flatMap (fun w => zwy c1 c2 W d' (p ++ [w]))) N p t M x.1) W ?_ ?_ ⟨rfl, zP2_rf, by rw [h5]; exact zI_inj (by simp [zfil_0]; omega), (fun _ x hx => by cases hx), fun _ _ => rfl, fun _ _ => rfl, fun _ => rfl, fun _ _ => rfl⟩
      · rintro k ⟨x1, x2⟩ hk ⟨e1, e2, e3, e4, e5, e6, e7, e8⟩ Q hQ hR
        dsimp only at e1 e2 e3 e4 e5 e6 e7 e8
        have hB : zBt x1 61 ((p.length * 4 + p.length) * 3) (fun k => k < W ∧ zok c1 c2 p p.length k) := zBt_x (h3 p.length (Nat.le_refl _) (by omega)) (fun i _ => e8 _ (by omega))
        unfold f_X10_choose_L42 f_X2_held
        dsimp only
        rw [zb_some, e2.1 34 6 rfl, h2, e1, if_neg (by simp (disch := omega) only [zk_bind, zk_chk, zk_bnd, zk_some, zlp_l, zlp_r, zb_some, zb_bnd, zI_add, zI_sub, zI_mul, zI_neg, zI_le, zI_lt, zI_eq, zI_ix, zI_inI, Int.toNat_natCast, Int.toNat_add, Int.toNat_mul, true_and, and_true]; omega), e3]
        by_cases hfull : 999 ≤ t + ((zfil (zok c1 c2 p p.length) k).flatMap (fun w => zwy c1 c2 W d' (p ++ [w]))).length
        · -- as many as are counted
          rw [if_pos (by simp (disch := omega) only [zk_bind, zk_chk, zk_bnd, zk_some, zlp_l, zlp_r, zb_some, zb_bnd, zI_add, zI_sub, zI_mul, zI_neg, zI_le, zI_lt, zI_eq, zI_ix, zI_inI, Int.toNat_natCast, Int.toNat_add, Int.toNat_mul, true_and, and_true]; omega), zk_some]
          refine hR _ ?_
          rw [zk_some]
          obtain ⟨r, hr⟩ := zfil_split (zok c1 c2 p p.length) (k := k) (W := W) (by omega)
          refine ⟨e2, ?_, fun t0 x hx => ?_, e5, e6, e7, e8⟩
          · rw [e3, hr, List.flatMap_append, List.length_append]
            exact zI_inj (by omega)
          · rw [hr, List.flatMap_append] at hx
            refine e4 t0 x ?_
            cases hA : (zfil (zok c1 c2 p p.length) k).flatMap (fun w => zwy c1 c2 W d' (p ++ [w])) with
            | nil => rw [hA] at hfull; simp at hfull; omega
            | cons a q => rw [hA] at hx; exact hx
        · rw [if_neg (by simp (disch := omega) only [zk_bind, zk_chk, zk_bnd, zk_some, zlp_l, zlp_r, zb_some, zb_bnd, zI_add, zI_sub, zI_mul, zI_neg, zI_le, zI_lt, zI_eq, zI_ix, zI_inI, Int.toNat_natCast, Int.toNat_add, Int.toNat_mul, true_and, and_true]; omega), c_openAt (by omega) (by omega), zb_some, c_hasBit hB (by omega) (by omega) (by omega), zb_some]
          by_cases hc : zok c1 c2 p p.length k
          · have hs : (zfil (zok c1 c2 p p.length) (k + 1)).flatMap (fun w => zwy c1 c2 W d' (p ++ [w])) = (zfil (zok c1 c2 p p.length) k).flatMap (fun w => zwy c1 c2 W d' (p ++ [w])) ++ zwy c1 c2 W d' (p ++ [k]) := by
              rw [zfil_t hc, List.flatMap_append]
              simp
            rw [if_neg (by rw [zb_0]; exact not_not_intro ⟨hk, hc⟩)]
            unfold f_X10_give
            rw [zk_bind, zk_bind]
            refine zOk_mono (c_narrow (p := p) hN4 (by rw [e2.1 17 2 rfl]; exact h1) hW (by omega) (opn_x hN4 h3 e8) (prt_x h4 e7) hk hc.1) (fun r hr => ?_)
            obtain ⟨r1, r2, r3⟩ := hr
            have fr1 : zP2 zWw zVw M r.1 := zP2_tr e2 ⟨fun a k _ => by rw [r2], fun a ha => by
              have : a ≠ 61 := fun he => by rw [he] at ha; cases ha
              exact funext (fun i => r3 a i (Or.inl this))⟩
            rcases r1 with ⟨q1, q2⟩ | ⟨q1, b, q2, q3, q4⟩
            · rw [q1, if_neg (by decide), zI_inI (by omega) (by omega) (by omega), zb_chk, zk_bnd, zI_ix (by omega) (by omega), Int.toNat_natCast, zI_add, show ((p.length : Int) + 1) = (((p ++ [k]).length : Nat) : Int) from by rw [List.length_append, List.length_singleton]; omega, zk_bind]
              have hlen : (p ++ [k]).length = p.length + 1 := by rw [List.length_append, List.length_singleton]
              refine zOk_mono (ih d' (zstI r.1 62 p.length (zI k)) (p ++ [k]) (min 999 (t + ((zfil (zok c1 c2 p p.length) k).flatMap (fun w => zwy c1 c2 W d' (p ++ [w]))).length)) (by omega) (by omega) (by omega) ⟨by rw [zm_Iq _ _ _ _ (by decide), fr1.1 17 2 rfl]; exact h1, by rw [zm_Iq _ _ _ _ (by decide), fr1.1 34 6 rfl]; exact h2, q2, prt_x h4 (fun i => by rw [zm_I2, r3 60 i (Or.inl (by decide)), e7]), by rw [zm_Iq _ _ _ _ (by decide), r2]; exact e3, by omega, fun m hm => ?_⟩) (fun M3 h3' => ?_)
              · by_cases he : m = p.length
                · rw [he, zm_Is, zgetD_e]
                · rw [hlen] at hm
                  rw [zm_In _ _ _ _ he, zgetD_l (by omega), r2, e6 m (by omega)]
                  exact h7 m (by omega)
              · obtain ⟨g1, g2, g3, g4, g5, g6, g7⟩ := h3'
                rw [zk_some, zk_bnd, zk_some, zI_add]
                refine hQ _ ⟨zI_inj (by omega), zP2_tr (zP2_I fr1 rfl) g1, ?_, fun t0 x hx m hm => ?_, fun tp m => ?_, fun m hm => ?_, fun i => ?_, fun i hi => ?_⟩
                · rw [g2, hs, List.length_append]
                  exact zI_inj (by omega)
                · rw [hs] at hx
                  cases hA : (zfil (zok c1 c2 p p.length) k).flatMap (fun w => zwy c1 c2 W d' (p ++ [w])) with
                  | nil =>
                    rw [hA] at hx g3
                    exact g3 (by simp; omega) x hx m hm
                  | cons a q =>
                    rw [hA] at hx e4 g4
                    rw [g4 (by simp; omega) m, zm_Iq _ _ _ _ (by decide), r2]
                    exact e4 t0 x hx m hm
                · rw [g4 (by omega) m, zm_Iq _ _ _ _ (by decide), r2]
                  exact e5 tp m
                · rw [hlen] at g5
                  rw [g5 m (by omega), zm_In _ _ _ _ (by omega), r2]
                  exact e6 m hm
                · rw [g6 i, zm_I2, r3 60 i (Or.inl (by decide))]
                  exact e7 i
                · rw [hlen] at g7
                  rw [g7 i (by omega), zm_I2, r3 61 i (Or.inr hi)]
                  exact e8 i hi
            · have hnil : zwy c1 c2 W d' (p ++ [k]) = [] := zwy_none d' (p ++ [k]) b (by rw [List.length_append, List.length_singleton]; omega) (by rw [List.length_append, List.length_singleton]; omega) q4
              rw [q1, if_pos (by decide), zk_some, zk_bnd, zk_some, zI_add]
              refine hQ _ ⟨zI_inj (by omega), fr1, by rw [r2, hs, hnil, List.append_nil]; exact e3, ?_, fun tp m => by rw [r2]; exact e5 tp m, fun m hm => by rw [r2]; exact e6 m hm, fun i => by rw [r3 60 i (Or.inl (by decide))]; exact e7 i, fun i hi => by rw [r3 61 i (Or.inr hi)]; exact e8 i hi⟩
              rw [hs, hnil, List.append_nil, r2]
              exact e4
          · have hs := zfil_f (P := zok c1 c2 p p.length) hc
            rw [if_pos (by rw [zb_0]; exact fun hh => hc hh.2), zk_bnd, zk_some, zI_add]
            refine hQ _ ⟨zI_inj (by omega), ?_⟩
            rw [hs]
            exact ⟨e2, e3, e4, e5, e6, e7, e8⟩
      · rintro ⟨x1, x2⟩ ⟨e1, e2⟩
        dsimp only at e1 e2
        refine ⟨x1, ?_, ?_⟩
        · unfold f_X10_choose_L42 f_X2_held
          dsimp only
          rw [zb_some, e2.1.1 34 6 rfl, h2, e1, if_pos (by simp (disch := omega) only [zk_bind, zk_chk, zk_bnd, zk_some, zlp_l, zlp_r, zb_some, zb_bnd, zI_add, zI_sub, zI_mul, zI_neg, zI_le, zI_lt, zI_eq, zI_ix, zI_inI, Int.toNat_natCast, Int.toNat_add, Int.toNat_mul, true_and, and_true]; omega)]
        · rw [zk_some]
          exact e2
