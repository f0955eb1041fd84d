/-! ===== the reference lays its words ===== deps: 97.h.lexr -/
def zfrk (key : Nat) : Nat := zdg key 0 - 1
noncomputable def zlrk (key : Nat) : Nat := zdg key (zkl key - 1) - 1
noncomputable def zcF (ks : List Nat) (f : Nat) : Nat := (ks.map (fun k => zb (zfrk k = f))).sum
noncomputable def zcL (ks : List Nat) (f : Nat) : Nat := (ks.map (fun k => zb (zlrk k = f))).sum
theorem zcF_c (k : Nat) (ks : List Nat) (f : Nat) : zcF (k :: ks) f = zb (zfrk k = f) + zcF ks f := by unfold zcF; rw [List.map_cons, List.sum_cons]
theorem zcL_c (k : Nat) (ks : List Nat) (f : Nat) : zcL (k :: ks) f = zb (zlrk k = f) + zcL ks f := by unfold zcL; rw [List.map_cons, List.sum_cons]
def zcutR (rl : Nat → Nat) (rs : Nat → Nat → Nat) (rise : Nat) (rem : List Nat) (R : ZMem) : Prop := ∃ l, lexR l R ∧ zsrt l ∧ zwords l ∧ zfold l rem = zlex rl rs rise ∧ l.length + rem.length ≤ (zrest rl rs rise 24).length ∧ (∃ c : Nat, R.1 0 26 = zI c ∧ c + rem.length = (zrest rl rs rise 24).length) ∧ (∀ f, f < 20 → ∃ c : Nat, R.1 19 f = zI c ∧ c + zcF rem f = zcF (zrest rl rs rise 24) f) ∧ ∀ f, f < 20 → ∃ c : Nat, R.1 20 f = zI c ∧ c + zcL rem f = zcL (zrest rl rs rise 24) f
def zWlexR (a k : Nat) : Bool := zWwds a k || a == 15 || a == 19 || a == 20 || (a == 0 && k == 26)
def wordsR (rl : Nat → Nat) (rs : Nat → Nat → Nat) (rise : Nat) (R : ZMem) : Prop := lexR (zlex rl rs rise) R ∧ R.1 0 26 = zI ((zrest rl rs rise 24).length : Int) ∧ (∀ f, f < 20 → R.1 19 f = zI (zcF (zrest rl rs rise 24) f)) ∧ ∀ f, f < 20 → R.1 20 f = zI (zcL (zrest rl rs rise 24) f)
theorem rowsH_x {s : ZS} {rs : Nat → Nat → Nat} {M0 M : ZMem} (h1 : M.1 0 23 = M0.1 0 23) (h2 : ∀ k, M.1 13 k = M0.1 13 k) (h3 : ∀ k, M.1 14 k = M0.1 14 k) (h : rowsH s rs M0) : rowsH s rs M := ⟨by rw [h1]; exact h.1, fun q hq => by rw [h2]; exact h.2.1 q hq, fun q k hq hk => by rw [h3]; exact h.2.2 q k hq hk⟩
theorem r_laysWords {M : ZMem} {F : Nat} {s : ZS} {rs : Nat → Nat → Nat} {rise : Nat} (hs : okS F s) (hk : okRw (zRL s) rs) (h : rowsH s rs M) (hr9 : rise ≤ 9) (hr : M.1 9 2 = zI rise) : zOk (f_X12_laysWords M) (fun M' => wordsR (zRL s) rs rise M' ∧ okL (zlex (zRL s) rs rise) ∧ zP zWlexR M M') := by
  have hall := zrest_len hk rise 24
  have b24 := zrx_le s 24
  unfold f_X12_laysWords
  rw [zk_bnd, zk_bnd, zk_bind]
  refine zOk_for0 (fun i x => x.2 = zI i ∧ zP zWlexR M x.1 ∧ x.1.1 0 25 = zI 0 ∧ x.1.1 0 26 = zI 0 ∧ ∀ f, f < i → x.1.1 19 f = zI 0 ∧ x.1.1 20 f = zI 0) 20 ?_ ?_ ⟨rfl, zP_I (zP_I zP_rf rfl) rfl, by rw [zm_In _ _ _ _ (by decide), zm_Is], by rw [zm_Is], fun f hf => absurd hf (Nat.not_lt_zero f)⟩
  · rintro i ⟨x1, x2⟩ hi ⟨e1, e2, e3, e4, e5⟩
    dsimp only at e1 e2 e3 e4 e5
    unfold f_X12_laysWords_L12
    dsimp only
    rw [e1, if_neg (by simp (disch := omega) only [zk_bind, zk_chk, zk_bnd, zk_some, zlp_l, zlp_r, zb_some, zb_bnd, zI_add, zI_sub, zI_mul, zI_neg, zI_le, zI_lt, zI_eq, zI_ix, zI_inI, Int.toNat_natCast, Int.toNat_add, Int.toNat_mul, true_and, and_true]; omega), zI_inI (by omega) (by omega) (by omega), zb_chk, zk_bnd, zb_chk, zk_bnd, zk_bnd, zk_some, zlp_l, zI_ix (by omega) (by omega), Int.toNat_natCast, zI_add]
    refine ⟨zI_inj (by omega), zP_I (zP_I e2 rfl) rfl, by rw [zm_Iq _ _ _ _ (by decide), zm_Iq _ _ _ _ (by decide)]; exact e3, by rw [zm_Iq _ _ _ _ (by decide), zm_Iq _ _ _ _ (by decide)]; exact e4, fun f hf => ?_⟩
    by_cases he : f = i
    · rw [he]
      exact ⟨by rw [zm_Iq _ _ _ _ (by decide), zm_Is], by rw [zm_Is]⟩
    · exact ⟨by rw [zm_Iq _ _ _ _ (by decide), zm_In _ _ _ _ he]; exact (e5 f (by omega)).1, by rw [zm_In _ _ _ _ he, zm_Iq _ _ _ _ (by decide)]; exact (e5 f (by omega)).2⟩
  rintro ⟨x1, x2⟩ ⟨e1, e2, e3, e4, e5⟩
  dsimp only at e1 e2 e3 e4 e5
  unfold f_X12_laysWords_L12
  dsimp only
  rw [e1, if_pos (by simp (disch := omega) only [zk_bind, zk_chk, zk_bnd, zk_some, zlp_l, zlp_r, zb_some, zb_bnd, zI_add, zI_sub, zI_mul, zI_neg, zI_le, zI_lt, zI_eq, zI_ix, zI_inI, Int.toNat_natCast, Int.toNat_add, Int.toNat_mul, true_and, and_true]; omega), zk_some, zlp_r, zk_bind]
  have hx : ∀ {M' : ZMem}, zP zWlexR M M' → rowsH s rs M' := fun hp => rowsH_x (hp.1 0 23 rfl) (fun k => hp.1 13 k rfl) (fun k => hp.1 14 k rfl) h
  refine zOk_rows s (fun q x => x.2 = zI (zrx s q) ∧ zP zWlexR M x.1 ∧ zcutR (zRL s) rs rise (zrest (zRL s) rs rise (24 - q)) x.1) ?_ ?_ ?_ ⟨rfl, e2, [], ⟨e3, fun i hi => absurd hi (Nat.not_lt_zero i)⟩, zsrt_nil, fun i hi => absurd hi (Nat.not_lt_zero i), rfl, by simp, ⟨0, e4, by simp⟩, fun f hf => ⟨0, (e5 f hf).1, by simp⟩, fun f hf => ⟨0, (e5 f hf).2, by simp⟩⟩
  · rintro q x hq hne ⟨d1, d2, d3⟩
    refine ⟨by rw [zrx_n hne]; exact d1, d2, ?_⟩
    rw [zrest_s hq, zcut_e (by rw [zRL_n hne]; exact Nat.le_refl 0), List.nil_append] at d3
    exact d3
  · rintro q ⟨x1, x2⟩ hq hex ⟨d1, d2, d3⟩ Q hQ _
    dsimp only at d1 d2 d3
    obtain ⟨i1, i2⟩ := zrx_in hq hex
    have hb := zbg240 hs hq
    have hrl := hk.1 q
    have hix : zix (zI ((zrx s q : Int) + 1)) = zrx s q + 1 := by rw [zI_ix (by omega) (by omega)]; omega
    have hin : zin (zI ((zrx s q : Int) + 1)) 25 = true := zI_inI (by omega) (by omega) (by omega)
    have hb1 : ∀ {M' : ZMem}, zP zWlexR M M' → M'.1 13 (zrx s q) = zI (zbg s q) := fun hp => (hx hp).2.1 q (by omega)
    have hb2 : ∀ {M' : ZMem}, zP zWlexR M M' → M'.1 13 (zrx s q + 1) = zI ((zbg s q + zRL s q : Nat) : Int) := fun hp => by rw [← i2, (hx hp).2.1 (q + 1) (by omega)]; rfl
    unfold f_X12_laysWords_L40
    dsimp only
    rw [(hx d2).1, d1, if_neg (by simp (disch := omega) only [zk_bind, zk_chk, zk_bnd, zk_some, zlp_l, zlp_r, zb_some, zb_bnd, zI_add, zI_sub, zI_mul, zI_neg, zI_le, zI_lt, zI_eq, zI_ix, zI_inI, Int.toNat_natCast, Int.toNat_add, Int.toNat_mul, true_and, and_true]; omega), zI_inI (by omega) (by omega) (by omega), zb_chk, zI_ix (by omega) (by omega), Int.toNat_natCast, hb1 d2, zk_bnd, zk_bind]
    refine zOk_loop (fun x => zP zWlexR M x.1 ∧ ∃ f : Nat, f ≤ zRL s q ∧ x.2 = zI ((zbg s q + f : Nat) : Int) ∧ zcutR (zRL s) rs rise (zcut (zRL s) rs rise q f ++ zrest (zRL s) rs rise (24 - (q + 1))) x.1) (fun x => 300 - x.2.toInt.toNat) ?_ _ _ (Nat.le_refl _) ⟨d2, 0, by omega, rfl, by rw [← zrest_s hq]; exact d3⟩
    rintro ⟨y1, y2⟩ ⟨c1, f, c2, c3, c4⟩
    dsimp only at c1 c3 c4
    unfold f_X12_laysWords_L55
    dsimp only
    rw [zI_add, hin, zb_chk, hix, hb2 c1, c3]
    by_cases hf : f < zRL s q
    · obtain ⟨w1, w2, w3, w4⟩ := zwl_rng (rs := rs) (rise := rise) hf
      rw [if_neg (by simp (disch := omega) only [zk_bind, zk_chk, zk_bnd, zk_some, zlp_l, zlp_r, zb_some, zb_bnd, zI_add, zI_sub, zI_mul, zI_neg, zI_le, zI_lt, zI_eq, zI_ix, zI_inI, Int.toNat_natCast, Int.toNat_add, Int.toNat_mul, true_and, and_true]; omega), zb_chk, zk_bind]
      refine zOk_mono (r_length hs hk (hx c1) hr9 ((c1.1 9 2 rfl).trans hr) hq hf) (fun r hr' => ?_)
      obtain ⟨r1, r2, r3⟩ := hr'
      have r4 : zP zWlexR M r.1 := zP_tr c1 (zP_mono r3 (fun a k ha => by unfold zWlexR at ha; simp at ha ⊢; omega))
      obtain ⟨l, l1, l2, l3, l4, l5, ⟨c, l6, l7⟩, l8, l9⟩ := c4
      have hpc : ∀ i, i < zwl (zRL s) rs rise q f → rs q (f + i) < 20 := fun i hi => hk.2 q _ (by omega)
      have hW := zkey_isW (pc := fun i => rs q (f + i)) (n := zwl (zRL s) rs rise q f) (by omega) hpc
      rw [zcut_c hf] at l4 l5 l7 l8 l9
      rw [List.cons_append, List.length_cons] at l5 l7
      rw [List.cons_append, zfold_c] at l4
      rw [List.cons_append] at l8 l9
      have l1' : lexR l r.1 := ⟨by rw [r3.1 0 25 rfl]; exact l1.1, fun i hi => wR_x (r3.1 16 i rfl) (r3.1 18 i rfl) (fun k _ => r3.1 17 _ rfl) (l1.2 i hi)⟩
      rw [r1, zk_bind]
      refine zOk_mono (r_comesWord l2 l3 (by omega) l1' w1 (by omega) r2 hpc) (fun M2 h2 => ?_)
      obtain ⟨a1, a2⟩ := h2
      have a3 : zP zWlexR M M2 := zP_tr r4 (zP_mono a2 (fun a k ha => by unfold zWlexR at ha; simp only [Bool.or_eq_false_iff] at ha; exact ha.1.1.1.1))
      have v1 := hk.2 q f hf
      have v2 := hpc (zwl (zRL s) rs rise q f - 1) (by omega)
      have hM : ∀ (M' : ZMem), (∀ k, M'.1 14 k = M.1 14 k) → ∀ k, k < zRL s q → M'.1 14 (zbg s q + k) = zI (rs q k) := fun M' hM' k hk' => by rw [hM']; exact h.2.2 q k hq hk'
      have h14 : M2.1 14 (zix (zI ((zbg s q + f : Nat) : Int))) = zI (rs q f) := by
        rw [zI_ix (by omega) (by omega), Int.toNat_natCast]
        exact hM M2 (fun k => a3.1 14 k rfl) f hf
      rw [zI_inI (by omega) (by omega) (by omega), zb_chk, h14, zI_inI (by omega) (by omega) (by omega), zb_chk, zb_chk, zk_bnd, zI_ix (by omega) (by omega), Int.toNat_natCast, zI_add, zI_sub, show (((zbg s q + f : Nat) : Int) + (zwl (zRL s) rs rise q f : Nat) - 1) = ((zbg s q + (f + (zwl (zRL s) rs rise q f - 1)) : Nat) : Int) by omega, zI_inI (by omega) (by omega) (by omega), zb_chk]
      obtain ⟨cF, f1, f2⟩ := l8 (rs q f) v1
      obtain ⟨cL, f3, f4⟩ := l9 (rs q (f + (zwl (zRL s) rs rise q f - 1))) v2
      have hM19 : ∀ k, M2.1 19 k = y1.1 19 k := fun k => by rw [a2.1 19 k rfl, r3.1 19 k rfl]
      have hM20 : ∀ k, M2.1 20 k = y1.1 20 k := fun k => by rw [a2.1 20 k rfl, r3.1 20 k rfl]
      rw [hM19, f1, zI_add]
      have g14 : (zstI M2 19 (rs q f) (zI ((cF : Int) + 1))).1 14 (zix (zI ((zbg s q + (f + (zwl (zRL s) rs rise q f - 1)) : Nat) : Int))) = zI (rs q (f + (zwl (zRL s) rs rise q f - 1))) := by
        rw [zm_Iq _ _ _ _ (by decide), zI_ix (by omega) (by omega), Int.toNat_natCast]
        exact hM M2 (fun k => a3.1 14 k rfl) _ (by omega)
      rw [g14, zI_inI (by omega) (by omega) (by omega), zb_chk, zb_chk, zk_bnd, zI_ix (by omega) (by omega), Int.toNat_natCast, zm_Iq _ _ _ _ (by decide), hM20, f3, zI_add, zk_bnd, zm_Iq _ _ _ _ (by decide), zm_Iq _ _ _ _ (by decide), a2.1 0 26 rfl, r3.1 0 26 rfl, l6, zI_add, zk_bnd, zk_some, zlp_l]
      have kF : zfrk (zkey (fun i => rs q (f + i)) (zwl (zRL s) rs rise q f)) = rs q f := by
        unfold zfrk
        rw [zkey_dg (by omega) hpc (by omega)]
        rfl
      have kL : zlrk (zkey (fun i => rs q (f + i)) (zwl (zRL s) rs rise q f)) = rs q (f + (zwl (zRL s) rs rise q f - 1)) := by
        unfold zlrk
        rw [zisW_len hW, zkey_dg (by omega) hpc (by omega)]
        rfl
      refine ⟨⟨zP_I (zP_I (zP_I a3 rfl) rfl) rfl, f + zwl (zRL s) rs rise q f, by omega, zI_inj (by omega), zins (zkey (fun i => rs q (f + i)) (zwl (zRL s) rs rise q f)) l, ?_, zins_srt l2 _, zins_words l2 l3 w1 hW, l4, ?_, ⟨c + 1, by rw [zm_Is]; exact zI_inj (by omega), by omega⟩, fun g hg => ?_, fun g hg => ?_⟩, ?_⟩
      · exact ⟨by rw [zm_In _ _ _ _ (by decide), zm_Iq _ _ _ _ (by decide), zm_Iq _ _ _ _ (by decide)]; exact a1.1, fun i hi => wR_x (by rw [zm_Iq _ _ _ _ (by decide), zm_Iq _ _ _ _ (by decide), zm_Iq _ _ _ _ (by decide)]) (by rw [zm_Iq _ _ _ _ (by decide), zm_Iq _ _ _ _ (by decide), zm_Iq _ _ _ _ (by decide)]) (fun k _ => by rw [zm_Iq _ _ _ _ (by decide), zm_Iq _ _ _ _ (by decide), zm_Iq _ _ _ _ (by decide)]) (a1.2 i hi)⟩
      · have := zins_len (zkey (fun i => rs q (f + i)) (zwl (zRL s) rs rise q f)) l
        omega
      · rw [zm_Iq _ _ _ _ (by decide), zm_Iq _ _ _ _ (by decide)]
        by_cases he : g = rs q f
        · subst he
          rw [zcF_c, zb_t kF] at f2
          exact ⟨cF + 1, by rw [zm_Is]; exact zI_inj (by omega), by omega⟩
        · obtain ⟨cg, g1, g2⟩ := l8 g hg
          rw [zcF_c, zb_f (by rw [kF]; exact Ne.symm he)] at g2
          exact ⟨cg, by rw [zm_In _ _ _ _ he, hM19]; exact g1, by omega⟩
      · rw [zm_Iq _ _ _ _ (by decide)]
        by_cases he : g = rs q (f + (zwl (zRL s) rs rise q f - 1))
        · subst he
          rw [zcL_c, zb_t kL] at f4
          exact ⟨cL + 1, by rw [zm_Is]; exact zI_inj (by omega), by omega⟩
        · obtain ⟨cg, g1, g2⟩ := l9 g hg
          rw [zcL_c, zb_f (by rw [kL]; exact Ne.symm he)] at g2
          exact ⟨cg, by rw [zm_In _ _ _ _ he, zm_Iq _ _ _ _ (by decide), hM20]; exact g1, by omega⟩
      · dsimp only
        rw [zI_toInt (by omega) (by omega), zI_toInt (by omega) (by omega)]
        omega
    · rw [if_pos (by simp (disch := omega) only [zk_bind, zk_chk, zk_bnd, zk_some, zlp_l, zlp_r, zb_some, zb_bnd, zI_add, zI_sub, zI_mul, zI_neg, zI_le, zI_lt, zI_eq, zI_ix, zI_inI, Int.toNat_natCast, Int.toNat_add, Int.toNat_mul, true_and, and_true]; omega), zk_some, zlp_r, zk_bnd, zk_some]
      rw [zcut_e (by omega), List.nil_append] at c4
      exact hQ _ ⟨by rw [i2]; exact zI_inj (by omega), c1, c4⟩
  · rintro ⟨x1, x2⟩ ⟨d1, d2, l, l1, l2, l3, l4, l5, ⟨c, l6, l7⟩, l8, l9⟩
    dsimp only at d1 d2 l1 l6 l8 l9
    have h0 : (zrest (zRL s) rs rise (24 - 24)).length = 0 := rfl
    refine ⟨x1, ?_, ?_⟩
    · unfold f_X12_laysWords_L40
      dsimp only
      rw [(hx d2).1, d1, if_pos (by simp (disch := omega) only [zk_bind, zk_chk, zk_bnd, zk_some, zlp_l, zlp_r, zb_some, zb_bnd, zI_add, zI_sub, zI_mul, zI_neg, zI_le, zI_lt, zI_eq, zI_ix, zI_inI, Int.toNat_natCast, Int.toNat_add, Int.toNat_mul, true_and, and_true]; omega)]
    · rw [zk_some]
      have hl : l = zlex (zRL s) rs rise := l4
      have ht := zlex_times hk rise
      subst hl
      refine ⟨⟨l1, by rw [l6]; exact zI_inj (by omega), fun f hf => ?_, fun f hf => ?_⟩, ⟨by omega, l2, l3, ht⟩, d2⟩
      · obtain ⟨c', c1, c2⟩ := l8 f hf
        have : zcF (zrest (zRL s) rs rise (24 - 24)) f = 0 := rfl
        rw [c1]
        exact zI_inj (by omega)
      · obtain ⟨c', c1, c2⟩ := l9 f hf
        have : zcL (zrest (zRL s) rs rise (24 - 24)) f = 0 := rfl
        rw [c1]
        exact zI_inj (by omega)
