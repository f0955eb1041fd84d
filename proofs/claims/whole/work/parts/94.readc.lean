/-! ===== the class reads the rows ===== deps: 93.read -/
theorem c_verdict0 {M : ZMem} {F : Nat} {s : ZS} {sg : Nat → Nat} (hs : okS F s) (h : judC s sg M) : f_X6_verdict M (zI 0) = some (zI (zjud s sg)) := by
  have h1 := zrag_le hs 0
  have h2 := zrag_le hs 1
  have h3 := zends_le s sg 0
  have h4 := zends_le s sg 1
  unfold f_X6_verdict zjud
  rw [if_pos rfl, h.1, h.2.1, h.2.2.1, h.2.2.2]
  by_cases c1 : zrag s 0 = zrag s 1
  · rw [if_pos (by rw [c1]), if_pos c1]
    by_cases c2 : zends s sg 1 < zends s sg 0
    · rw [if_neg (by simp (disch := omega) only [zk_bind, zk_chk, zk_bnd, zk_some, zlp_l, zlp_r, zb_some, zb_bnd, zI_add, zI_sub, zI_mul, zI_neg, zI_le, zI_lt, zI_eq, zI_ix, zI_inI, Int.toNat_natCast, Int.toNat_add, Int.toNat_mul, true_and, and_true]; omega), if_pos c2]; rfl
    · rw [if_pos (by simp (disch := omega) only [zk_bind, zk_chk, zk_bnd, zk_some, zlp_l, zlp_r, zb_some, zb_bnd, zI_add, zI_sub, zI_mul, zI_neg, zI_le, zI_lt, zI_eq, zI_ix, zI_inI, Int.toNat_natCast, Int.toNat_add, Int.toNat_mul, true_and, and_true]; omega), if_neg c2]; rfl
  · rw [if_neg (by simp (disch := omega) only [zk_bind, zk_chk, zk_bnd, zk_some, zlp_l, zlp_r, zb_some, zb_bnd, zI_add, zI_sub, zI_mul, zI_neg, zI_le, zI_lt, zI_eq, zI_ix, zI_inI, Int.toNat_natCast, Int.toNat_add, Int.toNat_mul, true_and, and_true]; omega), if_neg c1]
    by_cases c2 : zrag s 1 < zrag s 0
    · rw [if_neg (by simp (disch := omega) only [zk_bind, zk_chk, zk_bnd, zk_some, zlp_l, zlp_r, zb_some, zb_bnd, zI_add, zI_sub, zI_mul, zI_neg, zI_le, zI_lt, zI_eq, zI_ix, zI_inI, Int.toNat_natCast, Int.toNat_add, Int.toNat_mul, true_and, and_true]; omega), if_pos c2]; rfl
    · rw [if_pos (by simp (disch := omega) only [zk_bind, zk_chk, zk_bnd, zk_some, zlp_l, zlp_r, zb_some, zb_bnd, zI_add, zI_sub, zI_mul, zI_neg, zI_le, zI_lt, zI_eq, zI_ix, zI_inI, Int.toNat_natCast, Int.toNat_add, Int.toNat_mul, true_and, and_true]; omega), if_neg c2]; rfl
theorem c_verdict {M : ZMem} {F : Nat} {s : ZS} {sg : Nat → Nat} (hs : okS F s) (h : judC s sg M) (a : Int) (h1 : -2147483648 ≤ a) (h2 : a ≤ 2147483647) : f_X6_verdict M (zI a) = some (zI (if a = 0 then zjud s sg else if a = 1 then zrag s 0 else if a = 2 then zrag s 1 else if a = 3 then zends s sg 0 else if a = 4 then zends s sg 1 else -1)) := by
  by_cases c0 : a = 0
  · subst c0
    exact c_verdict0 hs h
  · unfold f_X6_verdict
    rw [if_neg (by simp (disch := omega) only [zk_bind, zk_chk, zk_bnd, zk_some, zlp_l, zlp_r, zb_some, zb_bnd, zI_add, zI_sub, zI_mul, zI_neg, zI_le, zI_lt, zI_eq, zI_ix, zI_inI, Int.toNat_natCast, Int.toNat_add, Int.toNat_mul, true_and, and_true]; omega), if_neg c0, h.1, h.2.1, h.2.2.1, h.2.2.2]
    by_cases c1 : a = 1
    · rw [if_pos (by simp (disch := omega) only [zk_bind, zk_chk, zk_bnd, zk_some, zlp_l, zlp_r, zb_some, zb_bnd, zI_add, zI_sub, zI_mul, zI_neg, zI_le, zI_lt, zI_eq, zI_ix, zI_inI, Int.toNat_natCast, Int.toNat_add, Int.toNat_mul, true_and, and_true]; omega), if_pos c1]
    · rw [if_neg (by simp (disch := omega) only [zk_bind, zk_chk, zk_bnd, zk_some, zlp_l, zlp_r, zb_some, zb_bnd, zI_add, zI_sub, zI_mul, zI_neg, zI_le, zI_lt, zI_eq, zI_ix, zI_inI, Int.toNat_natCast, Int.toNat_add, Int.toNat_mul, true_and, and_true]; omega), if_neg c1]
      by_cases c2 : a = 2
      · rw [if_pos (by simp (disch := omega) only [zk_bind, zk_chk, zk_bnd, zk_some, zlp_l, zlp_r, zb_some, zb_bnd, zI_add, zI_sub, zI_mul, zI_neg, zI_le, zI_lt, zI_eq, zI_ix, zI_inI, Int.toNat_natCast, Int.toNat_add, Int.toNat_mul, true_and, and_true]; omega), if_pos c2]
      · rw [if_neg (by simp (disch := omega) only [zk_bind, zk_chk, zk_bnd, zk_some, zlp_l, zlp_r, zb_some, zb_bnd, zI_add, zI_sub, zI_mul, zI_neg, zI_le, zI_lt, zI_eq, zI_ix, zI_inI, Int.toNat_natCast, Int.toNat_add, Int.toNat_mul, true_and, and_true]; omega), if_neg c2]
        by_cases c3 : a = 3
        · rw [if_pos (by simp (disch := omega) only [zk_bind, zk_chk, zk_bnd, zk_some, zlp_l, zlp_r, zb_some, zb_bnd, zI_add, zI_sub, zI_mul, zI_neg, zI_le, zI_lt, zI_eq, zI_ix, zI_inI, Int.toNat_natCast, Int.toNat_add, Int.toNat_mul, true_and, and_true]; omega), if_pos c3]
        · rw [if_neg (by simp (disch := omega) only [zk_bind, zk_chk, zk_bnd, zk_some, zlp_l, zlp_r, zb_some, zb_bnd, zI_add, zI_sub, zI_mul, zI_neg, zI_le, zI_lt, zI_eq, zI_ix, zI_inI, Int.toNat_natCast, Int.toNat_add, Int.toNat_mul, true_and, and_true]; omega), if_neg c3]
          by_cases c4 : a = 4
          · rw [if_pos (by simp (disch := omega) only [zk_bind, zk_chk, zk_bnd, zk_some, zlp_l, zlp_r, zb_some, zb_bnd, zI_add, zI_sub, zI_mul, zI_neg, zI_le, zI_lt, zI_eq, zI_ix, zI_inI, Int.toNat_natCast, Int.toNat_add, Int.toNat_mul, true_and, and_true]; omega), if_pos c4]
          · rw [if_neg (by simp (disch := omega) only [zk_bind, zk_chk, zk_bnd, zk_some, zlp_l, zlp_r, zb_some, zb_bnd, zI_add, zI_sub, zI_mul, zI_neg, zI_le, zI_lt, zI_eq, zI_ix, zI_inI, Int.toNat_natCast, Int.toNat_add, Int.toNat_mul, true_and, and_true]; omega), if_neg c4]
theorem zjud_le (s : ZS) (sg : Nat → Nat) : zjud s sg ≤ 1 := by
  unfold zjud
  split <;> split <;> omega
theorem c_isTurned {M : ZMem} {F : Nat} {s : ZS} {sg : Nat → Nat} (hs : okS F s) (h : judC s sg M) {w : Int} (hw : 0 ≤ w ∧ w ≤ 3) {t r : Nat} (hr : r < 4) : f_X6_isTurned M (zI w) (zI r) = some (zI (zb (zturn s sg w (4 * t + r)))) := by
  have hj := zjud_le s sg
  have er : (4 * t + r) % 4 % 2 = r % 2 := by omega
  unfold f_X6_isTurned zturn zby
  rw [er]
  by_cases c0 : w = 0
  · subst c0
    rw [if_pos rfl, zb_f (by simp)]; rfl
  · rw [if_neg (by simp (disch := omega) only [zk_bind, zk_chk, zk_bnd, zk_some, zlp_l, zlp_r, zb_some, zb_bnd, zI_add, zI_sub, zI_mul, zI_neg, zI_le, zI_lt, zI_eq, zI_ix, zI_inI, Int.toNat_natCast, Int.toNat_add, Int.toNat_mul, true_and, and_true]; omega)]
    by_cases c1 : w = 1
    · subst c1
      rw [if_pos rfl, zb_t (by simp)]; rfl
    · rw [if_neg (by simp (disch := omega) only [zk_bind, zk_chk, zk_bnd, zk_some, zlp_l, zlp_r, zb_some, zb_bnd, zI_add, zI_sub, zI_mul, zI_neg, zI_le, zI_lt, zI_eq, zI_ix, zI_inI, Int.toNat_natCast, Int.toNat_add, Int.toNat_mul, true_and, and_true]; omega)]
      by_cases c2 : w = 2
      · subst c2
        rw [if_pos rfl, zI_rem (by omega) (by omega) (by omega) (by omega)]
        by_cases c3 : r % 2 = 1
        · rw [if_pos (by simp (disch := omega) only [zk_bind, zk_chk, zk_bnd, zk_some, zlp_l, zlp_r, zb_some, zb_bnd, zI_add, zI_sub, zI_mul, zI_neg, zI_le, zI_lt, zI_eq, zI_ix, zI_inI, Int.toNat_natCast, Int.toNat_add, Int.toNat_mul, true_and, and_true]; omega), zb_t (by simp; omega)]; rfl
        · rw [if_neg (by simp (disch := omega) only [zk_bind, zk_chk, zk_bnd, zk_some, zlp_l, zlp_r, zb_some, zb_bnd, zI_add, zI_sub, zI_mul, zI_neg, zI_le, zI_lt, zI_eq, zI_ix, zI_inI, Int.toNat_natCast, Int.toNat_add, Int.toNat_mul, true_and, and_true]; omega), zb_f (by simp; omega)]; rfl
      · have c3 : w = 3 := by omega
        subst c3
        rw [if_neg (by decide), c_verdict0 hs h, zb_some]
        by_cases c4 : zjud s sg = 1
        · rw [if_pos (by rw [c4]; rfl), zb_t (by simp [c4])]; rfl
        · rw [if_neg (by simp (disch := omega) only [zk_bind, zk_chk, zk_bnd, zk_some, zlp_l, zlp_r, zb_some, zb_bnd, zI_add, zI_sub, zI_mul, zI_neg, zI_le, zI_lt, zI_eq, zI_ix, zI_inI, Int.toNat_natCast, Int.toNat_add, Int.toNat_mul, true_and, and_true]; omega), zb_f (by simp; omega)]; rfl
def rowsC (s : ZS) (sg : Nat → Nat) (w : Int) (C : ZMem) : Prop := (∀ q, q < 24 → C.1 32 q = zI (zRL s q)) ∧ ∀ q k, q < 24 → k < zRL s q → C.1 31 (10 * q + k) = zI (zRS s sg w q k)
theorem zRL_e {s : ZS} {q : Nat} (h : zex s q) : zRL s q = sn s q := zif_t h _ _
theorem zRL_n {s : ZS} {q : Nat} (h : ¬ zex s q) : zRL s q = 0 := zif_f h _ _
theorem zRL_le {F : Nat} {s : ZS} (hs : okS F s) (q : Nat) : zRL s q ≤ 10 := by
  by_cases h : zex s q
  · rw [zRL_e h]
    have := hs.2.2 q h
    omega
  · rw [zRL_n h]
    omega
theorem zRL_ex {s : ZS} {q k : Nat} (h : k < zRL s q) : zex s q := by
  by_cases hq : zex s q
  · exact hq
  · rw [zRL_n hq] at h
    omega
theorem zRS_lt {F : Nat} {s : ZS} {sg : Nat → Nat} {w : Int} (hs : okS F s) (hsl : ∀ f, f < F → sg f < F) {q k : Nat} (hk : k < zRL s q) : zRS s sg w q k < F := by
  have hq := zRL_ex hk
  rw [zRL_e hq] at hk
  have h1 := hs.2.2 q hq
  unfold zRS
  by_cases ht : zturn s sg w q
  · rw [zif_t ht]
    exact hsl _ (h1.2.2 _ (by omega))
  · rw [zif_f ht]
    exact hsl _ (h1.2.2 _ (by omega))
theorem c_readRow {M : ZMem} {F : Nat} {s : ZS} {sg : Nat → Nat} {w : Int} (hF : F ≤ 20) (hF1 : M.1 3 7 = zI F) (hsg : ∀ f, f < F → M.1 9 f = zI (sg f)) (hs : okS F s) (h : stonesC s M) {q : Nat} (hq : zex s q) : zOk (f_X6_readRow M (zI q) (zI (zb (zturn s sg w q)))) (fun M' => M'.1 32 q = zI (zRL s q) ∧ (∀ k, k < zRL s q → M'.1 31 (10 * q + k) = zI (zRS s sg w q k)) ∧ zP (fun a k => (a == 32 && k == q) || (a == 31 && (10 * q ≤ k && k < 10 * q + 10))) M M') := by
  have hq24 := zex_lt hs hq
  have hn := hs.2.2 q hq
  unfold f_X6_readRow f_X6_isRow
  rw [if_neg (by simp (disch := omega) only [zk_bind, zk_chk, zk_bnd, zk_some, zlp_l, zlp_r, zb_some, zb_bnd, zI_add, zI_sub, zI_mul, zI_neg, zI_le, zI_lt, zI_eq, zI_ix, zI_inI, Int.toNat_natCast, Int.toNat_add, Int.toNat_mul, true_and, and_true]; omega), if_neg (by simp (disch := omega) only [zk_bind, zk_chk, zk_bnd, zk_some, zlp_l, zlp_r, zb_some, zb_bnd, zI_add, zI_sub, zI_mul, zI_neg, zI_le, zI_lt, zI_eq, zI_ix, zI_inI, Int.toNat_natCast, Int.toNat_add, Int.toNat_mul, true_and, and_true]; omega), zb_some, if_neg (by decide), c_lengthOf7 hs h hq, zb_some, zb_bnd, zI_inI (by omega) (by omega) (by omega), zb_chk, zI_ix (by omega) (by omega), Int.toNat_natCast, zk_bnd, zk_bind]
  have e0 : (if zI (sn s q) < zI 10 then zI (sn s q) else zI 10) = zI (sn s q) := by
    by_cases hc : sn s q < 10
    · rw [if_pos (by simp (disch := omega) only [zk_bind, zk_chk, zk_bnd, zk_some, zlp_l, zlp_r, zb_some, zb_bnd, zI_add, zI_sub, zI_mul, zI_neg, zI_le, zI_lt, zI_eq, zI_ix, zI_inI, Int.toNat_natCast, Int.toNat_add, Int.toNat_mul, true_and, and_true]; omega)]
    · rw [if_neg (by simp (disch := omega) only [zk_bind, zk_chk, zk_bnd, zk_some, zlp_l, zlp_r, zb_some, zb_bnd, zI_add, zI_sub, zI_mul, zI_neg, zI_le, zI_lt, zI_eq, zI_ix, zI_inI, Int.toNat_natCast, Int.toNat_add, Int.toNat_mul, true_and, and_true]; omega)]; exact zI_inj (by omega)
  rw [e0]
  refine zOk_forQ (fun k x => x.2 = zI k ∧ x.1.1 32 q = zI (sn s q) ∧ (∀ j, j < k → x.1.1 31 (10 * q + j) = zI (zRS s sg w q j)) ∧ zP (fun a k => (a == 32 && k == q) || (a == 31 && (10 * q ≤ k && k < 10 * q + 10))) M x.1) (sn s q) ?_ ?_ ⟨rfl, by rw [zm_Is], fun j hj => absurd hj (Nat.not_lt_zero j), zP_I zP_rf (by simp)⟩
  · rintro k ⟨x1, x2⟩ hk ⟨e1, e2, e3, e4⟩ Q hQ _
    dsimp only at e1 e2 e3 e4
    have h1 : stonesC s x1 := stonesC_x (fun a k ha => e4.1 a k (by unfold dstonesC at ha; simp at ha ⊢; omega)) h
    have hf1 : x1.1 3 7 = zI F := (e4.1 3 7 (by simp)).trans hF1
    have hg : ∀ f, f < F → x1.1 9 f = zI (sg f) := fun f hf => by rw [e4.1 9 f (by simp)]; exact hsg f hf
    have key : ∀ j : Nat, j < sn s q → zRS s sg w q k = sg (sx s (10 * q + j)) → zOk (f_X6_readRow_57_L31 x1 (zI q) (zI (zb (zturn s sg w q))) (zI (sn s q)) (zI k) (zI q) (zI j)) Q := by
      intro j hj ej
      unfold f_X6_readRow_57_L31
      rw [c_letterAt hs h1 hq hj, zb_some, c_signOfN hf1 hF hg (hn.2.2 j hj), zb_some, zI_mul, zI_add, zI_inI (by omega) (by omega) (by omega), zb_chk, zI_ix (by omega) (by omega), show ((q : Int) * 10 + k).toNat = 10 * q + k by omega, zk_bnd, zk_bnd, zk_some, zI_add]
      refine hQ _ ⟨zI_inj (by omega), by rw [zm_Iq _ _ _ _ (by decide)]; exact e2, fun i hi => ?_, zP_I e4 (by simp; omega)⟩
      rw [zm_I]
      split
      · next e =>
        rw [show i = k by omega, ej]
      · exact e3 i (by omega)
    unfold f_X6_readRow_L31
    dsimp only
    rw [e1, if_neg (by simp (disch := omega) only [zk_bind, zk_chk, zk_bnd, zk_some, zlp_l, zlp_r, zb_some, zb_bnd, zI_add, zI_sub, zI_mul, zI_neg, zI_le, zI_lt, zI_eq, zI_ix, zI_inI, Int.toNat_natCast, Int.toNat_add, Int.toNat_mul, true_and, and_true]; omega)]
    by_cases ht : zturn s sg w q
    · rw [if_neg (by rw [zb_0]; exact not_not_intro ht), zI_sub, zI_sub, show ((sn s q : Int) - 1 - k) = ((sn s q - 1 - k : Nat) : Int) by omega]
      exact key _ (by omega) (by unfold zRS; rw [zif_t ht])
    · rw [if_pos (by rw [zb_0]; exact ht)]
      exact key k hk (by unfold zRS; rw [zif_f ht])
  · rintro ⟨x1, x2⟩ ⟨e1, e2, e3, e4⟩
    dsimp only at e1 e2 e3 e4
    refine ⟨x1, ?_, ?_⟩
    · unfold f_X6_readRow_L31
      dsimp only
      rw [e1, if_pos (by simp (disch := omega) only [zk_bind, zk_chk, zk_bnd, zk_some, zlp_l, zlp_r, zb_some, zb_bnd, zI_add, zI_sub, zI_mul, zI_neg, zI_le, zI_lt, zI_eq, zI_ix, zI_inI, Int.toNat_natCast, Int.toNat_add, Int.toNat_mul, true_and, and_true]; omega)]
    · rw [zk_some, zRL_e hq]
      exact ⟨e2, e3, e4⟩
def zWread (a k : Nat) : Bool := a == 31 || a == 32 || zWjud a k
theorem c_readSettle {M : ZMem} {F : Nat} {s : ZS} {sg : Nat → Nat} {w : Int} (hF : F ≤ 20) (hF1 : M.1 3 7 = zI F) (hsg : ∀ f, f < F → M.1 9 f = zI (sg f)) (hsl : ∀ f, f < F → sg f < 20) (hs : okS F s) (h : stonesC s M) (hw : 0 ≤ w ∧ w ≤ 3) : zOk (f_X6_settle M (zI w)) (fun M' => judC s sg M' ∧ rowsC s sg w M' ∧ zP zWread M M') := by
  have hS := hs.1
  unfold f_X6_settle
  rw [zk_bind]
  refine zOk_mono (zp_fill 32 24 (by decide) _ _) (fun M1 h1 => ?_)
  obtain ⟨h1a, h1b, h1c, h1d⟩ := h1
  rw [zk_bind]
  have hx1 : stonesC s M1 := stonesC_x (fun a k ha => by rw [h1c a (by unfold dstonesC at ha; simp at ha; omega)]) h
  refine zOk_mono (c_judge hF (by rw [h1c 3 (by decide)]; exact hF1) (fun f hf => by rw [h1c 9 (by decide)]; exact hsg f hf) hsl hs hx1) (fun M2 h2 => ?_)
  obtain ⟨h2a, h2b⟩ := h2
  have hp2 : zP zWread M M2 := ⟨fun a k ha => by
    unfold zWread at ha
    simp at ha
    rw [h2b.1 a k ha.2, h1c a (by omega)], by rw [h2b.2, h1d]⟩
  rw [zk_bind]
  refine zOk_forQ (fun t x => x.2 = zI t ∧ zP zWread M x.1 ∧ judC s sg x.1 ∧ (∀ q, q < 24 → x.1.1 32 q = zI ((if q < 4 * t then zRL s q else 0 : Nat) : Int)) ∧ ∀ q k, q < 4 * t → k < zRL s q → x.1.1 31 (10 * q + k) = zI (zRS s sg w q k)) (sS s) ?_ ?_ ⟨rfl, hp2, h2a, fun q hq => by rw [h2b.1 32 q rfl, h1a q hq, if_neg (by omega)]; rfl, fun q k hq _ => by omega⟩
  · rintro t ⟨x1, x2⟩ ht ⟨e1, e2, e3, e4, e5⟩ Q hQ _
    dsimp only at e1 e2 e3 e4 e5
    have hm := hs.2.1 t ht
    have h1 : stonesC s x1 := stonesC_x (fun a k ha => e2.1 a k (by unfold dstonesC at ha; unfold zWread zWjud; simp at ha ⊢; omega)) h
    unfold f_X6_settle_L17 f_X7_told
    dsimp only
    rw [zb_some, h1.1, e1, if_neg (by simp (disch := omega) only [zk_bind, zk_chk, zk_bnd, zk_some, zlp_l, zlp_r, zb_some, zb_bnd, zI_add, zI_sub, zI_mul, zI_neg, zI_le, zI_lt, zI_eq, zI_ix, zI_inI, Int.toNat_natCast, Int.toNat_add, Int.toNat_mul, true_and, and_true]; omega), zk_bind]
    refine zOk_for0 (fun r x => x.2 = zI r ∧ zP zWread M x.1 ∧ judC s sg x.1 ∧ (∀ q, q < 24 → x.1.1 32 q = zI ((if q < 4 * t + r then zRL s q else 0 : Nat) : Int)) ∧ ∀ q k, q < 4 * t + r → k < zRL s q → x.1.1 31 (10 * q + k) = zI (zRS s sg w q k)) (sm s t) ?_ ?_ ⟨rfl, e2, e3, e4, e5⟩
    · rintro r ⟨y1, y2⟩ hr ⟨d1, d2, d3, d4, d5⟩
      dsimp only at d1 d2 d3 d4 d5
      have hq := zex_of ht hr (by omega)
      have g1 : stonesC s y1 := stonesC_x (fun a k ha => d2.1 a k (by unfold dstonesC at ha; unfold zWread zWjud; simp at ha ⊢; omega)) h
      unfold f_X6_settle_L29
      dsimp only
      rw [c_rowsOf hs g1 ht, zb_some, d1, if_neg (by simp (disch := omega) only [zk_bind, zk_chk, zk_bnd, zk_some, zlp_l, zlp_r, zb_some, zb_bnd, zI_add, zI_sub, zI_mul, zI_neg, zI_le, zI_lt, zI_eq, zI_ix, zI_inI, Int.toNat_natCast, Int.toNat_add, Int.toNat_mul, true_and, and_true]; omega), c_rowNumber hs g1 ht hr, zb_some, c_isTurned (t := t) hs d3 hw (by omega), zb_some, zk_bind]
      refine zOk_mono (c_readRow (w := w) hF ((d2.1 3 7 rfl).trans hF1) (fun f hf => by rw [d2.1 9 f rfl]; exact hsg f hf) hs g1 hq) (fun M3 h3 => ?_)
      obtain ⟨h3a, h3b, h3c⟩ := h3
      simp (disch := omega) only [zk_bind, zk_chk, zk_bnd, zk_some, zlp_l, zlp_r, zb_some, zb_bnd, zI_add, zI_sub, zI_mul, zI_neg, zI_le, zI_lt, zI_eq, zI_ix, zI_inI, Int.toNat_natCast, Int.toNat_add, Int.toNat_mul, true_and, and_true]
      refine ⟨(by first | omega | exact zI_inj (by omega)), zP_tr d2 (zP_mono h3c (fun a k ha => by unfold zWread zWjud at ha; simp at ha ⊢; omega)), ?_, fun q hq' => ?_, fun q k hq' hk => ?_⟩
      · exact ⟨by rw [h3c.1 30 5 (by simp)]; exact d3.1, by rw [h3c.1 30 6 (by simp)]; exact d3.2.1, by rw [h3c.1 30 7 (by simp)]; exact d3.2.2.1, by rw [h3c.1 30 8 (by simp)]; exact d3.2.2.2⟩
      · by_cases he : q = 4 * t + r
        · rw [he, h3a, if_pos (by omega)]
        · rw [h3c.1 32 q (by simp; omega), d4 q hq']
          refine zI_inj ?_
          by_cases hl : q < 4 * t + r
          · rw [if_pos hl, if_pos (by omega)]
          · rw [if_neg hl, if_neg (by omega)]
      · by_cases he : q = 4 * t + r
        · rw [he] at hk ⊢
          exact h3b k hk
        · have := zRL_le hs q
          rw [h3c.1 31 _ (by simp; omega)]
          exact d5 q k (by omega) hk
    · rintro ⟨y1, y2⟩ ⟨d1, d2, d3, d4, d5⟩
      dsimp only at d1 d2 d3 d4 d5
      have g1 : stonesC s y1 := stonesC_x (fun a k ha => d2.1 a k (by unfold dstonesC at ha; unfold zWread zWjud; simp at ha ⊢; omega)) h
      unfold f_X6_settle_L29
      dsimp only
      rw [c_rowsOf hs g1 ht, zb_some, d1, if_pos (by simp (disch := omega) only [zk_bind, zk_chk, zk_bnd, zk_some, zlp_l, zlp_r, zb_some, zb_bnd, zI_add, zI_sub, zI_mul, zI_neg, zI_le, zI_lt, zI_eq, zI_ix, zI_inI, Int.toNat_natCast, Int.toNat_add, Int.toNat_mul, true_and, and_true]; omega), zk_some, zlp_r, zk_bnd, zk_some]
      refine hQ _ ⟨by rw [zI_add]; exact zI_inj (by omega), d2, d3, ?_, ?_⟩
      · refine zskip (fun Q => ∀ q, q < 24 → y1.1 32 q = zI ((if q < Q then zRL s q else 0 : Nat) : Int)) (fun Q hQ' hp q hq => ?_) hm.2 d4
        rw [hp q hq]
        refine zI_inj ?_
        by_cases he : q = Q
        · rw [if_neg (by omega), if_pos (by omega), he, zRL_n hQ']
        · by_cases hl : q < Q
          · rw [if_pos hl, if_pos (by omega)]
          · rw [if_neg hl, if_neg (by omega)]
      · refine zskip (fun Q => ∀ q k, q < Q → k < zRL s q → y1.1 31 (10 * q + k) = zI (zRS s sg w q k)) (fun Q hQ' hp q k hq hk => ?_) hm.2 d5
        by_cases he : q = Q
        · rw [he, zRL_n hQ'] at hk
          omega
        · exact hp q k (by omega) hk
  · rintro ⟨x1, x2⟩ ⟨e1, e2, e3, e4, e5⟩
    dsimp only at e1 e2 e3 e4 e5
    have h1 : stonesC s x1 := stonesC_x (fun a k ha => e2.1 a k (by unfold dstonesC at ha; unfold zWread zWjud; simp at ha ⊢; omega)) h
    refine ⟨x1, ?_, ?_⟩
    · unfold f_X6_settle_L17 f_X7_told
      dsimp only
      rw [zb_some, h1.1, e1, if_pos (by simp (disch := omega) only [zk_bind, zk_chk, zk_bnd, zk_some, zlp_l, zlp_r, zb_some, zb_bnd, zI_add, zI_sub, zI_mul, zI_neg, zI_le, zI_lt, zI_eq, zI_ix, zI_inI, Int.toNat_natCast, Int.toNat_add, Int.toNat_mul, true_and, and_true]; omega)]
    · rw [zk_some]
      refine ⟨e3, ⟨fun q hq => ?_, fun q k hq hk => ?_⟩, e2⟩
      · rw [e4 q hq]
        refine zI_inj ?_
        by_cases hl : q < 4 * sS s
        · rw [if_pos hl]
        · rw [if_neg hl, zRL_n (zex_hi (by omega))]
      · have := (zRL_ex hk).1
        exact e5 q k (by omega) hk
