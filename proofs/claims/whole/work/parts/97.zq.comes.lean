/-! ===== pieces that the tape tells: comes, next ===== deps: 97.zp.piece -/
def zch (t : List Nat) (i : Nat) : Int := if i < t.length then (t.getD i 0 : Int) else -1
theorem zch_l {t : List Nat} {i : Nat} (h : i < t.length) : zch t i = t.getD i 0 := if_pos h
theorem zch_e {t : List Nat} {i : Nat} (h : t.length ≤ i) : zch t i = -1 := if_neg (by omega)
def okB (t : List Nat) : Prop := t.length ≤ 300 ∧ ∀ i, i < t.length → t.getD i 0 < 256
theorem zch_rng {t : List Nat} (h : okB t) (i : Nat) : -1 ≤ zch t i ∧ zch t i < 256 := by
  unfold zch
  split
  · next hh => have := h.2 i hh; omega
  · omega
theorem c_byteAt {M : ZMem} {t : List Nat} (hb : okB t) (h : tapeC t M) {i : Nat} (hi : i ≤ 1000) : f_X8_byteAt M (zI i) = some (zI (zch t i)) := by
  have h1 := hb.1
  unfold f_X8_byteAt
  rw [h.1, if_neg (by simp (disch := omega) only [zk_bind, zk_chk, zk_bnd, zk_some, zlp_l, zlp_r, zb_some, zb_bnd, zI_add, zI_sub, zI_mul, zI_neg, zI_le, zI_lt, zI_eq, zI_ix, zI_inI, Int.toNat_natCast, Int.toNat_add, Int.toNat_mul, true_and, and_true]; omega)]
  by_cases c : i < t.length
  · rw [if_neg (by simp (disch := omega) only [zk_bind, zk_chk, zk_bnd, zk_some, zlp_l, zlp_r, zb_some, zb_bnd, zI_add, zI_sub, zI_mul, zI_neg, zI_le, zI_lt, zI_eq, zI_ix, zI_inI, Int.toNat_natCast, Int.toNat_add, Int.toNat_mul, true_and, and_true]; omega), zI_inI (by omega) (by omega) (by omega), zb_chk, zI_ix (by omega) (by omega), Int.toNat_natCast, h.2 i c, zch_l c]
  · rw [if_pos (by simp (disch := omega) only [zk_bind, zk_chk, zk_bnd, zk_some, zlp_l, zlp_r, zb_some, zb_bnd, zI_add, zI_sub, zI_mul, zI_neg, zI_le, zI_lt, zI_eq, zI_ix, zI_inI, Int.toNat_natCast, Int.toNat_add, Int.toNat_mul, true_and, and_true]; omega), zch_e (by omega)]
theorem r_sign {M : ZMem} {t : List Nat} (hb : okB t) (h : tapeR t M) {i : Nat} (hi : i ≤ 1000) (hp : M.1 0 2 = zI i) : f_X12_sign M = some (zI (zch t i)) := by
  have h1 := hb.1
  unfold f_X12_sign
  rw [h.1, hp]
  by_cases c : i < t.length
  · rw [if_neg (by simp (disch := omega) only [zk_bind, zk_chk, zk_bnd, zk_some, zlp_l, zlp_r, zb_some, zb_bnd, zI_add, zI_sub, zI_mul, zI_neg, zI_le, zI_lt, zI_eq, zI_ix, zI_inI, Int.toNat_natCast, Int.toNat_add, Int.toNat_mul, true_and, and_true]; omega), zI_inI (by omega) (by omega) (by omega), zb_chk, zI_ix (by omega) (by omega), Int.toNat_natCast, h.2 i c, zch_l c]
  · rw [if_pos (by simp (disch := omega) only [zk_bind, zk_chk, zk_bnd, zk_some, zlp_l, zlp_r, zb_some, zb_bnd, zI_add, zI_sub, zI_mul, zI_neg, zI_le, zI_lt, zI_eq, zI_ix, zI_inI, Int.toNat_natCast, Int.toNat_add, Int.toNat_mul, true_and, and_true]; omega), zch_e (by omega)]
theorem c_letterOf {M : ZMem} {v : Int} (h1 : -1 ≤ v) (h2 : v < 256) : f_X11_letterOf M (zI v) = some (zI (if 97 ≤ v ∧ v ≤ 122 then v - 97 else -1)) := by
  unfold f_X11_letterOf
  by_cases c1 : v < 97
  · rw [if_pos (by simp (disch := omega) only [zk_bind, zk_chk, zk_bnd, zk_some, zlp_l, zlp_r, zb_some, zb_bnd, zI_add, zI_sub, zI_mul, zI_neg, zI_le, zI_lt, zI_eq, zI_ix, zI_inI, Int.toNat_natCast, Int.toNat_add, Int.toNat_mul, true_and, and_true]; omega), if_neg (by omega)]
  · rw [if_neg (by simp (disch := omega) only [zk_bind, zk_chk, zk_bnd, zk_some, zlp_l, zlp_r, zb_some, zb_bnd, zI_add, zI_sub, zI_mul, zI_neg, zI_le, zI_lt, zI_eq, zI_ix, zI_inI, Int.toNat_natCast, Int.toNat_add, Int.toNat_mul, true_and, and_true]; omega)]
    by_cases c2 : 122 < v
    · rw [if_pos (by simp (disch := omega) only [zk_bind, zk_chk, zk_bnd, zk_some, zlp_l, zlp_r, zb_some, zb_bnd, zI_add, zI_sub, zI_mul, zI_neg, zI_le, zI_lt, zI_eq, zI_ix, zI_inI, Int.toNat_natCast, Int.toNat_add, Int.toNat_mul, true_and, and_true]; omega), if_neg (by omega)]
    · rw [if_neg (by simp (disch := omega) only [zk_bind, zk_chk, zk_bnd, zk_some, zlp_l, zlp_r, zb_some, zb_bnd, zI_add, zI_sub, zI_mul, zI_neg, zI_le, zI_lt, zI_eq, zI_ix, zI_inI, Int.toNat_natCast, Int.toNat_add, Int.toNat_mul, true_and, and_true]; omega), if_pos (by omega), zI_sub]
theorem r_isLetter {M : ZMem} {t : List Nat} (hb : okB t) (h : tapeR t M) {i : Nat} (hi : i ≤ 1000) (hp : M.1 0 2 = zI i) : f_X12_isLetter M = some (zI (zb (97 ≤ zch t i ∧ zch t i ≤ 122))) := by
  have := zch_rng hb i
  unfold f_X12_isLetter
  rw [r_sign hb h hi hp, zb_some, r_in (by omega) (by omega) (by omega) (by omega) (by omega) (by omega), zb_some, zisB_n (zb_le _), zb_chk]
def zgd (F : Nat) (t : List Nat) (i : Nat) : Prop := 97 ≤ zch t i ∧ zch t i < 97 + (F : Int)
def zpgood (F : Nat) (t : List Nat) : Prop := (1 ≤ t.length ∧ t.length ≤ 7) ∧ ∀ i, i < t.length → zgd F t i
def zpcT (sg : Nat → Nat) (t : List Nat) : Nat → Nat := fun i => sg (t.getD i 0 - 97)
theorem fndC_x {rl : Nat → Nat} {rs : Nat → Nat → Nat} {pc : Nat → Nat} {n : Nat} {M0 M : ZMem} (h1 : ∀ k, M.1 30 k = M0.1 30 k) (h2 : ∀ k, M.1 33 k = M0.1 33 k) (h : fndC rl rs pc n M0) : fndC rl rs pc n M := ⟨by rw [h1]; exact h.1, by rw [h1]; exact h.2.1, fun i hi => by rw [h2]; exact h.2.2 i hi⟩
theorem c_findTape {σ : ZT} {C : ZMem} (ho : okT σ) (hc : relC σ C) (h13 : C.1 0 13 = zI 0) : zOk (f_X11_findTapePiece C) (fun r => r.2 = zI (zb (zpgood (gF σ) (gT σ))) ∧ (zpgood (gF σ) (gT σ) → fndC (zRL (gs σ)) (dR σ) (zpcT (dS σ) (gT σ)) (gT σ).length r.1 ∧ rowsG (zRL (gs σ)) (dR σ) r.1) ∧ relC (zTX σ [] (gx σ)) r.1) := by
  have hF := ho.2.1
  have okr := dR_ok ho
  have hs := hc.2.2.2.2.2.2.1 h13
  have hb : okB (gT σ) := ho.1
  have hlen := hb.1
  have last : ∀ (N : ZMem) (v : Nat), v ≤ 1 → zP zWfnd C N → zOk (zbind (f_X8_cutTo N (zI 0)) (fun r_103 => zchk (zisB (zI v)) (some (r_103.1, zI v)))) (fun r => r.2 = zI v ∧ (∀ a k, a ≠ 1 → r.1.1 a k = N.1 a k) ∧ relC (zTX σ [] (gx σ)) r.1) := by
    intro N v hv hp
    have hN := relC_x (zScC_f hp) hc
    rw [c_cutTo hN.1.1 hlen (by omega) (by omega), if_pos (by omega), zb_some, zisB_n hv, zb_chk, zk_some]
    refine ⟨rfl, fun a k ha => by dsimp only; rw [zm_Iq _ _ _ _ ha], ?_⟩
    have := c_cut ho hN (n := 0) (by omega)
    rw [List.take_zero] at this
    exact this
  unfold f_X11_findTapePiece f_X11_findTapePiece_23 f_X8_used
  rw [zb_some, hc.1.1]
  by_cases h7 : 1 ≤ (gT σ).length ∧ (gT σ).length ≤ 7
  · rw [if_neg (by simp (disch := omega) only [zk_bind, zk_chk, zk_bnd, zk_some, zlp_l, zlp_r, zb_some, zb_bnd, zI_add, zI_sub, zI_mul, zI_neg, zI_le, zI_lt, zI_eq, zI_ix, zI_inI, Int.toNat_natCast, Int.toNat_add, Int.toNat_mul, true_and, and_true]; omega), if_neg (by simp (disch := omega) only [zk_bind, zk_chk, zk_bnd, zk_some, zlp_l, zlp_r, zb_some, zb_bnd, zI_add, zI_sub, zI_mul, zI_neg, zI_le, zI_lt, zI_eq, zI_ix, zI_inI, Int.toNat_natCast, Int.toNat_add, Int.toNat_mul, true_and, and_true]; omega)]
    unfold f_X11_findTapePiece_24
    rw [zk_bind]
    refine zOk_forQ (fun i s => s.2.2 = zI i ∧ zP zWfnd C s.1 ∧ ((s.2.1 = zI 1 ∧ (∀ j, j < i → zgd (gF σ) (gT σ) j) ∧ (1 ≤ i → fndC (zRL (gs σ)) (dR σ) (zpcT (dS σ) (gT σ)) i s.1)) ∨ (s.2.1 = zI 0 ∧ ¬ zpgood (gF σ) (gT σ)))) (gT σ).length ?_ ?_ ⟨rfl, zP_rf, Or.inl ⟨rfl, fun j hj => absurd hj (Nat.not_lt_zero j), fun hh => absurd hh (by omega)⟩⟩
    · rintro i ⟨N, s1, s2⟩ hi ⟨e1, e2, e3⟩ Q hQ hE
      dsimp only at e1 e2 e3
      have hN := relC_x (zScC_f e2) hc
      have hsN : ∀ f, f < gF σ → N.1 9 f = zI (dS σ f) := fun f hf => by rw [e2.1 9 f rfl]; exact hs.1.1 f hf
      have rgN : rowsG (zRL (gs σ)) (dR σ) N := rowsG_x (fun k => e2.1 31 k rfl) (fun k => e2.1 32 k rfl) hs.2.2.1
      unfold f_X11_findTapePiece_L27
      dsimp only
      rw [e1, if_neg (by simp (disch := omega) only [zk_bind, zk_chk, zk_bnd, zk_some, zlp_l, zlp_r, zb_some, zb_bnd, zI_add, zI_sub, zI_mul, zI_neg, zI_le, zI_lt, zI_eq, zI_ix, zI_inI, Int.toNat_natCast, Int.toNat_add, Int.toNat_mul, true_and, and_true]; omega)]
      rcases e3 with ⟨e3, e4, e5⟩ | ⟨e3, e4⟩
      · have hz := zch_rng hb i
        rw [e3, if_neg (by decide), c_byteAt hb hN.1 (by omega), zb_some, c_letterOf hz.1 hz.2, zb_some, c_signOf hN.2.1.1.2.1 hF hsN (by split <;> omega) (by split <;> omega), zb_some]
        by_cases hg : zgd (gF σ) (gT σ) i
        · have hgl := zch_l hi
          have hg' := hg
          unfold zgd at hg'
          have hlf : (gT σ).getD i 0 - 97 < gF σ := by omega
          have sf := zsgl ho hlf
          rw [if_pos (c := 97 ≤ zch (gT σ) i ∧ zch (gT σ) i ≤ 122) (by omega), if_pos (c := 0 ≤ zch (gT σ) i - 97 ∧ zch (gT σ) i - 97 < (gF σ : Int)) (by omega), show (zch (gT σ) i - 97).toNat = (gT σ).getD i 0 - 97 by omega, if_neg (c := zI ((zsg (gF σ) (gf σ) (gh σ) ((gT σ).getD i 0 - 97) : Nat) : Int) = zI (-1)) (by simp (disch := omega) only [zk_bind, zk_chk, zk_bnd, zk_some, zlp_l, zlp_r, zb_some, zb_bnd, zI_add, zI_sub, zI_mul, zI_neg, zI_le, zI_lt, zI_eq, zI_ix, zI_inI, Int.toNat_natCast, Int.toNat_add, Int.toNat_mul, true_and, and_true]; omega)]
          by_cases hi0 : i = 0
          · subst hi0
            rw [if_pos (c := zI ((0 : Nat) : Int) = zI 0) rfl, zk_bind]
            refine zOk_mono (c_startPiece okr rgN (pc := zpcT (dS σ) (gT σ)) sf) (fun N' k => ?_)
            rw [zk_bnd, zk_some, zI_add]
            refine hQ _ ⟨zI_inj (by omega), zP_tr e2 k.2, Or.inl ⟨rfl, fun j hj => ?_, fun _ => k.1⟩⟩
            rw [show j = 0 by omega]
            exact hg
          · rw [if_neg (by simp (disch := omega) only [zk_bind, zk_chk, zk_bnd, zk_some, zlp_l, zlp_r, zb_some, zb_bnd, zI_add, zI_sub, zI_mul, zI_neg, zI_le, zI_lt, zI_eq, zI_ix, zI_inI, Int.toNat_natCast, Int.toNat_add, Int.toNat_mul, true_and, and_true]; omega), zk_bind]
            refine zOk_mono (c_growPiece okr rgN (pc := zpcT (dS σ) (gT σ)) (n := i) (by omega) (e5 (by omega)) sf) (fun N' k => ?_)
            rw [zk_bnd, zk_some, zI_add]
            refine hQ _ ⟨zI_inj (by omega), zP_tr e2 k.2, Or.inl ⟨rfl, fun j hj => ?_, fun _ => k.1⟩⟩
            by_cases hji : j = i
            · rw [hji]; exact hg
            · exact e4 j (by omega)
        · have hng : ¬ zpgood (gF σ) (gT σ) := fun hh => hg (hh.2 i hi)
          have ev : (if 0 ≤ (if 97 ≤ zch (gT σ) i ∧ zch (gT σ) i ≤ 122 then zch (gT σ) i - 97 else -1) ∧ (if 97 ≤ zch (gT σ) i ∧ zch (gT σ) i ≤ 122 then zch (gT σ) i - 97 else -1) < (gF σ : Int) then ((dS σ (if 97 ≤ zch (gT σ) i ∧ zch (gT σ) i ≤ 122 then zch (gT σ) i - 97 else -1).toNat : Nat) : Int) else -1) = -1 := by
            refine if_neg (fun hh => hg ?_)
            unfold zgd
            by_cases hl : 97 ≤ zch (gT σ) i ∧ zch (gT σ) i ≤ 122
            · rw [if_pos hl] at hh
              omega
            · rw [if_neg hl] at hh
              omega
          rw [ev, if_pos rfl, zk_bnd, zk_some, zI_add]
          exact hQ _ ⟨zI_inj (by omega), e2, Or.inr ⟨rfl, hng⟩⟩
      · rw [e3, if_pos rfl, zk_some]
        refine hE _ ?_
        dsimp only
        refine zOk_mono (last N 0 (by omega) e2) (fun r k => ?_)
        exact ⟨by rw [k.1, zb_f e4], fun hh => absurd hh e4, k.2.2⟩
    · rintro ⟨N, s1, s2⟩ ⟨e1, e2, e3⟩
      dsimp only at e1 e2 e3
      refine ⟨(N, s1), ?_, ?_⟩
      · unfold f_X11_findTapePiece_L27
        dsimp only
        rw [e1, if_pos (by simp (disch := omega) only [zk_bind, zk_chk, zk_bnd, zk_some, zlp_l, zlp_r, zb_some, zb_bnd, zI_add, zI_sub, zI_mul, zI_neg, zI_le, zI_lt, zI_eq, zI_ix, zI_inI, Int.toNat_natCast, Int.toNat_add, Int.toNat_mul, true_and, and_true]; omega)]
      · dsimp only
        rcases e3 with ⟨e3, e4, e5⟩ | ⟨e3, e4⟩
        · rw [e3]
          refine zOk_mono (last N 1 (by omega) e2) (fun r k => ?_)
          refine ⟨by rw [k.1, zb_t ⟨h7, e4⟩], fun hh => ⟨fndC_x (fun i => k.2.1 30 i (by decide)) (fun i => k.2.1 33 i (by decide)) (e5 h7.1), ?_⟩, k.2.2⟩
          refine rowsG_x (fun i => k.2.1 31 i (by decide)) (fun i => k.2.1 32 i (by decide)) ?_
          exact rowsG_x (fun k => e2.1 31 k rfl) (fun k => e2.1 32 k rfl) hs.2.2.1
        · rw [e3]
          refine zOk_mono (last N 0 (by omega) e2) (fun r k => ?_)
          exact ⟨by rw [k.1, zb_f e4], fun hh => absurd hh e4, k.2.2⟩
  · have hng : ¬ zpgood (gF σ) (gT σ) := fun hh => h7 hh.1
    have e24 : zOk (f_X11_findTapePiece_24 C (zI (gT σ).length) (zI 0)) (fun r => r.2 = zI (zb (zpgood (gF σ) (gT σ))) ∧ (zpgood (gF σ) (gT σ) → fndC (zRL (gs σ)) (dR σ) (zpcT (dS σ) (gT σ)) (gT σ).length r.1 ∧ rowsG (zRL (gs σ)) (dR σ) r.1) ∧ relC (zTX σ [] (gx σ)) r.1) := by
      unfold f_X11_findTapePiece_24
      rw [zk_bind]
      refine zOk_forQ (fun i s => s = (C, zI 0, zI 0)) 0 (fun i s hi => absurd hi (Nat.not_lt_zero i)) ?_ rfl
      rintro s rfl
      refine ⟨(C, zI 0), ?_, ?_⟩
      · unfold f_X11_findTapePiece_L27
        dsimp only
        rw [if_pos (c := zI 0 = zI 0) rfl, ite_self]
      · refine zOk_mono (last C 0 (by omega) zP_rf) (fun r k => ?_)
        exact ⟨by rw [k.1, zb_f hng], fun hh => absurd hh hng, k.2.2⟩
    by_cases h0 : (gT σ).length < 1
    · rw [if_pos (by simp (disch := omega) only [zk_bind, zk_chk, zk_bnd, zk_some, zlp_l, zlp_r, zb_some, zb_bnd, zI_add, zI_sub, zI_mul, zI_neg, zI_le, zI_lt, zI_eq, zI_ix, zI_inI, Int.toNat_natCast, Int.toNat_add, Int.toNat_mul, true_and, and_true]; omega)]
      exact e24
    · rw [if_neg (by simp (disch := omega) only [zk_bind, zk_chk, zk_bnd, zk_some, zlp_l, zlp_r, zb_some, zb_bnd, zI_add, zI_sub, zI_mul, zI_neg, zI_le, zI_lt, zI_eq, zI_ix, zI_inI, Int.toNat_natCast, Int.toNat_add, Int.toNat_mul, true_and, and_true]; omega), if_pos (by simp (disch := omega) only [zk_bind, zk_chk, zk_bnd, zk_some, zlp_l, zlp_r, zb_some, zb_bnd, zI_add, zI_sub, zI_mul, zI_neg, zI_le, zI_lt, zI_eq, zI_ix, zI_inI, Int.toNat_natCast, Int.toNat_add, Int.toNat_mul, true_and, and_true]; omega)]
      exact e24
def zWpt (a k : Nat) : Bool := a == 15 || (a == 0 && (k == 2 || k == 3))
theorem r_pieceTold {σ : ZT} {R : ZMem} (ho : okT σ) (hr : relR σ R) : zOk (f_X12_pieceTold R) (fun r => relR (zTX σ [] (gx σ)) r.1 ∧ (¬ zpgood (gF σ) (gT σ) → r.2 = zI 0) ∧ (zpgood (gF σ) (gT σ) → r.2 = zI (gT σ).length ∧ pcR (zpcT (dS σ) (gT σ)) (gT σ).length r.1 ∧ rowsH (gs σ) (dR σ) r.1)) := by
  have hF := ho.2.1
  have hb : okB (gT σ) := ho.1
  have hlen := hb.1
  unfold f_X12_pieceTold
  rw [zk_bind]
  refine zOk_mono (k_ls ho hr) (fun R1 h' => ?_)
  obtain ⟨hR, h45, hl⟩ := h'
  unfold f_X12_starts
  rw [zb_bnd, zb_bnd, zb_some, zk_bnd, zm_In _ _ _ _ (by decide), zm_In _ _ _ _ (by decide), hR.1.1, r_in (by omega) (by omega) (by omega) (by omega) (by omega) (by omega), zb_some, zk_bind]
  have last : ∀ (N : ZMem), zP zWpt R1 N → relR (zTX σ [] (gx σ)) (zstI N 0 1 (zI 0)) ∧ (∀ k, (zstI N 0 1 (zI 0)).1 15 k = N.1 15 k) ∧ rowsH (gs σ) (dR σ) (zstI N 0 1 (zI 0)) := by
    intro N hp
    refine ⟨?_, fun k => by rw [zm_Iq _ _ _ _ (by decide)], ?_⟩
    · have hN : relR σ N := relR_x (zP_mono hp (fun a k ha => by unfold zScR at ha; unfold zWpt; simp at ha ⊢; omega)) hR
      have := r_cut ho hN (n := 0) (by omega)
      rw [List.take_zero] at this
      exact this
    · exact rowsH_x (by rw [zm_In _ _ _ _ (by decide), hp.1 0 23 rfl]) (fun k => by rw [zm_Iq _ _ _ _ (by decide), hp.1 13 k rfl]) (fun k => by rw [zm_Iq _ _ _ _ (by decide), hp.1 14 k rfl]) hl.2.1
  have m0 : zP zWpt R1 (zstI (zstI R1 0 2 (zI 0)) 0 3 (zI (-1))) := zP_I (zP_I zP_rf rfl) rfl
  have m2 : (zstI (zstI R1 0 2 (zI 0)) 0 3 (zI (-1))).1 0 2 = zI 0 := by rw [zm_In _ _ _ _ (by decide), zm_Is]
  generalize zstI (zstI R1 0 2 (zI 0)) 0 3 (zI (-1)) = N0 at m0 m2 ⊢
  by_cases h7 : 1 ≤ ((gT σ).length : Int) ∧ ((gT σ).length : Int) ≤ 7
  · rw [zb_t h7]
    have fin : ∀ (N : ZMem), zP zWpt R1 N → ¬ zpgood (gF σ) (gT σ) → zOk (zbnd (zstI N 0 1 (zI 0)) (fun M_100 => if zI 0 = zI 0 then some (M_100, zI 0) else some (M_100, zI (gT σ).length))) (fun r => relR (zTX σ [] (gx σ)) r.1 ∧ (¬ zpgood (gF σ) (gT σ) → r.2 = zI 0) ∧ (zpgood (gF σ) (gT σ) → r.2 = zI (gT σ).length ∧ pcR (zpcT (dS σ) (gT σ)) (gT σ).length r.1 ∧ rowsH (gs σ) (dR σ) r.1)) := by
      intro N hp hn
      rw [zk_bnd, if_pos rfl, zk_some]
      exact ⟨(last N hp).1, fun _ => rfl, fun hh => absurd hh hn⟩
    refine zOk_forQ (fun i s => s.1.1 0 2 = zI i ∧ zP zWpt R1 s.1 ∧ ((s.2 = zI 1 ∧ (∀ j, j < i → zgd (gF σ) (gT σ) j) ∧ pcR (zpcT (dS σ) (gT σ)) i s.1) ∨ (s.2 = zI 0 ∧ ¬ zpgood (gF σ) (gT σ)))) (gT σ).length ?_ ?_ ⟨m2, m0, Or.inl ⟨rfl, fun j hj => absurd hj (Nat.not_lt_zero j), fun j hj => absurd hj (Nat.not_lt_zero j)⟩⟩
    · rintro i ⟨N, s1⟩ hi ⟨e1, e2, e3⟩ Q hQ hE
      dsimp only at e1 e2 e3
      unfold f_X12_pieceTold_L21
      dsimp only
      rcases e3 with ⟨e3, e4, e5⟩ | ⟨e3, e4⟩
      · have hz := zch_rng hb i
        have htR : tapeR (gT σ) N := ⟨by rw [e2.1 0 1 rfl]; exact hR.1.1, fun j hj => by rw [e2.1 1 j rfl]; exact hR.1.2 j hj⟩
        have hF1 : N.1 0 4 = zI (gF σ) := by rw [e2.1 0 4 rfl]; exact hR.2.1.2.1
        have bad : ¬ zgd (gF σ) (gT σ) i → zOk (f_X12_pieceTold_58_L21 N (zI (gT σ).length)) Q := by
          intro hg
          unfold f_X12_pieceTold_58_L21 f_X12_pieceTold_59_L21 f_X12_pieceTold_85_L21
          rw [if_pos rfl, zk_bnd, zk_some, e1, zI_add]
          refine hQ _ ⟨by rw [zm_Is]; exact zI_inj (by omega), zP_I e2 rfl, Or.inr ⟨rfl, fun hh => hg (hh.2 i hi)⟩⟩
        rw [e3, if_neg (by decide), e1, if_neg (by simp (disch := omega) only [zk_bind, zk_chk, zk_bnd, zk_some, zlp_l, zlp_r, zb_some, zb_bnd, zI_add, zI_sub, zI_mul, zI_neg, zI_le, zI_lt, zI_eq, zI_ix, zI_inI, Int.toNat_natCast, Int.toNat_add, Int.toNat_mul, true_and, and_true]; omega), r_isLetter hb htR (by omega) e1, zb_some, r_sign hb htR (by omega) e1, zb_some, hF1, zI_sub]
        by_cases hlt : 97 ≤ zch (gT σ) i ∧ zch (gT σ) i ≤ 122
        · rw [if_neg (fun hh => zb_0.mp hh hlt)]
          by_cases hg : zgd (gF σ) (gT σ) i
          · have hgl := zch_l hi
            have hg' := hg
            unfold zgd at hg'
            have hlf : (gT σ).getD i 0 - 97 < gF σ := by omega
            rw [if_neg (by simp (disch := omega) only [zk_bind, zk_chk, zk_bnd, zk_some, zlp_l, zlp_r, zb_some, zb_bnd, zI_add, zI_sub, zI_mul, zI_neg, zI_le, zI_lt, zI_eq, zI_ix, zI_inI, Int.toNat_natCast, Int.toNat_add, Int.toNat_mul, true_and, and_true]; omega)]
            unfold f_X12_pieceTold_59_L21 f_X12_pieceTold_85_L21
            rw [if_neg (by decide), r_sign hb htR (by omega) e1, zb_some, zI_sub, zI_inI (by omega) (by omega) (by omega), zb_chk, e1, zI_inI (by omega) (by omega) (by omega), zb_chk, zk_bnd, zk_bnd, zk_some, zI_ix (by omega) (by omega), zI_ix (by omega) (by omega), Int.toNat_natCast, show (zch (gT σ) i - 97).toNat = (gT σ).getD i 0 - 97 by omega, e2.1 11 _ rfl, hl.1.1 _ hlf, zm_Iq _ _ _ _ (by decide), e1, zI_add]
            refine hQ _ ⟨by rw [zm_Is]; exact zI_inj (by omega), zP_I (zP_I e2 rfl) rfl, Or.inl ⟨rfl, fun j hj => ?_, fun j hj => ?_⟩⟩
            · by_cases hji : j = i
              · rw [hji]; exact hg
              · exact e4 j (by omega)
            · dsimp only
              rw [zm_Iq _ _ _ _ (by decide)]
              by_cases hji : j = i
              · rw [hji, zm_Is]
                rfl
              · rw [zm_In _ _ _ _ hji]
                exact e5 j (by omega)
          · rw [if_pos (by unfold zgd at hg; simp (disch := omega) only [zk_bind, zk_chk, zk_bnd, zk_some, zlp_l, zlp_r, zb_some, zb_bnd, zI_add, zI_sub, zI_mul, zI_neg, zI_le, zI_lt, zI_eq, zI_ix, zI_inI, Int.toNat_natCast, Int.toNat_add, Int.toNat_mul, true_and, and_true]; omega)]
            exact bad hg
        · rw [if_pos (zb_0.mpr hlt)]
          exact bad (fun hh => by unfold zgd at hh; omega)
      · rw [e3, if_pos rfl, zk_some]
        refine hE _ ?_
        exact fin N e2 e4
    · rintro ⟨N, s1⟩ ⟨e1, e2, e3⟩
      dsimp only at e1 e2 e3
      refine ⟨(N, s1), ?_, ?_⟩
      · unfold f_X12_pieceTold_L21
        dsimp only
        rw [e1, if_pos (c := zI ((gT σ).length : Int) ≤ zI ((gT σ).length : Int)) (by simp (disch := omega) only [zk_bind, zk_chk, zk_bnd, zk_some, zlp_l, zlp_r, zb_some, zb_bnd, zI_add, zI_sub, zI_mul, zI_neg, zI_le, zI_lt, zI_eq, zI_ix, zI_inI, Int.toNat_natCast, Int.toNat_add, Int.toNat_mul, true_and, and_true]; omega), ite_self]
      · dsimp only
        rcases e3 with ⟨e3, e4, e5⟩ | ⟨e3, e4⟩
        · have hgd : zpgood (gF σ) (gT σ) := ⟨⟨by omega, by omega⟩, e4⟩
          obtain ⟨q1, q2, q3⟩ := last N e2
          rw [e3, zk_bnd, if_neg (by decide), zk_some]
          exact ⟨q1, fun hh => absurd hgd hh, fun _ => ⟨rfl, fun j hj => by dsimp only; rw [q2]; exact e5 j hj, q3⟩⟩
        · rw [e3]
          exact fin N e2 e4
  · have hng : ¬ zpgood (gF σ) (gT σ) := fun hh => h7 ⟨by have := hh.1; omega, by have := hh.1; omega⟩
    rw [zb_f h7]
    refine zOk_forQ (fun i s => s = (N0, zI 0)) 0 (fun i s hi => absurd hi (Nat.not_lt_zero i)) ?_ rfl
    rintro s rfl
    refine ⟨(N0, zI 0), ?_, ?_⟩
    · unfold f_X12_pieceTold_L21
      dsimp only
      rw [if_pos rfl]
    · rw [zk_bnd, if_pos rfl, zk_some]
      exact ⟨(last N0 m0).1, fun _ => rfl, fun hh => absurd hh hng⟩
theorem okT_0 {σ : ZT} (ho : okT σ) : okT (zTX σ [] (gx σ)) := okT_x ho (by decide) (fun i hi => absurd hi (Nat.not_lt_zero i)) ho.2.2.2.2.2.2
theorem zpcT_lt {σ : ZT} (ho : okT σ) (hg : zpgood (gF σ) (gT σ)) : ∀ i, i < (gT σ).length → zpcT (dS σ) (gT σ) i < 20 := by
  intro i hi
  have h1 := hg.2 i hi
  unfold zgd at h1
  rw [zch_l hi] at h1
  exact zsgl ho (show (gT σ).getD i 0 - 97 < gF σ by omega)
theorem zp_comes : zPr_comes zRel := by
  rintro M1 M2 ⟨σ, ho, hc, hr⟩
  unfold f_X11_comes f_X12_comes f_X6_foundTimes
  rw [zk_bind]
  refine zOk_mono (k_fs ho hc) (fun C h => ?_)
  rw [zk_bind]
  refine zOk_mono (c_findTape ho h.1 h.2) (fun r k => ?_)
  obtain ⟨N, v⟩ := r
  obtain ⟨k1, k2, k3⟩ := k
  dsimp only at k1 k2 k3 ⊢
  rw [k1]
  by_cases hg : zpgood (gF σ) (gT σ)
  · rw [if_neg (fun hh => zb_0.mp hh hg), zb_some, zk_some, (k2 hg).1.1, zk_bind]
    refine zOk_mono (r_pieceTold ho hr) (fun r k => ?_)
    obtain ⟨R, w⟩ := r
    obtain ⟨q1, q2, q3⟩ := k
    dsimp only at q1 q2 q3 ⊢
    obtain ⟨q3, q4, q5⟩ := q3 hg
    have h7 := hg.1
    rw [q3, if_neg (by simp (disch := omega) only [zk_bind, zk_chk, zk_bnd, zk_some, zlp_l, zlp_r, zb_some, zb_bnd, zI_add, zI_sub, zI_mul, zI_neg, zI_le, zI_lt, zI_eq, zI_ix, zI_inI, Int.toNat_natCast, Int.toNat_add, Int.toNat_mul, true_and, and_true]; omega), r_comesOf ho.2.2.1 (dR_ok ho) q5 h7.1 h7.2 q4 (zpcT_lt ho hg), zb_some, zk_some, zfil_len]
    exact ⟨rfl, _, okT_0 ho, k3, q1⟩
  · rw [if_pos (zb_0.mpr hg), zk_some, zk_bind]
    refine zOk_mono (r_pieceTold ho hr) (fun r k => ?_)
    rw [k.2.1 hg, if_pos rfl, zk_some]
    exact ⟨rfl, _, okT_0 ho, k3, k.1⟩
theorem zp_next : zPr_next zRel := by
  rintro M1 M2 ⟨σ, ho, hc, hr⟩
  unfold f_X11_next f_X12_next
  rw [zk_bind]
  refine zOk_mono (k_fs ho hc) (fun C h => ?_)
  rw [zk_bind]
  refine zOk_mono (c_findTape ho h.1 h.2) (fun r k => ?_)
  obtain ⟨N, v⟩ := r
  obtain ⟨k1, k2, k3⟩ := k
  dsimp only at k1 k2 k3 ⊢
  rw [k1]
  by_cases hg : zpgood (gF σ) (gT σ)
  · have h7 := hg.1
    rw [if_neg (fun hh => zb_0.mp hh hg), c_followers (dR_ok ho) (k2 hg).2 (by omega) (k2 hg).1, zb_some, zk_some, zk_bind]
    refine zOk_mono (r_pieceTold ho hr) (fun r k => ?_)
    obtain ⟨R, w⟩ := r
    obtain ⟨q1, q2, q3⟩ := k
    dsimp only at q1 q2 q3 ⊢
    obtain ⟨q3, q4, q5⟩ := q3 hg
    rw [q3, if_neg (by simp (disch := omega) only [zk_bind, zk_chk, zk_bnd, zk_some, zlp_l, zlp_r, zb_some, zb_bnd, zI_add, zI_sub, zI_mul, zI_neg, zI_le, zI_lt, zI_eq, zI_ix, zI_inI, Int.toNat_natCast, Int.toNat_add, Int.toNat_mul, true_and, and_true]; omega), r_nextOf ho.2.2.1 (dR_ok ho) q5 h7.1 h7.2 q4 (zpcT_lt ho hg), zb_some, zk_some]
    exact ⟨rfl, _, okT_0 ho, k3, q1⟩
  · rw [if_pos (zb_0.mpr hg), zk_some, zk_bind]
    refine zOk_mono (r_pieceTold ho hr) (fun r k => ?_)
    rw [k.2.1 hg, if_pos rfl, zk_some]
    exact ⟨rfl, _, okT_0 ho, k3, k.1⟩
