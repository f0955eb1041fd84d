/-! ===== acts: what is told, remembered ===== deps: 97.zj.fresh -/
def zPo (P : Nat) : Nat := if P < 20 then 0 else 1
def zPn (P : Nat) : Nat := P + 1 - zPo P
def zHn (P : Nat) (H : Nat → Nat → Int) (h' : Nat → Int) : Nat → Nat → Int := fun p => if p < zPn P then H (p + zPo P) else h'
theorem zPo_c {P : Nat} (hP : P ≤ 20) : (P < 20 ∧ zPo P = 0 ∧ zPn P = P + 1) ∨ (P = 20 ∧ zPo P = 1 ∧ zPn P = 20) := by
  unfold zPn zPo
  by_cases h : P < 20
  · rw [if_pos h]; exact Or.inl ⟨h, rfl, rfl⟩
  · rw [if_neg h]; exact Or.inr ⟨by omega, rfl, by omega⟩
theorem zHn_P (P : Nat) (H : Nat → Nat → Int) (h' : Nat → Int) : zHn P H h' (zPn P) = h' := by
  unfold zHn
  exact if_neg (Nat.lt_irrefl _)
theorem zHn_l {P : Nat} (H : Nat → Nat → Int) (h' : Nat → Int) {p : Nat} (hp : p < zPn P) : zHn P H h' p = H (p + zPo P) := by
  unfold zHn
  exact if_pos hp
theorem zstI_id (M : ZMem) (q i : Nat) : zstI M q i (M.1 q i) = M := by
  refine Prod.ext (funext (fun a => funext (fun k => ?_))) rfl
  rw [zm_I]
  split
  · next e => rw [e.1, e.2]
  · rfl
theorem c_forgetFirst {M : ZMem} {q : Nat} : zOk (f_X1_forgetFirst q 20 M) (fun M' => (∀ k, k < 19 → M'.1 q k = M.1 q (k + 1)) ∧ zP (fun a _ => a == q) M M') := by
  unfold f_X1_forgetFirst
  rw [zI_sub, zcpI (by omega) (by omega) (by omega) (by omega) (by omega) (by omega) (by omega), zb_chk, zk_bnd, zk_some, zI_ix (by omega) (by omega), zI_ix (by omega) (by omega), zI_ix (by omega) (by omega)]
  refine ⟨fun k hk => ?_, zP_F zP_rf (fun k => by simp)⟩
  rw [zm_Fs]
  unfold va_cpy
  rw [if_pos (by omega), show (1 : Int).toNat + (k - (0 : Int).toNat) = k + 1 by omega]
def zWnt (a k : Nat) : Bool := a == 27 || a == 28 || a == 29 || (a == 20 && k == 11)
theorem c_note36 {M : ZMem} {n : Nat} (hn : n < 20) (h : M.1 20 11 = zI n) (k q w : Int32) : zOk (f_X1_note_36 M k q w) (fun M' => M'.1 20 11 = zI ((n + 1 : Nat) : Int) ∧ (M'.1 27 n = k ∧ M'.1 28 n = q ∧ M'.1 29 n = w) ∧ (∀ p, p < n → M'.1 27 p = M.1 27 p ∧ M'.1 28 p = M.1 28 p ∧ M'.1 29 p = M.1 29 p) ∧ zP zWnt M M') := by
  unfold f_X1_note_36
  simp (disch := omega) only [zk_chk, zk_bnd, zk_some, zm_Iq, h, zI_ix, zI_inI, Int.toNat_natCast, true_and, zI_add]
  refine ⟨?_, ⟨?_, ?_, ?_⟩, fun p hp => ⟨?_, ?_, ?_⟩, zP_I (zP_I (zP_I (zP_I zP_rf rfl) rfl) rfl) rfl⟩
  · rw [zm_Is]
    exact zI_inj (by omega)
  · rw [zm_Is]
  · rw [zm_Is]
  · rw [zm_Is]
  · rw [zm_In _ _ _ _ (by omega)]
  · rw [zm_In _ _ _ _ (by omega), zm_Iq _ _ _ _ (by decide)]
  · rw [zm_In _ _ _ _ (by omega), zm_Iq _ _ _ _ (by decide), zm_Iq _ _ _ _ (by decide)]
theorem c_note {M : ZMem} {P : Nat} {H : Nat → Nat → Int} {h' : Nat → Int} {k q w : Int} (hP : P ≤ 20) (h : actsC P H M) (hu : zund k q w h' (H P)) : zOk (f_X1_note M (zI k) (zI q) (zI w)) (fun M' => actsC (zPn P) (zHn P H h') M' ∧ zP zWnt M M') := by
  have hc := zPo_c hP
  have key : ∀ M1 : ZMem, M1.1 20 11 = zI ((zPn P - 1 : Nat) : Int) → (∀ p, p < zPn P - 1 → M1.1 27 p = M.1 27 (p + zPo P) ∧ M1.1 28 p = M.1 28 (p + zPo P) ∧ M1.1 29 p = M.1 29 (p + zPo P)) → zP zWnt M M1 → zOk (f_X1_note_36 M1 (zI k) (zI q) (zI w)) (fun M' => actsC (zPn P) (zHn P H h') M' ∧ zP zWnt M M') := by
    intro M1 m1 m2 m3
    refine zOk_mono (c_note36 (by omega) m1 _ _ _) (fun M' hm => ?_)
    obtain ⟨a1, a2, a3, a4⟩ := hm
    refine ⟨⟨by rw [a1]; exact zI_inj (by omega), fun p hp => ?_⟩, zP_tr m3 a4⟩
    by_cases hpn : p = zPn P - 1
    · refine ⟨k, q, w, by rw [hpn]; exact a2.1, by rw [hpn]; exact a2.2.1, by rw [hpn]; exact a2.2.2, ?_⟩
      rw [show p + 1 = zPn P by omega, zHn_P, zHn_l H h' hp, show p + zPo P = P by omega]
      exact hu
    · obtain ⟨k', q', w', b1, b2, b3, b4⟩ := h.2 (p + zPo P) (by omega)
      obtain ⟨d1, d2, d3⟩ := a3 p (by omega)
      obtain ⟨g1, g2, g3⟩ := m2 p (by omega)
      refine ⟨k', q', w', by rw [d1, g1, b1], by rw [d2, g2, b2], by rw [d3, g3, b3], ?_⟩
      rw [zHn_l H h' hp, zHn_l H h' (show p + 1 < zPn P by omega), Nat.add_right_comm]
      exact b4
  unfold f_X1_note
  rw [h.1]
  rcases hc with ⟨c1, c2, c3⟩ | ⟨c1, c2, c3⟩
  · rw [if_pos (by simp (disch := omega) only [zk_bind, zk_chk, zk_bnd, zk_some, zlp_l, zlp_r, zb_some, zb_bnd, zI_add, zI_sub, zI_mul, zI_neg, zI_le, zI_lt, zI_eq, zI_ix, zI_inI, Int.toNat_natCast, Int.toNat_add, Int.toNat_mul, true_and, and_true]; omega)]
    exact key M (by rw [h.1]; exact zI_inj (by omega)) (fun p hp => by rw [c2]; exact ⟨rfl, rfl, rfl⟩) zP_rf
  · rw [if_neg (by simp (disch := omega) only [zk_bind, zk_chk, zk_bnd, zk_some, zlp_l, zlp_r, zb_some, zb_bnd, zI_add, zI_sub, zI_mul, zI_neg, zI_le, zI_lt, zI_eq, zI_ix, zI_inI, Int.toNat_natCast, Int.toNat_add, Int.toNat_mul, true_and, and_true]; omega), zk_bind]
    refine zOk_mono c_forgetFirst (fun n1 j1 => ?_)
    rw [zk_bind]
    refine zOk_mono c_forgetFirst (fun n2 j2 => ?_)
    rw [zk_bind]
    refine zOk_mono c_forgetFirst (fun n3 j3 => ?_)
    rw [zk_bnd]
    refine key _ (by rw [zm_Is, c3]; rfl) (fun p hp => ?_) (zP_I (zP_tr (zP_tr (zP_mono j1.2 (fun a k ha => ?_)) (zP_mono j2.2 (fun a k ha => ?_))) (zP_mono j3.2 (fun a k ha => ?_))) rfl)
    · rw [c3] at hp
      rw [c2, zm_Iq _ _ _ _ (by decide), zm_Iq _ _ _ _ (by decide), zm_Iq _ _ _ _ (by decide)]
      refine ⟨?_, ?_, ?_⟩
      · rw [j3.2.1 27 p rfl, j2.2.1 27 p rfl, j1.1 p (by omega)]
      · rw [j3.2.1 28 p rfl, j2.1 p (by omega), j1.2.1 28 _ rfl]
      · rw [j3.1 p (by omega), j2.2.1 29 _ rfl, j1.2.1 29 _ rfl]
    all_goals
      unfold zWnt at ha
      simp at ha ⊢
      omega
def zWrm (a k : Nat) : Bool := a == 10 || (a == 0 && (k == 17 || k == 45))
theorem r_remembers {M : ZMem} {P : Nat} {H : Nat → Nat → Int} (h' : Nat → Int) (hP : P ≤ 20) (hh : handR (H P) M) (hp : pastR P H M) : zOk (f_X12_remembers M) (fun M' => pastR (zPn P) (zHn P H h') M' ∧ M'.1 0 45 = zI 0 ∧ zP zWrm M M') := by
  have hc := zPo_c hP
  have key : ∀ M1 : ZMem, M1.1 0 17 = zI ((zPn P - 1 : Nat) : Int) → (∀ p k, p < zPn P - 1 → k < 460 → M1.1 10 (460 * p + k) = zI (H (p + zPo P) k)) → zP zWrm M M1 → zOk (f_X12_remembers_52 M1) (fun M' => pastR (zPn P) (zHn P H h') M' ∧ M'.1 0 45 = zI 0 ∧ zP zWrm M M') := by
    intro M1 m1 m2 m3
    unfold f_X12_remembers_52
    rw [zk_bind]
    refine zOk_forQ (fun i s => s.2 = zI i ∧ (∀ j, j < i → s.1.1 10 (460 * (zPn P - 1) + j) = zI (H P j)) ∧ (∀ j, j < 460 * (zPn P - 1) → s.1.1 10 j = M1.1 10 j) ∧ zP (fun a _ => a == 10) M1 s.1) 460 ?_ ?_ ⟨rfl, fun j hj => absurd hj (Nat.not_lt_zero j), fun j _ => rfl, zP_rf⟩
    · rintro i ⟨N, s2⟩ hi ⟨e1, e2, e3, e4⟩ Q hQ _
      dsimp only at e1 e2 e3 e4
      unfold f_X12_remembers_L54
      dsimp only
      rw [e1, e4.1 0 17 rfl, m1, if_neg (by simp (disch := omega) only [zk_bind, zk_chk, zk_bnd, zk_some, zlp_l, zlp_r, zb_some, zb_bnd, zI_add, zI_sub, zI_mul, zI_neg, zI_le, zI_lt, zI_eq, zI_ix, zI_inI, Int.toNat_natCast, Int.toNat_add, Int.toNat_mul, true_and, and_true]; omega), zI_inI (by omega) (by omega) (by omega), zb_chk, zI_mul, zI_add, zI_inI (by omega) (by omega) (by omega), zb_chk, zk_bnd, zk_bnd, zk_some, zI_add, zI_ix (by omega) (by omega), zI_ix (by omega) (by omega), Int.toNat_natCast, show (460 * ((zPn P - 1 : Nat) : Int) + (i : Int)).toNat = 460 * (zPn P - 1) + i by omega]
      refine hQ _ ⟨zI_inj (by omega), fun j hj => ?_, fun j hj => ?_, zP_I e4 rfl⟩
      · dsimp only
        by_cases hji : j = i
        · rw [hji, zm_Is, e4.1 9 i rfl, m3.1 9 i rfl, hh i hi]
        · rw [zm_In _ _ _ _ (by omega)]
          exact e2 j (by omega)
      · dsimp only
        rw [zm_In _ _ _ _ (by omega)]
        exact e3 j hj
    · rintro ⟨N, s2⟩ ⟨e1, e2, e3, e4⟩
      dsimp only at e1 e2 e3 e4
      refine ⟨N, ?_, ?_⟩
      · unfold f_X12_remembers_L54
        dsimp only
        rw [e1, if_pos (by simp (disch := omega) only [zk_bind, zk_chk, zk_bnd, zk_some, zlp_l, zlp_r, zb_some, zb_bnd, zI_add, zI_sub, zI_mul, zI_neg, zI_le, zI_lt, zI_eq, zI_ix, zI_inI, Int.toNat_natCast, Int.toNat_add, Int.toNat_mul, true_and, and_true]; omega)]
      · rw [zk_bnd, zk_bnd, zk_some, e4.1 0 17 rfl, m1, zI_add]
        refine ⟨⟨?_, fun p k hp hk => ?_⟩, zm_Is _ _ _ _, zP_I (zP_I (zP_tr m3 (zP_mono e4 (fun a k ha => ?_))) rfl) rfl⟩
        · rw [zm_In _ _ _ _ (by decide), zm_Is]
          exact zI_inj (by omega)
        · rw [zm_Iq _ _ _ _ (by decide), zm_Iq _ _ _ _ (by decide), zHn_l H h' hp]
          by_cases hpn : p = zPn P - 1
          · rw [hpn, e2 k hk, show zPn P - 1 + zPo P = P by omega]
          · rw [e3 _ (by omega)]
            exact m2 p k (by omega) hk
        · unfold zWrm at ha
          simp at ha ⊢
          omega
  unfold f_X12_remembers
  rw [hp.1]
  rcases hc with ⟨c1, c2, c3⟩ | ⟨c1, c2, c3⟩
  · rw [if_neg (by simp (disch := omega) only [zk_bind, zk_chk, zk_bnd, zk_some, zlp_l, zlp_r, zb_some, zb_bnd, zI_add, zI_sub, zI_mul, zI_neg, zI_le, zI_lt, zI_eq, zI_ix, zI_inI, Int.toNat_natCast, Int.toNat_add, Int.toNat_mul, true_and, and_true]; omega)]
    exact key M (by rw [hp.1]; exact zI_inj (by omega)) (fun p k h1 h2 => by rw [c2]; exact hp.2 p k (by omega) h2) zP_rf
  · rw [if_pos (by simp (disch := omega) only [zk_bind, zk_chk, zk_bnd, zk_some, zlp_l, zlp_r, zb_some, zb_bnd, zI_add, zI_sub, zI_mul, zI_neg, zI_le, zI_lt, zI_eq, zI_ix, zI_inI, Int.toNat_natCast, Int.toNat_add, Int.toNat_mul, true_and, and_true]; omega), zk_bind]
    refine zOk_forQ (fun i s => s.2 = zI ((460 + i : Nat) : Int) ∧ (∀ j, j < i → s.1.1 10 j = M.1 10 (460 + j)) ∧ (∀ j, i ≤ j → s.1.1 10 j = M.1 10 j) ∧ zP (fun a _ => a == 10) M s.1) 8740 ?_ ?_ ⟨rfl, fun j hj => absurd hj (Nat.not_lt_zero j), fun j _ => rfl, zP_rf⟩
    · rintro i ⟨N, s2⟩ hi ⟨e1, e2, e3, e4⟩ Q hQ _
      dsimp only at e1 e2 e3 e4
      unfold f_X12_remembers_L13
      dsimp only
      rw [e1, if_neg (by simp (disch := omega) only [zk_bind, zk_chk, zk_bnd, zk_some, zlp_l, zlp_r, zb_some, zb_bnd, zI_add, zI_sub, zI_mul, zI_neg, zI_le, zI_lt, zI_eq, zI_ix, zI_inI, Int.toNat_natCast, Int.toNat_add, Int.toNat_mul, true_and, and_true]; omega), zI_inI (by omega) (by omega) (by omega), zb_chk, zI_sub, zI_inI (by omega) (by omega) (by omega), zb_chk, zk_bnd, zk_bnd, zk_some, zI_add, zI_ix (by omega) (by omega), zI_ix (by omega) (by omega), Int.toNat_natCast, show (((460 + i : Nat) : Int) - 460).toNat = i by omega]
      refine hQ _ ⟨zI_inj (by omega), fun j hj => ?_, fun j hj => ?_, zP_I e4 rfl⟩
      · dsimp only
        by_cases hji : j = i
        · rw [hji, zm_Is, e3 _ (by omega)]
        · rw [zm_In _ _ _ _ (by omega)]
          exact e2 j (by omega)
      · dsimp only
        rw [zm_In _ _ _ _ (by omega)]
        exact e3 j (by omega)
    · rintro ⟨N, s2⟩ ⟨e1, e2, e3, e4⟩
      dsimp only at e1 e2 e3 e4
      refine ⟨N, ?_, ?_⟩
      · unfold f_X12_remembers_L13
        dsimp only
        rw [e1, if_pos (by simp (disch := omega) only [zk_bind, zk_chk, zk_bnd, zk_some, zlp_l, zlp_r, zb_some, zb_bnd, zI_add, zI_sub, zI_mul, zI_neg, zI_le, zI_lt, zI_eq, zI_ix, zI_inI, Int.toNat_natCast, Int.toNat_add, Int.toNat_mul, true_and, and_true]; omega)]
      · rw [zk_bnd, e4.1 0 17 rfl, hp.1, zI_sub]
        refine key _ ?_ (fun p k h1 h2 => ?_) (zP_I (zP_mono e4 (fun a k ha => ?_)) rfl)
        · rw [zm_Is]
          exact zI_inj (by omega)
        · rw [c3] at h1
          rw [zm_Iq _ _ _ _ (by decide), c2, e2 _ (by omega), show 460 + (460 * p + k) = 460 * (p + 1) + k by omega]
          exact hp.2 (p + 1) k (by omega) h2
        · unfold zWrm at ha
          simp at ha ⊢
          omega
/-- what an act may write in the class -/
def zWact (a k : Nat) : Bool := a == 20 || a == 21 || a == 22 || a == 23 || a == 24 || a == 25 || a == 26 || a == 27 || a == 28 || a == 29 || (a == 0 && (k == 13 || k == 14))
abbrev zPH (σ : ZT) (P : Nat) (H : Nat → Nat → Int) : ZT := (gT σ, σ.2.1, σ.2.2.1, σ.2.2.2.1, (P, H), gx σ)
def zsame (h h' : Nat → Int) : Prop := h' 0 = h 0 ∧ h' 1 = h 1 ∧ h' 2 = h 2 ∧ ∀ k, k < 400 → h' (24 + k) = h (24 + k)
theorem zlk_same {fr : Nat → Nat} {h h' : Nat → Int} (e : zsame h h') : zlk fr h' = zlk fr h := by
  funext a b
  unfold zlk
  by_cases hc : a < 20 ∧ b < 20
  · have := e.2.2.2 (20 * min a b + max a b) (by omega)
    rw [← Nat.add_assoc] at this
    rw [this, e.1]
  · exact propext ⟨fun hh => absurd ⟨hh.1, hh.2.1⟩ hc, fun hh => absurd ⟨hh.1, hh.2.1⟩ hc⟩
theorem scriptC_same {F : Nat} {fr : Nat → Nat} {s : ZS} {h h' : Nat → Int} {C : ZMem} (e : zsame h h') (hc : scriptC F fr s h C) : scriptC F fr s h' C := by
  have e1 : zsg F fr h' = zsg F fr h := by unfold zsg; rw [zlk_same e]
  have e2 : dRS F fr s h' = dRS F fr s h := by unfold dRS; rw [e1, e.2.1]
  have e3 : dLX F fr s h' = dLX F fr s h := by unfold dLX; rw [e2, e.2.2.1]
  unfold scriptC signsC zsize zsgN at hc ⊢
  rw [e1, e2, e3, e.2.2.1]
  exact hc
theorem scriptC_h {F : Nat} {fr : Nat → Nat} {s : ZS} {h : Nat → Int} {M0 M : ZMem} (hx : ∀ a k, zWact a k = false → M.1 a k = M0.1 a k) (h2 : M.2 = M0.2) (hb : scriptC F fr s h M0) : scriptC F fr s h M := by
  have e9 : M.1 9 = M0.1 9 := funext (fun k => hx 9 k rfl)
  have e10 : M.1 10 = M0.1 10 := funext (fun k => hx 10 k rfl)
  have e30 : M.1 30 = M0.1 30 := funext (fun k => hx 30 k rfl)
  have e31 : M.1 31 = M0.1 31 := funext (fun k => hx 31 k rfl)
  have e32 : M.1 32 = M0.1 32 := funext (fun k => hx 32 k rfl)
  have e34 : M.1 34 = M0.1 34 := funext (fun k => hx 34 k rfl)
  have e36 : M.1 36 = M0.1 36 := funext (fun k => hx 36 k rfl)
  have e37 : M.1 37 = M0.1 37 := funext (fun k => hx 37 k rfl)
  have e38 : M.1 38 = M0.1 38 := funext (fun k => hx 38 k rfl)
  have e40 : M.1 40 = M0.1 40 := funext (fun k => hx 40 k rfl)
  have e42 : M.1 42 = M0.1 42 := funext (fun k => hx 42 k rfl)
  have e46 : M.1 46 = M0.1 46 := funext (fun k => hx 46 k rfl)
  unfold scriptC signsC judC rowsG lexF lexC rnkC wstD stmC at hb ⊢
  rw [hx 3 11 rfl, h2, e9, e10, e30, e31, e32, e34, e36, e37, e38, e40, e42, e46]
  exact hb
theorem relC_h {σ : ZT} {P : Nat} {H : Nat → Nat → Int} {C C' : ZMem} (hx : ∀ a k, zWact a k = false → C'.1 a k = C.1 a k) (h2 : C'.2 = C.2) (hs : setC (H P) C') (hcl : clueC (H P) C') (ha : actsC P H C') (hb : zbit (C'.1 0 14)) (hfl : C'.1 0 13 = zI 1 ∨ (C'.1 0 13 = C.1 0 13 ∧ C'.1 0 14 = zI 1 ∧ zsame (gh σ) (H P))) (h : relC σ C) : relC (zPH σ P H) C' := by
  obtain ⟨h1, hb1, ht, _, h5, h6⟩ := h
  refine ⟨⟨by rw [hx 1 1 rfl]; exact h1.1, fun i hi => by rw [hx 2 i rfl]; exact h1.2 i hi⟩, ⟨formsC_x (fun a k hk => hx a k ?_) hb1.1, stonesC_x (fun a k hk => hx a k ?_) hb1.2.1, hs, hcl, namesC_x (hx 17 2 rfl) (fun k => hx 18 k rfl) (fun k => hx 19 k rfl) hb1.2.2.2.2.1, by rw [hx 41 0 rfl]; exact hb1.2.2.2.2.2.1, by rw [hx 45 0 rfl]; exact hb1.2.2.2.2.2.2⟩, ⟨by rw [hx 3 10 rfl]; exact ht.1, fun k hk => by rw [hx 7 _ rfl, hx 7 _ rfl]; exact ht.2 k hk⟩, ha, by rw [hx 0 12 rfl]; exact h5, ⟨?_, hb, by rw [hx 0 15 rfl]; exact h6.1.2.2⟩, fun h13 => ?_, fun h13 h14 => ?_, fun h13 h14 => ?_⟩
  · unfold dformsC at hk
    unfold zWact
    simp at hk ⊢
    omega
  · unfold dstonesC at hk
    unfold zWact
    simp at hk ⊢
    omega
  · rcases hfl with hf | hf
    · exact Or.inr hf
    · rw [hf.1]
      exact h6.1.1
  · rcases hfl with hf | hf
    · exact absurd (hf.symm.trans h13) (by decide)
    · exact scriptC_same hf.2.2 (scriptC_h hx h2 (h6.2.1 (hf.1.symm.trans h13)))
  all_goals
    rcases hfl with hf | hf
    · exact absurd (hf.symm.trans h13) (by decide)
    · exact absurd (hf.2.1.symm.trans h14) (by decide)
theorem relR_h {σ : ZT} {P : Nat} {H : Nat → Nat → Int} {R R' : ZMem} (hp : zP (fun a k => a == 9 || zWrm a k) R R') (hh : handR (H P) R') (hpa : pastR P H R') (h45 : R'.1 0 45 = zI 0) (h : relR σ R) : relR (zPH σ P H) R' := by
  obtain ⟨h1, h2, h3, h4, h5, h6, h7, h8, h9⟩ := h
  refine ⟨⟨by rw [hp.1 0 1 rfl]; exact h1.1, fun i hi => by rw [hp.1 1 i rfl]; exact h1.2 i hi⟩, formsR_x (fun a k hk => hp.1 a k ?_) h2, stonesR_x (fun a k hk => hp.1 a k ?_) h3, ⟨by rw [hp.1 0 12 rfl]; exact h4.1, fun n hn => ⟨by rw [hp.1 7 n rfl]; exact (h4.2 n hn).1, fun k hk => by rw [hp.1 8 _ rfl]; exact (h4.2 n hn).2 k hk⟩⟩, hh, hpa, by rw [hp.1 0 41 rfl]; exact h7, Or.inl h45, fun hh => absurd (h45.symm.trans hh) (by decide)⟩
  · unfold dformsR at hk
    unfold zWrm
    simp at hk ⊢
    omega
  · unfold dstonesR at hk
    unfold zWrm
    simp at hk ⊢
    omega
theorem okT_h {σ : ZT} {P : Nat} {H : Nat → Nat → Int} (ho : okT σ) (hP : P ≤ 20) (hH : ∀ p, p ≤ P → okH (gF σ) (H p)) : okT (zPH σ P H) := ⟨ho.1, ho.2.1, ho.2.2.1, ho.2.2.2.1, hP, hH, ho.2.2.2.2.2.2⟩
abbrev zNw (σ : ZT) (h' : Nat → Int) : ZT := zPH σ (zPn (gP σ)) (zHn (gP σ) (gH σ) h')
theorem okT_n {σ : ZT} {h' : Nat → Int} (ho : okT σ) (hk : okH (gF σ) h') : okT (zNw σ h') := by
  have hc := zPo_c ho.2.2.2.2.1
  refine okT_h ho (by omega) (fun p hp => ?_)
  by_cases h : p < zPn (gP σ)
  · rw [zHn_l _ _ h]
    exact ho.2.2.2.2.2.1 _ (by omega)
  · rw [show p = zPn (gP σ) by omega, zHn_P]
    exact hk
theorem relC_n {σ : ZT} {h' : Nat → Int} {C C' : ZMem} (hx : ∀ a k, zWact a k = false → C'.1 a k = C.1 a k) (h2 : C'.2 = C.2) (hs : setC h' C') (hcl : clueC h' C') (ha : actsC (zPn (gP σ)) (zHn (gP σ) (gH σ) h') C') (hb : zbit (C'.1 0 14)) (hfl : C'.1 0 13 = zI 1 ∨ (C'.1 0 13 = C.1 0 13 ∧ C'.1 0 14 = zI 1 ∧ zsame (gh σ) h')) (h : relC σ C) : relC (zNw σ h') C' := relC_h hx h2 (by rw [zHn_P]; exact hs) (by rw [zHn_P]; exact hcl) ha hb (by rw [zHn_P]; exact hfl) h
theorem relR_n {σ : ZT} {h' : Nat → Int} {R R' : ZMem} (hp : zP (fun a k => a == 9 || zWrm a k) R R') (hh : handR h' R') (hpa : pastR (zPn (gP σ)) (zHn (gP σ) (gH σ) h') R') (h45 : R'.1 0 45 = zI 0) (h : relR σ R) : relR (zNw σ h') R' := relR_h hp (by rw [zHn_P]; exact hh) hpa h45 h
theorem pastR_x {P : Nat} {H : Nat → Nat → Int} {M0 M : ZMem} (h1 : M.1 0 17 = M0.1 0 17) (h2 : ∀ k, M.1 10 k = M0.1 10 k) (h : pastR P H M0) : pastR P H M := ⟨by rw [h1]; exact h.1, fun p k hp hk => by rw [h2]; exact h.2 p k hp hk⟩
theorem actsC_x {P : Nat} {H : Nat → Nat → Int} {M0 M : ZMem} (h1 : M.1 20 11 = M0.1 20 11) (h2 : ∀ a k, (a = 27 ∨ a = 28 ∨ a = 29) → M.1 a k = M0.1 a k) (h : actsC P H M0) : actsC P H M := ⟨by rw [h1]; exact h.1, fun p hp => by rw [h2 27 p (by omega), h2 28 p (by omega), h2 29 p (by omega)]; exact h.2 p hp⟩
