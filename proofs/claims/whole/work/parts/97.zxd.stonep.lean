/-! ===== stones told: both ===== deps: 97.zxc.stoner2 -/
def zqlo (S : Nat) (y : ZY) (z : ZQ) : Prop := (∀ q, q < 4 * S → qL z q = y.1 q ∧ qN z q = y.2.1 q ∧ qE z q = y.2.2.1 q) ∧ ∀ k, k < 40 * S → qX z k = y.2.2.2 k
theorem zqlo_c {S : Nat} {y : ZY} {z : ZQ} (h : zqlo S y z) : zqlo S y (zqc S z) := by
  refine ⟨fun q hq => ?_, h.2⟩
  show zup (qL z) (4 * S + qr z) (ql z) q = y.1 q ∧ zup (qN z) (4 * S + qr z) (qn z) q = y.2.1 q ∧ zup (qE z) (4 * S + qr z) (qe z) q = y.2.2.1 q
  rw [zup_n (by omega), zup_n (by omega), zup_n (by omega)]
  exact h.1 q hq
theorem zqlo_s {S : Nat} {y : ZY} {b : Int} {z : ZQ} (h : zqlo S y z) : zqlo S y (zq1 S b z) := by
  unfold zq1
  by_cases c1 : b = 47
  · rw [if_pos c1]; exact zqlo_c h
  · rw [if_neg c1]
    by_cases c2 : b = 46
    · rw [if_pos c2]
      by_cases c3 : qn z = 0
      · rw [if_pos c3]; exact h
      · rw [if_neg c3]; exact h
    · rw [if_neg c2]
      refine ⟨h.1, fun k hk => ?_⟩
      show zup (qX z) (10 * (4 * S + qr z) + qn z) (b - 97).toNat k = y.2.2.2 k
      rw [zup_n (by omega)]
      exact h.2 k hk
theorem zqlo_i {S : Nat} {t : List Nat} {y : ZY} : ∀ i, zqlo S y (zqs S t (zz0 y) i) := by
  intro i
  induction i with
  | zero => exact ⟨fun q _ => ⟨rfl, rfl, rfl⟩, fun k _ => rfl⟩
  | succ i ih => exact zqlo_s ih
theorem zqb_c {F S : Nat} {z : ZQ} (h : zqb F S z) (hn : qn z ≠ 0) : zqb F S (zqc S z) := by
  have := zqb_s (b := 47) h (Or.inl ⟨Or.inr rfl, by rw [if_neg hn]⟩) (by decide)
  rwa [show zq1 S 47 z = zqc S z from if_pos rfl] at this
/-- the stones afterwards -/
def zsN (s : ZS) (z : ZQ) : ZS := (sS s + 1, zup (sm s) (sS s) (qr z), qL z, qN z, qE z, qX z)
abbrev zyS (s : ZS) : ZY := (sl s, sn s, sr s, sx s)
theorem zsN_ex {s : ZS} {z : ZQ} {q : Nat} (h : zex (zsN s z) q) : (q < 4 * sS s ∧ zex s q) ∨ ∃ r, r < qr z ∧ q = 4 * sS s + r := by
  obtain ⟨h1, h2⟩ := h
  have h1' : q / 4 < sS s + 1 := h1
  have h2' : q % 4 < zup (sm s) (sS s) (qr z) (q / 4) := h2
  by_cases hq : q / 4 = sS s
  · rw [hq, zup_s] at h2'
    exact Or.inr ⟨q % 4, h2', by omega⟩
  · rw [zup_n hq] at h2'
    exact Or.inl ⟨by omega, ⟨by omega, h2'⟩⟩
theorem okS_n {F : Nat} {s : ZS} {z : ZQ} (hs : okS F s) (h6 : sS s < 6) (hb : zqb F (sS s) z) (hr : 1 ≤ qr z) (hl : zqlo (sS s) (zyS s) z) : okS F (zsN s z) := by
  refine ⟨show sS s + 1 ≤ 6 by omega, fun t ht => ?_, fun q hq => ?_⟩
  · have ht' : t < sS s + 1 := ht
    show 1 ≤ zup (sm s) (sS s) (qr z) t ∧ zup (sm s) (sS s) (qr z) t ≤ 4
    by_cases hts : t = sS s
    · rw [hts, zup_s]
      exact ⟨hr, hb.1⟩
    · rw [zup_n hts]
      exact hs.2.1 t (by omega)
  · show 1 ≤ qN z q ∧ qL z q + qN z q + qE z q ≤ 10 ∧ ∀ k, k < qN z q → qX z (10 * q + k) < F
    rcases zsN_ex hq with ⟨h1, h2⟩ | ⟨r, h1, h2⟩
    · obtain ⟨e1, e2, e3⟩ := hl.1 q h1
      have e1' : qL z q = sl s q := e1
      have e2' : qN z q = sn s q := e2
      have e3' : qE z q = sr s q := e3
      obtain ⟨g1, g2, g3⟩ := hs.2.2 q h2
      rw [e1', e2', e3']
      refine ⟨g1, g2, fun k hk => ?_⟩
      have : qX z (10 * q + k) = sx s (10 * q + k) := hl.2 _ (by omega)
      rw [this]
      exact g3 k hk
    · rw [h2]
      exact hb.2.2.2.2.1 r h1
theorem stonesC_n {F : Nat} {s : ZS} {z : ZQ} {C C' : ZMem} (hok : okS F s) (hs : stonesC s C) (hl : zqlo (sS s) (zyS s) z) (h5 : C'.1 11 5 = zI ((sS s + 1 : Nat) : Int)) (h16 : C'.1 16 (sS s) = zI (qr z)) (ho16 : ∀ t, t < sS s → C'.1 16 t = C.1 16 t) (ho : ∀ a k, (a = 13 ∨ a = 14 ∨ a = 15) → k < 4 * sS s → C'.1 a k = C.1 a k) (ho12 : ∀ k, k < 40 * sS s → C'.1 12 k = C.1 12 k) (hR : zqR (sS s) z C') : stonesC (zsN s z) C' := by
  refine ⟨h5, fun t ht => ?_, fun q hq => ?_⟩
  · have ht' : t < sS s + 1 := ht
    show C'.1 16 t = zI ((zup (sm s) (sS s) (qr z) t : Nat) : Int)
    by_cases hts : t = sS s
    · rw [hts, zup_s]
      exact h16
    · rw [zup_n hts, ho16 t (by omega)]
      exact hs.2.1 t (by omega)
  · show C'.1 13 q = zI (qN z q : Nat) ∧ C'.1 14 q = zI (qL z q : Nat) ∧ C'.1 15 q = zI (qE z q : Nat) ∧ ∀ k, k < qN z q → C'.1 12 (10 * q + k) = zI (qX z (10 * q + k) : Nat)
    rcases zsN_ex hq with ⟨h1, h2⟩ | ⟨r, h1, h2⟩
    · obtain ⟨e1, e2, e3⟩ := hl.1 q h1
      have e1' : qL z q = sl s q := e1
      have e2' : qN z q = sn s q := e2
      have e3' : qE z q = sr s q := e3
      obtain ⟨g1, g2, g3, g4⟩ := hs.2.2 q h2
      have g5 := (hok.2.2 q h2).2.1
      rw [e1', e2', e3', ho 13 q (by omega) h1, ho 14 q (by omega) h1, ho 15 q (by omega) h1]
      refine ⟨g1, g2, g3, fun k hk => ?_⟩
      have : qX z (10 * q + k) = sx s (10 * q + k) := hl.2 _ (by omega)
      rw [this, ho12 _ (by omega)]
      exact g4 k hk
    · rw [h2]
      exact hR r h1
theorem stonesR_n {F : Nat} {s : ZS} {z : ZQ} {C C' : ZMem} (hok : okS F s) (hs : stonesR s C) (hl : zqlo (sS s) (zyS s) z) (h5 : C'.1 0 8 = zI ((sS s + 1 : Nat) : Int)) (h16 : C'.1 4 (sS s) = zI (qr z)) (ho16 : ∀ t, t < sS s → C'.1 4 t = C.1 4 t) (ho : ∀ k, k < 4 * sS s → C'.1 5 k = C.1 5 k) (ho12 : ∀ k, k < 40 * sS s → C'.1 6 k = C.1 6 k) (hR : zclR (sS s) z C') : stonesR (zsN s z) C' := by
  refine ⟨h5, fun t ht => ?_, fun q hq => ?_⟩
  · have ht' : t < sS s + 1 := ht
    show C'.1 4 t = zI ((zup (sm s) (sS s) (qr z) t : Nat) : Int)
    by_cases hts : t = sS s
    · rw [hts, zup_s]
      exact h16
    · rw [zup_n hts, ho16 t (by omega)]
      exact hs.2.1 t (by omega)
  · show zplR C' q (qL z q) (qN z q) (qE z q) (qX z)
    rcases zsN_ex hq with ⟨h1, h2⟩ | ⟨r, h1, h2⟩
    · obtain ⟨e1, e2, e3⟩ := hl.1 q h1
      have e1' : qL z q = sl s q := e1
      have e2' : qN z q = sn s q := e2
      have e3' : qE z q = sr s q := e3
      obtain ⟨g1, g2, g3, g4⟩ := hs.2.2 q h2
      have g5 := (hok.2.2 q h2).2.1
      rw [e1', e2', e3']
      refine ⟨by rw [ho q h1]; exact g1, fun k hk => by rw [ho12 _ (by omega)]; exact g2 k hk, fun k hk => ?_, fun k hk => by rw [ho12 _ (by omega)]; exact g4 k hk⟩
      have : qX z (10 * q + k) = sx s (10 * q + k) := hl.2 _ (by omega)
      rw [this, ho12 _ (by omega)]
      exact g3 k hk
    · rw [h2]
      exact hR r h1
def zWsc (a k : Nat) : Bool := a == 1 || a == 2 || a == 11 || a == 12 || a == 13 || a == 14 || a == 15 || a == 16 || (a == 0 && k == 13) || (a == 20 && k == 11)
abbrev zSTs (σ : ZT) (s : ZS) (P : Nat) (H : Nat → Nat → Int) : ZT := ([], σ.2.1, s, σ.2.2.2.1, (P, H), gx σ)
theorem relC_st {σ : ZT} {s : ZS} {P : Nat} {H : Nat → Nat → Int} {C C' : ZMem} (hH : H P = gh σ) (hx : zP zWsc C C') (ht : C'.1 1 1 = zI 0) (hs : stonesC s C') (ha : actsC P H C') (h13 : C'.1 0 13 = zI 1 ∨ (C'.1 0 13 = C.1 0 13 ∧ s = gs σ)) (h : relC σ C) : relC (zSTs σ s P H) C' := by
  obtain ⟨h1, hb1, htr, hac, h5, h6⟩ := h
  obtain ⟨hx, h2⟩ := hx
  have e : gh (zSTs σ s P H) = gh σ := hH
  unfold relC flgC zWAYS
  rw [e]
  refine ⟨⟨ht, fun i hi => absurd hi (Nat.not_lt_zero i)⟩, ⟨formsC_x (fun a k hk => hx a k ?_) hb1.1, hs, setC_x (fun a k hk => hx a k ?_) hb1.2.2.1, clueC_x (fun a k hk => hx a k ?_) hb1.2.2.2.1, namesC_x (hx 17 2 rfl) (fun k => hx 18 k rfl) (fun k => hx 19 k rfl) hb1.2.2.2.2.1, by rw [hx 41 0 rfl]; exact hb1.2.2.2.2.2.1, by rw [hx 45 0 rfl]; exact hb1.2.2.2.2.2.2⟩, ⟨by rw [hx 3 10 rfl]; exact htr.1, fun k hk => by rw [hx 7 _ rfl, hx 7 _ rfl]; exact htr.2 k hk⟩, ha, by rw [hx 0 12 rfl]; exact h5, ⟨?_, by rw [hx 0 14 rfl]; exact h6.1.2.1, by rw [hx 0 15 rfl]; exact h6.1.2.2⟩, fun g13 => ?_, fun g13 g14 => ?_, fun g13 g14 g15 => ?_⟩
  · unfold dformsC at hk
    unfold zWsc
    simp at hk ⊢
    omega
  · unfold dsetC at hk
    unfold zWsc
    simp at hk ⊢
    omega
  · unfold dclueC at hk
    unfold zWsc
    simp at hk ⊢
    omega
  · rcases h13 with h13 | h13
    · exact Or.inr h13
    · rw [h13.1]
      exact h6.1.1
  · rcases h13 with h13 | ⟨h13, rfl⟩
    · exact absurd (h13.symm.trans g13) (by decide)
    · rw [h13] at g13
      exact scriptC_g (fun a k ha => hx a k (by unfold zScp at ha; unfold zWsc; simp at ha ⊢; omega)) h2 (h6.2.1 g13)
  · rcases h13 with h13 | ⟨h13, rfl⟩
    · exact absurd (h13.symm.trans g13) (by decide)
    · rw [h13] at g13
      rw [hx 0 14 rfl] at g14
      have g := h6.2.2.1 g13 g14
      exact gridC_w (fun a k c1 c2 c3 c4 => hx a k (by unfold zWsc; simp; omega)) (fun s hs => by rw [hx 56 s rfl, hx 57 s rfl]; exact g.2.2.2.1 s hs) g
  · rcases h13 with h13 | ⟨h13, rfl⟩
    · exact absurd (h13.symm.trans g13) (by decide)
    · rw [h13] at g13
      rw [hx 0 14 rfl] at g14
      rw [hx 0 15 rfl] at g15
      have w := h6.2.2.2 g13 g14 g15
      exact ⟨by rw [hx 59 9 rfl]; exact w.1, fun x hx' m hm => by rw [hx 63 m rfl]; exact w.2 x hx' m hm⟩
def zWsrc (a k : Nat) : Bool := a == 4 || a == 5 || a == 6 || (a == 0 && (k == 1 || k == 2 || k == 3 || k == 8 || k == 17 || k == 45))
theorem relR_st {σ : ZT} {s : ZS} {P : Nat} {H : Nat → Nat → Int} {R R' : ZMem} (hH : H P = gh σ) (hp : zP zWsrc R R') (h1' : R'.1 0 1 = zI 0) (hs : stonesR s R') (ha : pastR P H R') (h45 : R'.1 0 45 = zI 0 ∨ (R'.1 0 45 = R.1 0 45 ∧ s = gs σ)) (h : relR σ R) : relR (zSTs σ s P H) R' := by
  obtain ⟨h1, h2, h3, h4, h5, h6, h7, h8, h9⟩ := h
  have e : gh (zSTs σ s P H) = gh σ := hH
  unfold relR
  rw [e]
  refine ⟨⟨h1', fun i hi => absurd hi (Nat.not_lt_zero i)⟩, formsR_x (fun a k hk => hp.1 a k ?_) h2, hs, ⟨by rw [hp.1 0 12 rfl]; exact h4.1, fun n hn => ⟨by rw [hp.1 7 n rfl]; exact (h4.2 n hn).1, fun i hi => by rw [hp.1 8 _ rfl]; exact (h4.2 n hn).2 i hi⟩⟩, handR_x (fun k => hp.1 9 k rfl) h5, ha, by rw [hp.1 0 41 rfl]; exact h7, ?_, fun hh => ?_⟩
  · unfold dformsR at hk
    unfold zWsrc
    simp at hk ⊢
    omega
  · rcases h45 with h45 | ⟨h45, _⟩
    · exact Or.inl h45
    · rw [h45]; exact h8
  · rcases h45 with h45 | ⟨h45, rfl⟩
    · exact absurd (h45.symm.trans hh) (by decide)
    · have hl := h9 (by rw [← h45]; exact hh)
      refine laidR_k (fun a k ha => hp.1 a k ?_) (fun kind f c1 c2 => ?_) hl
      · unfold zWsrc
        simp
        omega
      · rw [hp.1 25 _ rfl]
        exact hl.2.2.2.2.2 kind f c1 c2
theorem zp_stone : zPr_stone zRel := by
  rintro M1 M2 ⟨σ, ho, hc, hr⟩
  have hF := ho.2.1
  have hS := ho.2.2.1
  have hb : okB (gT σ) := ho.1
  have hlen := hb.1
  have hsC := hc.2.1.2.1
  have hsR := hr.2.2.1
  have hFC : M1.1 3 7 = zI (gF σ) := hc.2.1.1.2.1
  have hFR : M2.1 0 4 = zI (gF σ) := hr.2.1.2.1
  have hS6 := hS.1
  unfold f_X11_stone f_X7_isFull f_X0_told
  rw [hsC.1]
  by_cases h6 : sS (gs σ) < 6
  · rw [if_pos (by simp (disch := omega) only [zk_bind, zk_chk, zk_bnd, zk_some, zlp_l, zlp_r, zb_some, zb_bnd, zI_add, zI_sub, zI_mul, zI_neg, zI_le, zI_lt, zI_eq, zI_ix, zI_inI, Int.toNat_natCast, Int.toNat_add, Int.toNat_mul, true_and, and_true]; omega), zb_some, if_pos rfl, zb_some, hFC, zk_bind]
    refine zOk_mono (c_takeStone (y := zyS (gs σ)) hF h6 hb hc.1 hsC.1) (fun r k => ?_)
    obtain ⟨C, v⟩ := r
    obtain ⟨k1, k2⟩ := k
    dsimp only at k1 k2 ⊢
    have hC1 : C.1 1 1 = zI ((gT σ).length : Int) := by rw [k1.1 1 1 rfl]; exact hc.1.1
    rw [c_cutTo hC1 hlen (by omega) (by omega), if_pos (by omega), zb_some]
    (try dsimp only)
    have pC : zP zWsc M1 (zstI C 1 1 (zI 0)) := zP_I (zP_mono k1 (fun a k ha => by unfold zWsc at ha; unfold zWsn; simp at ha ⊢; omega)) rfl
    have mR : ∀ a k, zWsrc a k = false → zWsr2 (sS (gs σ)) a k = false := fun a k ha => by unfold zWsrc at ha; unfold zWsr2 zWsr; simp at ha ⊢; omega
    rcases k2 with ⟨n1, n2, n3, n4, n5⟩ | ⟨f, f1, f2, f3⟩
    · unfold f_X1_forgetActs
      rw [n2, if_neg (by simp (disch := omega) only [zk_bind, zk_chk, zk_bnd, zk_some, zlp_l, zlp_r, zb_some, zb_bnd, zI_add, zI_sub, zI_mul, zI_neg, zI_le, zI_lt, zI_eq, zI_ix, zI_inI, Int.toNat_natCast, Int.toNat_add, Int.toNat_mul, true_and, and_true]; omega), zb_bnd, zb_some, zk_bnd, zk_some]
      refine zOk_mono (r_stone (y := zyS (gs σ)) hF h6 hFR hsR.1 hb hr.1) (fun r2 j => ?_)
      obtain ⟨j1, j2, j3⟩ := j
      rcases j3 with ⟨m1, m2, m3, m4, m5, m6, m7⟩ | ⟨f', g1, _⟩
      · have hzb := zqb_i (zqb_0 (gF σ) (sS (gs σ)) (zyS (gs σ))) _ n1.1
        have hn : qn (zqs (sS (gs σ)) (gT σ) (zz0 (zyS (gs σ))) (gT σ).length) ≠ 0 := by
          have k2 := n1.2
          unfold zqf at k2
          rcases k2 with ⟨_, hf⟩ | ⟨_, _⟩ | ⟨_, _⟩
          · intro hh
            rw [if_pos hh] at hf
            omega
          · omega
          · omega
        have hzc := zqb_c hzb hn
        have hlo := zqlo_c (zqlo_i (S := sS (gs σ)) (t := gT σ) (y := zyS (gs σ)) (gT σ).length)
        have hqr : qr (zqc (sS (gs σ)) (zqs (sS (gs σ)) (gT σ) (zz0 (zyS (gs σ))) (gT σ).length)) = qr (zqs (sS (gs σ)) (gT σ) (zz0 (zyS (gs σ))) (gT σ).length) + 1 := rfl
        rw [← hqr] at n4 m6
        generalize zqc (sS (gs σ)) (zqs (sS (gs σ)) (gT σ) (zz0 (zyS (gs σ))) (gT σ).length) = zc at n4 n5 m6 m7 hzc hlo hqr
        have v : ∀ a k, a ≠ 0 → a ≠ 1 → a ≠ 20 → (zstI (zstI (zstI C 1 1 (zI 0)) 20 11 (zI 0)) 0 13 (zI 1)).1 a k = C.1 a k := fun a k a0 a1 a20 => by rw [zm_Iq _ _ _ _ a0, zm_Iq _ _ _ _ a20, zm_Iq _ _ _ _ a1]
        refine ⟨by rw [m2], zSTs σ (zsN (gs σ) zc) 0 (fun _ => gh σ), ⟨⟨Nat.zero_le 300, fun i hi => absurd hi (Nat.not_lt_zero i)⟩, hF, okS_n hS h6 hzc (by omega) hlo, ho.2.2.2.1, Nat.zero_le 20, fun p _ => ho.2.2.2.2.2.1 _ (Nat.le_refl _), ho.2.2.2.2.2.2⟩, relC_st rfl (zP_I (zP_I pC rfl) rfl) ?_ (stonesC_n hS hsC hlo ?_ ?_ (fun t ht => ?_) (fun a k ha hk => ?_) (fun k hk => ?_) (zqR_x (fun a k ha => v a k (by omega) (by omega) (by omega)) n5)) ⟨?_, fun p hp => absurd hp (Nat.not_lt_zero p)⟩ (Or.inl (zm_Is _ _ _ _)) hc, relR_st rfl (zP_mono j1 mR) j2 (stonesR_n hS hsR hlo m3 m6 (fun t ht => j1.1 4 t ?_) (fun k hk => j1.1 5 k ?_) (fun k hk => j1.1 6 k ?_) m7) ⟨m4, fun p k hp => absurd hp (Nat.not_lt_zero p)⟩ (Or.inl m5) hr⟩
        · rw [zm_Iq _ _ _ _ (by decide), zm_Iq _ _ _ _ (by decide), zm_Is]
        · rw [v 11 5 (by decide) (by decide) (by decide)]
          exact n3
        · rw [v 16 _ (by decide) (by decide) (by decide)]
          exact n4
        · rw [v 16 _ (by decide) (by decide) (by decide)]
          exact k1.1 16 t (by unfold zWsn; simp; omega)
        · rw [v a _ (by omega) (by omega) (by omega)]
          exact k1.1 a k (by unfold zWsn; simp; omega)
        · rw [v 12 _ (by decide) (by decide) (by decide)]
          exact k1.1 12 k (by unfold zWsn; simp; omega)
        · rw [zm_Iq _ _ _ _ (by decide), zm_Is]
          rfl
        · unfold zWsr2 zWsr
          simp
          omega
        · unfold zWsr2 zWsr
          simp
          omega
        · unfold zWsr2 zWsr
          simp
          omega
      · exact (zqft_ok g1 n1).elim
    · have := zqft_lt hlen f1
      rw [f2, if_pos (by simp (disch := omega) only [zk_bind, zk_chk, zk_bnd, zk_some, zlp_l, zlp_r, zb_some, zb_bnd, zI_add, zI_sub, zI_mul, zI_neg, zI_le, zI_lt, zI_eq, zI_ix, zI_inI, Int.toNat_natCast, Int.toNat_add, Int.toNat_mul, true_and, and_true]; omega), zk_some]
      refine zOk_mono (r_stone (y := zyS (gs σ)) hF h6 hFR hsR.1 hb hr.1) (fun r2 j => ?_)
      obtain ⟨j1, j2, j3⟩ := j
      rcases j3 with ⟨m1, _⟩ | ⟨f', g1, g2, g3, g4, g5⟩
      · exact (zqft_ok f1 m1).elim
      · refine ⟨by rw [g2, zqft_one f1 g1], zSTs σ (gs σ) (gP σ) (gH σ), okT_0 ho, relC_st rfl pC (zm_Is _ _ _ _) ⟨?_, fun t ht => ?_, fun q hq => ?_⟩ (actsC_x ?_ (fun a k ha => ?_) hc.2.2.2.1) (Or.inr ⟨?_, rfl⟩) hc, relR_st rfl (zP_mono j1 mR) j2 ⟨g3, fun t ht => ?_, fun q hq => ?_⟩ (pastR_x g4 (fun k => j1.1 10 k rfl) hr.2.2.2.2.2.1) (Or.inr ⟨g5, rfl⟩) hr⟩
        · rw [zm_Iq _ _ _ _ (by decide)]
          exact f3
        · rw [zm_Iq _ _ _ _ (by decide), k1.1 16 t (by unfold zWsn; simp; omega)]
          exact hsC.2.1 t ht
        · have hq4 := hq.1
          obtain ⟨q1, q2, q3, q4⟩ := hsC.2.2 q hq
          have q5 := (hS.2.2 q hq).2.1
          rw [zm_Iq _ _ _ _ (by decide), zm_Iq _ _ _ _ (by decide), zm_Iq _ _ _ _ (by decide), k1.1 13 q (by unfold zWsn; simp; omega), k1.1 14 q (by unfold zWsn; simp; omega), k1.1 15 q (by unfold zWsn; simp; omega)]
          refine ⟨q1, q2, q3, fun k hk => ?_⟩
          rw [zm_Iq _ _ _ _ (by decide), k1.1 12 _ (by unfold zWsn; simp; omega)]
          exact q4 k hk
        · rw [zm_Iq _ _ _ _ (by decide), k1.1 20 11 rfl]
        · rw [zm_Iq _ _ _ _ (by omega), k1.1 a k (by unfold zWsn; simp; omega)]
        · rw [zm_Iq _ _ _ _ (by decide), k1.1 0 13 rfl]
        · rw [j1.1 4 t (by unfold zWsr2 zWsr; simp; omega)]
          exact hsR.2.1 t ht
        · have hq4 := hq.1
          obtain ⟨q1, q2, q3, q4⟩ := hsR.2.2 q hq
          have q5 := (hS.2.2 q hq).2.1
          have w6 : ∀ k, k < 10 → r2.1.1 6 (10 * q + k) = M2.1 6 (10 * q + k) := fun k hk => j1.1 6 _ (by unfold zWsr2 zWsr; simp; omega)
          refine ⟨by rw [j1.1 5 q (by unfold zWsr2 zWsr; simp; omega)]; exact q1, fun k hk => by rw [w6 _ (by omega)]; exact q2 k hk, fun k hk => by rw [w6 _ (by omega)]; exact q3 k hk, fun k hk => by rw [w6 _ (by omega)]; exact q4 k hk⟩
  · have h66 : sS (gs σ) = 6 := by omega
    unfold f_X12_stone
    rw [if_neg (by simp (disch := omega) only [zk_bind, zk_chk, zk_bnd, zk_some, zlp_l, zlp_r, zb_some, zb_bnd, zI_add, zI_sub, zI_mul, zI_neg, zI_le, zI_lt, zI_eq, zI_ix, zI_inI, Int.toNat_natCast, Int.toNat_add, Int.toNat_mul, true_and, and_true]; omega), zb_some, if_neg (by decide), zk_some, hsR.1, if_pos (by rw [h66]; rfl), zk_some]
    exact ⟨rfl, σ, ho, hc, hr⟩
