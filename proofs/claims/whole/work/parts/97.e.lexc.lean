/-! ===== the lexicon of the class ===== deps: 97.d.keys -/
noncomputable def zcutF (rl : Nat → Nat) (rs : Nat → Nat → Nat) (rise q : Nat) : Nat → Nat → List Nat
  | 0, _ => []
  | f + 1, x => if x < rl q then zkey (fun i => rs q (x + i)) (zwl rl rs rise q x) :: zcutF rl rs rise q f (x + zwl rl rs rise q x) else []
noncomputable def zcut (rl : Nat → Nat) (rs : Nat → Nat → Nat) (rise q x : Nat) : List Nat := zcutF rl rs rise q (rl q - x) x
theorem zcutF_any (rl : Nat → Nat) (rs : Nat → Nat → Nat) (rise q : Nat) : ∀ f f' x, rl q ≤ x + f → rl q ≤ x + f' → zcutF rl rs rise q f x = zcutF rl rs rise q f' x
  | 0, 0, _, _, _ => rfl
  | 0, f' + 1, x, h, _ => by
    show [] = if x < rl q then _ else _
    rw [if_neg (by omega)]
  | f + 1, 0, x, _, h => by
    show (if x < rl q then _ else _) = []
    rw [if_neg (by omega)]
  | f + 1, f' + 1, x, h, h' => by
    show (if x < rl q then _ else _) = if x < rl q then _ else _
    by_cases hc : x < rl q
    · rw [if_pos hc, if_pos hc]
      have := (zwl_rng (rs := rs) (rise := rise) hc).1
      rw [zcutF_any rl rs rise q f f' _ (by omega) (by omega)]
    · rw [if_neg hc, if_neg hc]
theorem zcut_c {rl : Nat → Nat} {rs : Nat → Nat → Nat} {rise q x : Nat} (h : x < rl q) : zcut rl rs rise q x = zkey (fun i => rs q (x + i)) (zwl rl rs rise q x) :: zcut rl rs rise q (x + zwl rl rs rise q x) := by
  have hw := zwl_rng (rs := rs) (rise := rise) h
  unfold zcut
  rw [zcutF_any rl rs rise q (rl q - x) (rl q - x - 1 + 1) x (by omega) (by omega)]
  show (if x < rl q then _ else _) = _
  rw [if_pos h, zcutF_any rl rs rise q (rl q - x - 1) (rl q - (x + zwl rl rs rise q x)) _ (by omega) (by omega)]
theorem zcut_e {rl : Nat → Nat} {rs : Nat → Nat → Nat} {rise q x : Nat} (h : rl q ≤ x) : zcut rl rs rise q x = [] := by
  unfold zcut
  rw [show rl q - x = 0 by omega]
  rfl
theorem zcut_len (rl : Nat → Nat) (rs : Nat → Nat → Nat) (rise q : Nat) : ∀ d x, rl q - x ≤ d → 2 * (zcut rl rs rise q x).length ≤ (rl q - x) + 1 := by
  intro d
  induction d with
  | zero =>
    intro x hx
    rw [zcut_e (by omega)]
    simp
  | succ d ih =>
    intro x hx
    by_cases h : x < rl q
    · have hw := zwl_rng (rs := rs) (rise := rise) h
      have := ih (x + zwl rl rs rise q x) (by omega)
      rw [zcut_c h, List.length_cons]
      by_cases h2 : x + 2 ≤ rl q
      · have := hw.2.2.2 h2
        omega
      · have h3 : zcut rl rs rise q (x + zwl rl rs rise q x) = [] := zcut_e (by omega)
        rw [h3]
        simp
        omega
    · rw [zcut_e (by omega)]
      simp
noncomputable def zrest (rl : Nat → Nat) (rs : Nat → Nat → Nat) (rise : Nat) : Nat → List Nat
  | 0 => []
  | d + 1 => zcut rl rs rise (24 - (d + 1)) 0 ++ zrest rl rs rise d
theorem zrest_len {rl : Nat → Nat} {rs : Nat → Nat → Nat} (hk : okRw rl rs) (rise : Nat) : ∀ d, (zrest rl rs rise d).length ≤ 5 * d
  | 0 => Nat.le_refl 0
  | d + 1 => by
    have h1 := zrest_len hk rise d
    have h2 := zcut_len rl rs rise (24 - (d + 1)) _ 0 (Nat.le_refl _)
    have h3 := hk.1 (24 - (d + 1))
    show (zcut rl rs rise (24 - (d + 1)) 0 ++ zrest rl rs rise d).length ≤ 5 * (d + 1)
    rw [List.length_append]
    omega
theorem zrest_s {rl : Nat → Nat} {rs : Nat → Nat → Nat} {rise q : Nat} (hq : q < 24) : zrest rl rs rise (24 - q) = zcut rl rs rise q 0 ++ zrest rl rs rise (24 - (q + 1)) := by
  obtain ⟨d, hd⟩ : ∃ d, 24 - q = d + 1 := ⟨24 - q - 1, by omega⟩
  rw [hd, show 24 - (q + 1) = d by omega]
  show zcut rl rs rise (24 - (d + 1)) 0 ++ _ = _
  rw [show 24 - (d + 1) = q by omega]
noncomputable def zfold (l : List (Nat × Nat)) (ks : List Nat) : List (Nat × Nat) := ks.foldl (fun l k => zins k l) l
theorem zfold_c (l : List (Nat × Nat)) (k : Nat) (ks : List Nat) : zfold l (k :: ks) = zfold (zins k l) ks := rfl
/-- the LEXICON -/
noncomputable def zlex (rl : Nat → Nat) (rs : Nat → Nat → Nat) (rise : Nat) : List (Nat × Nat) := zfold [] (zrest rl rs rise 24)
theorem zins_len (key : Nat) (l : List (Nat × Nat)) : (zins key l).length ≤ l.length + 1 := by
  induction l with
  | nil => exact Nat.le_refl 1
  | cons a r ih =>
    obtain ⟨v, c⟩ := a
    unfold zins
    split
    · simp; omega
    · split <;> simp
def zP2 (W : Nat → Nat → Bool) (V : Nat → Bool) (M0 M : ZMem) : Prop := (∀ a k, W a k = false → M.1 a k = M0.1 a k) ∧ ∀ a, V a = false → M.2 a = M0.2 a
theorem zP2_rf {W : Nat → Nat → Bool} {V : Nat → Bool} {M : ZMem} : zP2 W V M M := ⟨fun _ _ _ => rfl, fun _ _ => rfl⟩
theorem zP2_tr {W : Nat → Nat → Bool} {V : Nat → Bool} {M0 M1 M2 : ZMem} (h : zP2 W V M0 M1) (h' : zP2 W V M1 M2) : zP2 W V M0 M2 := ⟨fun a k ha => by rw [h'.1 a k ha, h.1 a k ha], fun a ha => by rw [h'.2 a ha, h.2 a ha]⟩
theorem zP2_mono {W W' : Nat → Nat → Bool} {V V' : Nat → Bool} {M0 M1 : ZMem} (h : zP2 W V M0 M1) (hw : ∀ a k, W' a k = false → W a k = false) (hv : ∀ a, V' a = false → V a = false) : zP2 W' V' M0 M1 := ⟨fun a k ha => h.1 a k (hw a k ha), fun a ha => h.2 a (hv a ha)⟩
theorem zP2_of {W W' : Nat → Nat → Bool} {V : Nat → Bool} {M0 M1 : ZMem} (h : zP W M0 M1) (hw : ∀ a k, W' a k = false → W a k = false) : zP2 W' V M0 M1 := ⟨fun a k ha => h.1 a k (hw a k ha), fun a _ => by rw [h.2]⟩
theorem zP2_I {W : Nat → Nat → Bool} {V : Nat → Bool} {M0 M : ZMem} {q i : Nat} {v : Int32} (h : zP2 W V M0 M) (hw : W q i = true) : zP2 W V M0 (zstI M q i v) := by
  refine ⟨fun a k ha => ?_, h.2⟩
  rw [zm_I]
  split
  · next e =>
    rw [e.1, e.2, hw] at ha
    cases ha
  · exact h.1 a k ha
theorem zP2_F {W : Nat → Nat → Bool} {V : Nat → Bool} {M0 M : ZMem} {q : Nat} {f : Nat → Int32} (h : zP2 W V M0 M) (hw : ∀ k, W q k = true) : zP2 W V M0 (zstF M q f) := by
  refine ⟨fun a k ha => ?_, h.2⟩
  rw [zm_F]
  split
  · next e =>
    rw [e, hw k] at ha
    cases ha
  · exact h.1 a k ha
theorem zP2_L {W : Nat → Nat → Bool} {V : Nat → Bool} {M0 M : ZMem} {q i : Nat} {v : Int64} (h : zP2 W V M0 M) (hv : V q = true) : zP2 W V M0 (zstL M q i v) := by
  refine ⟨h.1, fun a ha => ?_⟩
  rw [zm_Lq _ _ _ _ (fun e => by rw [e, hv] at ha; cases ha)]
  exact h.2 a ha
theorem zP2_G {W : Nat → Nat → Bool} {V : Nat → Bool} {M0 M : ZMem} {q : Nat} {f : Nat → Int64} (h : zP2 W V M0 M) (hv : V q = true) : zP2 W V M0 (zstG M q f) := by
  refine ⟨h.1, fun a ha => ?_⟩
  rw [zm_Gq _ _ _ (fun e => by rw [e, hv] at ha; cases ha)]
  exact h.2 a ha
theorem zcpI {a b c : Int} {n0 n1 : Nat} (ha : 0 ≤ a) (hb : 0 ≤ b) (hc : 0 ≤ c) (h1 : a + c ≤ n0) (h2 : b + c ≤ n1) (h3 : n0 ≤ 2147483647) (h4 : n1 ≤ 2147483647) : zcp (zI a) (zI b) (zI c) n0 n1 = true := by
  unfold zcp
  rw [show (0 : Int32) = zI 0 from rfl, zI_ix (by omega) (by omega), zI_ix (by omega) (by omega), zI_ix (by omega) (by omega)]
  simp only [Bool.and_eq_true, decide_eq_true_eq]
  refine ⟨⟨⟨⟨?_, ?_⟩, ?_⟩, by omega⟩, by omega⟩
  · rw [zI_le (by omega) (by omega) (by omega) (by omega)]; exact ha
  · rw [zI_le (by omega) (by omega) (by omega) (by omega)]; exact hb
  · rw [zI_le (by omega) (by omega) (by omega) (by omega)]; exact hc
def lexC (l : List (Nat × Nat)) (C : ZMem) : Prop := C.1 34 6 = zI l.length ∧ ∀ i, i < l.length → C.2 35 i = zJ (zE l i).1 ∧ C.1 36 i = zI (zE l i).2
def zWent (a k : Nat) : Bool := a == 36 || (a == 34 && (k == 6 || k == 7))
theorem lexC_x {l : List (Nat × Nat)} {M0 M : ZMem} (h1 : M.1 34 6 = M0.1 34 6) (h2 : ∀ k, M.1 36 k = M0.1 36 k) (h3 : M.2 35 = M0.2 35) (h : lexC l M0) : lexC l M := ⟨by rw [h1]; exact h.1, fun i hi => by rw [h2, h3]; exact h.2 i hi⟩
theorem zwords_lt {l : List (Nat × Nat)} (h : zwords l) {i : Nat} (hi : i < l.length) : (zE l i).1 < 34359738368 := by
  obtain ⟨n, _, h1⟩ := h i hi
  exact h1.1
theorem c_enter {M : ZMem} {l : List (Nat × Nat)} {c key : Nat} (hs : zsrt l) (hw : zwords l) (hl : l.length < 120) (h : lexC l M) (hc : M.1 34 7 = zI c) (hk : key < 34359738368) : zOk (f_X2_enter M (zJ key)) (fun M' => lexC (zins key l) M' ∧ M'.1 34 7 = zI ((c + 1 : Nat) : Int) ∧ zP2 zWent (fun a => a == 35) M M') := by
  obtain ⟨p, h1, h2, h3⟩ := zfind l hs key
  obtain ⟨g1, g2⟩ := zins_get key l p h1 h2 h3
  unfold f_X2_enter
  rw [zk_bnd, hc, zI_add]
  have m1 : lexC l (zstI M 34 7 (zI ((c : Int) + 1))) := lexC_x (by rw [zm_In _ _ _ _ (by decide)]) (fun k => by rw [zm_Iq _ _ _ _ (by decide)]) rfl h
  have m2 : (zstI M 34 7 (zI ((c : Int) + 1))).1 34 7 = zI ((c + 1 : Nat) : Int) := by rw [zm_Is]; exact zI_inj (by omega)
  have m3 : zP2 zWent (fun a => a == 35) M (zstI M 34 7 (zI ((c : Int) + 1))) := zP2_I zP2_rf rfl
  generalize zstI M 34 7 (zI ((c : Int) + 1)) = N at m1 m2 m3 ⊢
  rw [zk_bind]
  refine zOk_for0 (fun i x => x = zI i) p ?_ ?_ rfl
  · rintro i x hi rfl
    have hb := zwords_lt hw (i := i) (by omega)
    unfold f_X2_enter_L12
    rw [m1.1, if_neg (by simp (disch := omega) only [zk_bind, zk_chk, zk_bnd, zk_some, zlp_l, zlp_r, zb_some, zb_bnd, zI_add, zI_sub, zI_mul, zI_neg, zI_le, zI_lt, zI_eq, zI_ix, zI_inI, Int.toNat_natCast, Int.toNat_add, Int.toNat_mul, true_and, and_true]; omega), zI_inI (by omega) (by omega) (by omega), zb_chk, zI_ix (by omega) (by omega), Int.toNat_natCast, (m1.2 i (by omega)).1, zcmp (by omega) (by omega), if_neg (c := key < (zE l i).1) (by have := h2 i hi; omega), if_neg (c := (zE l i).1 = key) (by have := h2 i hi; omega), if_neg (by decide)]
    simp (disch := omega) only [zk_bind, zk_chk, zk_bnd, zk_some, zlp_l, zlp_r, zb_some, zb_bnd, zI_add, zI_sub, zI_mul, zI_neg, zI_le, zI_lt, zI_eq, zI_ix, zI_inI, Int.toNat_natCast, Int.toNat_add, Int.toNat_mul, true_and, and_true]
    exact (by first | omega | exact zI_inj (by omega))
  rintro x rfl
  have fresh : ¬ (p < l.length ∧ (zE l p).1 = key) → zOk (f_X2_enter_69 N (zJ key) (zI p)) (fun M' => lexC (zins key l) M' ∧ M'.1 34 7 = zI ((c + 1 : Nat) : Int) ∧ zP2 zWent (fun a => a == 35) M M') := by
    intro hn
    obtain ⟨g3, g4⟩ := g2 hn
    unfold f_X2_enter_69
    rw [m1.1, if_neg (by simp (disch := omega) only [zk_bind, zk_chk, zk_bnd, zk_some, zlp_l, zlp_r, zb_some, zb_bnd, zI_add, zI_sub, zI_mul, zI_neg, zI_le, zI_lt, zI_eq, zI_ix, zI_inI, Int.toNat_natCast, Int.toNat_add, Int.toNat_mul, true_and, and_true]; omega), zI_add, zI_sub, zcpI (by omega) (by omega) (by omega) (by omega) (by omega) (by omega) (by omega), zb_chk, zk_bnd, zI_ix (by omega) (by omega), zI_ix (by omega) (by omega), zI_ix (by omega) (by omega), show zstG N 35 (va_cpy (N.2 35) (N.2 35) (p : Int).toNat ((p : Int) + 1).toNat (((l.length : Nat) : Int) - p).toNat) = zstG N 35 (va_cpy (N.2 35) (N.2 35) p (p + 1) (l.length - p)) by rw [Int.toNat_natCast, show ((p : Int) + 1).toNat = p + 1 by omega, show (((l.length : Nat) : Int) - p).toNat = l.length - p by omega], zm_G1, m1.1, zI_sub, zcpI (by omega) (by omega) (by omega) (by omega) (by omega) (by omega) (by omega), zb_chk, zk_bnd, zI_inI (by omega) (by omega) (by omega), zb_chk, zk_bnd, zb_chk, zk_bnd, zk_bnd, zk_some, Int.toNat_natCast]
    rw [show ((p : Int) + 1).toNat = p + 1 by omega, zI_ix (by omega) (by omega), show (((l.length : Nat) : Int) - p).toNat = l.length - p by omega]
    have w6 : (zstI (zstL (zstF (zstG N 35 (va_cpy (N.2 35) (N.2 35) p (p + 1) (l.length - p))) 36 (va_cpy (N.1 36) (N.1 36) p (p + 1) (l.length - p))) 35 p (zJ key)) 36 p (zI 1)).1 34 6 = zI l.length := by
      rw [zm_Iq _ _ _ _ (by decide), zm_L1, zm_Fq _ _ _ (by decide), zm_G1]
      exact m1.1
    have w7 : (zstI (zstL (zstF (zstG N 35 (va_cpy (N.2 35) (N.2 35) p (p + 1) (l.length - p))) 36 (va_cpy (N.1 36) (N.1 36) p (p + 1) (l.length - p))) 35 p (zJ key)) 36 p (zI 1)).1 34 7 = zI ((c + 1 : Nat) : Int) := by
      rw [zm_Iq _ _ _ _ (by decide), zm_L1, zm_Fq _ _ _ (by decide), zm_G1]
      exact m2
    rw [w6, zI_add]
    refine ⟨⟨?_, fun i hi => ⟨?_, ?_⟩⟩, ?_, zP2_I (zP2_I (zP2_L (zP2_F (zP2_G m3 rfl) (fun k => rfl)) rfl) rfl) rfl⟩
    · rw [zm_Is, g3]
      exact zI_inj (by omega)
    · rw [zm_I2, zm_I2, zm_L, g4 i (by omega)]
      by_cases c1 : i = p
      · rw [if_pos ⟨rfl, c1⟩, if_neg (by omega), if_pos c1]
      · rw [if_neg (fun hh => c1 hh.2), zm_F2, zm_Gs]
        unfold va_cpy
        by_cases c2 : i < p
        · rw [if_pos c2, if_neg (by omega)]
          exact (m1.2 i (by omega)).1
        · rw [if_neg c2, if_neg c1, if_pos (by omega), show p + (i - (p + 1)) = i - 1 by omega]
          exact (m1.2 (i - 1) (by omega)).1
    · rw [zm_Iq _ _ _ _ (by decide), g4 i (by omega)]
      by_cases c1 : i = p
      · rw [c1, zm_Is, if_neg (by omega), if_pos rfl]; rfl
      · rw [zm_In _ _ _ _ c1, zm_L1, zm_Fs]
        unfold va_cpy
        by_cases c2 : i < p
        · rw [if_pos c2, if_neg (by omega)]
          exact (m1.2 i (by omega)).2
        · rw [if_neg c2, if_neg c1, if_pos (by omega), show p + (i - (p + 1)) = i - 1 by omega]
          exact (m1.2 (i - 1) (by omega)).2
    · rw [zm_In _ _ _ _ (by decide)]
      exact w7
  unfold f_X2_enter_L12
  rw [m1.1]
  by_cases hp : p < l.length
  · have hb := zwords_lt hw hp
    have h4 := h3 hp
    rw [if_neg (by simp (disch := omega) only [zk_bind, zk_chk, zk_bnd, zk_some, zlp_l, zlp_r, zb_some, zb_bnd, zI_add, zI_sub, zI_mul, zI_neg, zI_le, zI_lt, zI_eq, zI_ix, zI_inI, Int.toNat_natCast, Int.toNat_add, Int.toNat_mul, true_and, and_true]; omega), zI_inI (by omega) (by omega) (by omega), zb_chk, zI_ix (by omega) (by omega), Int.toNat_natCast, (m1.2 p hp).1, zcmp (by omega) (by omega), if_pos (by split <;> (try split) <;> first | decide | omega), zk_some, zlp_r, if_neg (by simp (disch := omega) only [zk_bind, zk_chk, zk_bnd, zk_some, zlp_l, zlp_r, zb_some, zb_bnd, zI_add, zI_sub, zI_mul, zI_neg, zI_le, zI_lt, zI_eq, zI_ix, zI_inI, Int.toNat_natCast, Int.toNat_add, Int.toNat_mul, true_and, and_true]; omega), zI_inI (by omega) (by omega) (by omega), zb_chk, zb_chk, zb_chk, zI_ix (by omega) (by omega), Int.toNat_natCast, (m1.2 p hp).1, zcmp (by omega) (by omega)]
    by_cases he : (zE l p).1 = key
    · obtain ⟨g3, g4⟩ := g1 ⟨hp, he⟩
      rw [if_neg (c := key < (zE l p).1) (by omega), if_pos he, if_pos (by decide), zk_bnd, zk_some, (m1.2 p hp).2, zI_add]
      refine ⟨⟨?_, fun i hi => ⟨?_, ?_⟩⟩, ?_, zP2_I m3 rfl⟩
      · rw [zm_Iq _ _ _ _ (by decide), g3]; exact m1.1
      · rw [zm_I2, (m1.2 i (by omega)).1, g4 i]
        split
        · next e => rw [e, he]
        · rfl
      · rw [g4 i]
        by_cases c1 : i = p
        · rw [c1, zm_Is, if_pos rfl]
          exact zI_inj (by omega)
        · rw [zm_In _ _ _ _ c1, if_neg c1]
          exact (m1.2 i (by omega)).2
      · rw [zm_Iq _ _ _ _ (by decide)]
        exact m2
    · rw [if_pos (c := key < (zE l p).1) (by omega), if_neg (by decide)]
      exact fresh (fun hh => he hh.2)
  · rw [if_pos (by simp (disch := omega) only [zk_bind, zk_chk, zk_bnd, zk_some, zlp_l, zlp_r, zb_some, zb_bnd, zI_add, zI_sub, zI_mul, zI_neg, zI_le, zI_lt, zI_eq, zI_ix, zI_inI, Int.toNat_natCast, Int.toNat_add, Int.toNat_mul, true_and, and_true]; omega), zk_some, zlp_r, if_pos (by simp (disch := omega) only [zk_bind, zk_chk, zk_bnd, zk_some, zlp_l, zlp_r, zb_some, zb_bnd, zI_add, zI_sub, zI_mul, zI_neg, zI_le, zI_lt, zI_eq, zI_ix, zI_inI, Int.toNat_natCast, Int.toNat_add, Int.toNat_mul, true_and, and_true]; omega)]
    exact fresh (fun hh => hp hh.1)
