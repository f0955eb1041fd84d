/-! ===== how long a word is: the class ===== deps: 97.a.piece -/
noncomputable def zfst (P : Nat → Prop) : Nat → Nat → Nat
  | 0, i => i
  | f + 1, i => zif (P i) i (zfst P f (i + 1))
theorem zfst_of {P : Nat → Prop} : ∀ {f i n : Nat}, i ≤ n → n ≤ i + f → (∀ j, i ≤ j → j < n → ¬ P j) → (n = i + f ∨ P n) → zfst P f i = n
  | 0, i, n, h1, h2, _, _ => by
    show i = n
    omega
  | f + 1, i, n, h1, h2, h3, h4 => by
    show zif (P i) i (zfst P f (i + 1)) = n
    by_cases hi : i = n
    · by_cases hp : P i
      · rw [zif_t hp]; exact hi
      · rw [hi] at hp
        have : n = i + (f + 1) := h4.resolve_right hp
        omega
    · rw [zif_f (h3 i (Nat.le_refl i) (by omega))]
      exact zfst_of (by omega) (by omega) (fun j hj => h3 j (by omega)) (h4.imp (by omega) id)
def zwp (rl : Nat → Nat) (rs : Nat → Nat → Nat) (rise q from_ n : Nat) : Prop := znx rl rs (fun i => rs q (from_ + i)) (n - 1) < znx rl rs (fun i => rs q (from_ + i)) n ∧ rise ≤ znx rl rs (fun i => rs q (from_ + i)) n
def zmost (rl : Nat → Nat) (q from_ : Nat) : Nat := min 7 (rl q - from_)
noncomputable def zwl (rl : Nat → Nat) (rs : Nat → Nat → Nat) (rise q from_ : Nat) : Nat := if zmost rl q from_ ≤ 1 then zmost rl q from_ else zfst (zwp rl rs rise q from_) (zmost rl q from_ - 2) 2
theorem zwl_of {rl : Nat → Nat} {rs : Nat → Nat → Nat} {rise q from_ n : Nat} (h1 : 1 ≤ n) (h2 : n ≤ zmost rl q from_) (h3 : ∀ j, 2 ≤ j → j < n → ¬ zwp rl rs rise q from_ j) (h4 : n = zmost rl q from_ ∨ (2 ≤ n ∧ zwp rl rs rise q from_ n)) : zwl rl rs rise q from_ = n := by
  unfold zwl
  by_cases hm : zmost rl q from_ ≤ 1
  · rw [if_pos hm]
    omega
  · rw [if_neg hm]
    refine zfst_of (by omega) (by omega) h3 ?_
    rcases h4 with h4 | h4
    · exact Or.inl (by omega)
    · exact Or.inr h4.2
theorem zfst_rng (P : Nat → Prop) : ∀ (f i : Nat), i ≤ zfst P f i ∧ zfst P f i ≤ i + f
  | 0, i => ⟨Nat.le_refl i, Nat.le_refl i⟩
  | f + 1, i => by
    have h := zfst_rng P f (i + 1)
    show i ≤ zif (P i) i (zfst P f (i + 1)) ∧ zif (P i) i (zfst P f (i + 1)) ≤ i + (f + 1)
    by_cases hp : P i
    · rw [zif_t hp]; omega
    · rw [zif_f hp]; omega
theorem zwl_rng {rl : Nat → Nat} {rs : Nat → Nat → Nat} {rise q from_ : Nat} (h : from_ < rl q) : 1 ≤ zwl rl rs rise q from_ ∧ zwl rl rs rise q from_ ≤ 7 ∧ from_ + zwl rl rs rise q from_ ≤ rl q ∧ (from_ + 2 ≤ rl q → 2 ≤ zwl rl rs rise q from_) := by
  have hm : zmost rl q from_ = min 7 (rl q - from_) := rfl
  unfold zwl
  by_cases hc : zmost rl q from_ ≤ 1
  · rw [if_pos hc]; omega
  · rw [if_neg hc]
    have := zfst_rng (zwp rl rs rise q from_) (zmost rl q from_ - 2) 2
    omega
theorem znx_le (rl : Nat → Nat) (rs : Nat → Nat → Nat) (pc : Nat → Nat) (n : Nat) : znx rl rs pc n ≤ 21 := zsum_le1 (fun _ _ => zb_le _)
theorem c_isRow6 {M : ZMem} {q : Nat} (hq : q < 24) : f_X6_isRow M (zI q) = some (zI 1) := by
  unfold f_X6_isRow
  rw [if_neg (by simp (disch := omega) only [zk_bind, zk_chk, zk_bnd, zk_some, zlp_l, zlp_r, zb_some, zb_bnd, zI_add, zI_sub, zI_mul, zI_neg, zI_le, zI_lt, zI_eq, zI_ix, zI_inI, Int.toNat_natCast, Int.toNat_add, Int.toNat_mul, true_and, and_true]; omega), if_neg (by simp (disch := omega) only [zk_bind, zk_chk, zk_bnd, zk_some, zlp_l, zlp_r, zb_some, zb_bnd, zI_add, zI_sub, zI_mul, zI_neg, zI_le, zI_lt, zI_eq, zI_ix, zI_inI, Int.toNat_natCast, Int.toNat_add, Int.toNat_mul, true_and, and_true]; omega)]
theorem c_lengthOf6 {M : ZMem} {rl : Nat → Nat} {rs : Nat → Nat → Nat} (h : rowsG rl rs M) {q : Nat} (hq : q < 24) : f_X6_lengthOf M (zI q) = some (zI (rl q)) := by
  unfold f_X6_lengthOf
  rw [c_isRow6 hq, zb_some, if_neg (by decide), zI_inI (by omega) (by omega) (by omega), zb_chk, zI_ix (by omega) (by omega), Int.toNat_natCast, h.1 q hq]
theorem c_signAt6 {M : ZMem} {rl : Nat → Nat} {rs : Nat → Nat → Nat} (hk : okRw rl rs) (h : rowsG rl rs M) {q : Nat} (hq : q < 24) (k : Int) (h1 : -2147483648 ≤ k) (h2 : k ≤ 2147483647) : f_X6_signAt M (zI q) (zI k) = some (zI (if 0 ≤ k ∧ k < rl q then (rs q k.toNat : Int) else -1)) := by
  have hr := hk.1 q
  unfold f_X6_signAt
  rw [c_isRow6 hq, zb_some, if_neg (by decide)]
  by_cases c1 : k < 0
  · rw [if_pos (by simp (disch := omega) only [zk_bind, zk_chk, zk_bnd, zk_some, zlp_l, zlp_r, zb_some, zb_bnd, zI_add, zI_sub, zI_mul, zI_neg, zI_le, zI_lt, zI_eq, zI_ix, zI_inI, Int.toNat_natCast, Int.toNat_add, Int.toNat_mul, true_and, and_true]; omega), if_neg (by omega)]
  · rw [if_neg (by simp (disch := omega) only [zk_bind, zk_chk, zk_bnd, zk_some, zlp_l, zlp_r, zb_some, zb_bnd, zI_add, zI_sub, zI_mul, zI_neg, zI_le, zI_lt, zI_eq, zI_ix, zI_inI, Int.toNat_natCast, Int.toNat_add, Int.toNat_mul, true_and, and_true]; omega), zI_inI (by omega) (by omega) (by omega), zb_chk, zI_ix (by omega) (by omega), Int.toNat_natCast, h.1 q hq]
    by_cases c2 : (rl q : Int) ≤ k
    · rw [if_pos (by simp (disch := omega) only [zk_bind, zk_chk, zk_bnd, zk_some, zlp_l, zlp_r, zb_some, zb_bnd, zI_add, zI_sub, zI_mul, zI_neg, zI_le, zI_lt, zI_eq, zI_ix, zI_inI, Int.toNat_natCast, Int.toNat_add, Int.toNat_mul, true_and, and_true]; omega), if_neg (by omega)]
    · rw [if_neg (by simp (disch := omega) only [zk_bind, zk_chk, zk_bnd, zk_some, zlp_l, zlp_r, zb_some, zb_bnd, zI_add, zI_sub, zI_mul, zI_neg, zI_le, zI_lt, zI_eq, zI_ix, zI_inI, Int.toNat_natCast, Int.toNat_add, Int.toNat_mul, true_and, and_true]; omega), zI_mul, zI_add, zI_inI (by omega) (by omega) (by omega), zb_chk, zI_ix (by omega) (by omega), show ((q : Int) * 10 + k).toNat = 10 * q + k.toNat by omega, h.2 q _ hq (by omega), if_pos (by omega)]
theorem c_signAtN {M : ZMem} {rl : Nat → Nat} {rs : Nat → Nat → Nat} (hk : okRw rl rs) (h : rowsG rl rs M) {q k : Nat} (hq : q < 24) (hkk : k < rl q) : f_X6_signAt M (zI q) (zI k) = some (zI (rs q k)) := by
  have hr := hk.1 q
  rw [c_signAt6 hk h hq _ (by omega) (by omega), if_pos (by omega), Int.toNat_natCast]
theorem c_wordLength {M : ZMem} {rl : Nat → Nat} {rs : Nat → Nat → Nat} (hk : okRw rl rs) (h : rowsG rl rs M) {q f rise : Nat} (hq : q < 24) (hf : f < rl q) (hr : rise ≤ 9) : zOk (f_X6_wordLength M (zI q) (zI f) (zI rise)) (fun r => r.2 = zI (zwl rl rs rise q f) ∧ zP zWfnd M r.1) := by
  have hrl := hk.1 q
  have hm : zmost rl q f = min 7 (rl q - f) := rfl
  unfold f_X6_wordLength
  rw [c_signAtN hk h hq hf, zb_some, zk_bind]
  refine zOk_mono (c_startPiece (pc := fun i => rs q (f + i)) hk h (hk.2 q f hf)) (fun M1 h1 => ?_)
  obtain ⟨h1a, h1b⟩ := h1
  have hx : ∀ {M' : ZMem}, zP zWfnd M M' → rowsG rl rs M' := fun hp => rowsG_x (fun k => hp.1 31 k rfl) (fun k => hp.1 32 k rfl) h
  rw [c_followers hk (hx h1b) (by omega) h1a, zb_some, c_lengthOf6 (hx h1b) hq, zb_some, zI_sub, zk_bnd, zk_bind]
  have e0 : (if zI ((rl q : Int) - f) < zI 7 then zI ((rl q : Int) - f) else zI 7) = zI (zmost rl q f) := by
    by_cases hc : rl q - f < 7
    · rw [if_pos (by simp (disch := omega) only [zk_bind, zk_chk, zk_bnd, zk_some, zlp_l, zlp_r, zb_some, zb_bnd, zI_add, zI_sub, zI_mul, zI_neg, zI_le, zI_lt, zI_eq, zI_ix, zI_inI, Int.toNat_natCast, Int.toNat_add, Int.toNat_mul, true_and, and_true]; omega)]; exact zI_inj (by omega)
    · rw [if_neg (by simp (disch := omega) only [zk_bind, zk_chk, zk_bnd, zk_some, zlp_l, zlp_r, zb_some, zb_bnd, zI_add, zI_sub, zI_mul, zI_neg, zI_le, zI_lt, zI_eq, zI_ix, zI_inI, Int.toNat_natCast, Int.toNat_add, Int.toNat_mul, true_and, and_true]; omega)]; exact zI_inj (by omega)
  rw [e0]
  refine zOk_forQ (fun i x => x.2.2 = zI ((i + 2 : Nat) : Int) ∧ zP zWfnd M x.1 ∧ fndC rl rs (fun i => rs q (f + i)) (i + 1) x.1 ∧ x.2.1 = zI (znx rl rs (fun i => rs q (f + i)) (i + 1)) ∧ ∀ j, 2 ≤ j → j < i + 2 → ¬ zwp rl rs rise q f j) (zmost rl q f - 1) ?_ ?_ ⟨rfl, h1b, h1a, rfl, fun j h1 h2 => by omega⟩
  · rintro i ⟨x1, x2, x3⟩ hi ⟨e1, e2, e3, e4, e5⟩ Q hQ hR
    dsimp only at e1 e2 e3 e4 e5
    have b1 := znx_le rl rs (fun i => rs q (f + i)) (i + 1)
    have b2 := znx_le rl rs (fun i => rs q (f + i)) (i + 1 + 1)
    unfold f_X6_wordLength_L33
    dsimp only
    rw [e1, if_neg (by simp (disch := omega) only [zk_bind, zk_chk, zk_bnd, zk_some, zlp_l, zlp_r, zb_some, zb_bnd, zI_add, zI_sub, zI_mul, zI_neg, zI_le, zI_lt, zI_eq, zI_ix, zI_inI, Int.toNat_natCast, Int.toNat_add, Int.toNat_mul, true_and, and_true]; omega), zI_add, zI_sub, show ((f : Int) + ((i + 2 : Nat) : Int) - 1) = ((f + (i + 1) : Nat) : Int) by omega, c_signAtN hk (hx e2) hq (by omega), zb_some, zk_bind]
    refine zOk_mono (c_growPiece (pc := fun i => rs q (f + i)) (n := i + 1) hk (hx e2) (by omega) e3 (hk.2 q _ (by omega))) (fun M2 h2 => ?_)
    obtain ⟨h2a, h2b⟩ := h2
    have hp2 := zP_tr e2 h2b
    rw [c_followers hk (hx hp2) (by omega) h2a, zb_some, e4]
    have hzw : zwp rl rs rise q f (i + 2) ↔ znx rl rs (fun i => rs q (f + i)) (i + 1) < znx rl rs (fun i => rs q (f + i)) (i + 1 + 1) ∧ rise ≤ znx rl rs (fun i => rs q (f + i)) (i + 1 + 1) := Iff.rfl
    by_cases c1 : znx rl rs (fun i => rs q (f + i)) (i + 1 + 1) ≤ znx rl rs (fun i => rs q (f + i)) (i + 1)
    · rw [if_pos (by simp (disch := omega) only [zk_bind, zk_chk, zk_bnd, zk_some, zlp_l, zlp_r, zb_some, zb_bnd, zI_add, zI_sub, zI_mul, zI_neg, zI_le, zI_lt, zI_eq, zI_ix, zI_inI, Int.toNat_natCast, Int.toNat_add, Int.toNat_mul, true_and, and_true]; omega), zk_bnd, zk_some, zI_add]
      refine hQ _ ⟨zI_inj (by omega), hp2, h2a, rfl, fun j g1 g2 => ?_⟩
      by_cases he : j = i + 2
      · rw [he, hzw]; omega
      · exact e5 j g1 (by omega)
    · rw [if_neg (by simp (disch := omega) only [zk_bind, zk_chk, zk_bnd, zk_some, zlp_l, zlp_r, zb_some, zb_bnd, zI_add, zI_sub, zI_mul, zI_neg, zI_le, zI_lt, zI_eq, zI_ix, zI_inI, Int.toNat_natCast, Int.toNat_add, Int.toNat_mul, true_and, and_true]; omega)]
      by_cases c2 : znx rl rs (fun i => rs q (f + i)) (i + 1 + 1) < rise
      · rw [if_pos (by simp (disch := omega) only [zk_bind, zk_chk, zk_bnd, zk_some, zlp_l, zlp_r, zb_some, zb_bnd, zI_add, zI_sub, zI_mul, zI_neg, zI_le, zI_lt, zI_eq, zI_ix, zI_inI, Int.toNat_natCast, Int.toNat_add, Int.toNat_mul, true_and, and_true]; omega), zk_bnd, zk_some, zI_add]
        refine hQ _ ⟨zI_inj (by omega), hp2, h2a, rfl, fun j g1 g2 => ?_⟩
        by_cases he : j = i + 2
        · rw [he, hzw]; omega
        · exact e5 j g1 (by omega)
      · rw [if_neg (by simp (disch := omega) only [zk_bind, zk_chk, zk_bnd, zk_some, zlp_l, zlp_r, zb_some, zb_bnd, zI_add, zI_sub, zI_mul, zI_neg, zI_le, zI_lt, zI_eq, zI_ix, zI_inI, Int.toNat_natCast, Int.toNat_add, Int.toNat_mul, true_and, and_true]; omega), zk_some]
        refine hR _ ?_
        show zOk (some (M2, zI ((i + 2 : Nat) : Int))) _
        rw [zk_some]
        refine ⟨?_, hp2⟩
        rw [zwl_of (n := i + 2) (by omega) (by omega) e5 (Or.inr ⟨by omega, hzw.mpr (by omega)⟩)]
  · rintro ⟨x1, x2, x3⟩ ⟨e1, e2, e3, e4, e5⟩
    dsimp only at e1 e2 e3 e4 e5
    refine ⟨.inl x1, ?_, ?_⟩
    · unfold f_X6_wordLength_L33
      dsimp only
      rw [e1, if_pos (by simp (disch := omega) only [zk_bind, zk_chk, zk_bnd, zk_some, zlp_l, zlp_r, zb_some, zb_bnd, zI_add, zI_sub, zI_mul, zI_neg, zI_le, zI_lt, zI_eq, zI_ix, zI_inI, Int.toNat_natCast, Int.toNat_add, Int.toNat_mul, true_and, and_true]; omega)]
    · show zOk (some (x1, zI (zmost rl q f))) _
      rw [zk_some]
      refine ⟨?_, e2⟩
      rw [zwl_of (n := zmost rl q f) (by omega) (by omega) (fun j g1 g2 => e5 j g1 (by omega)) (Or.inl rfl)]
-- the reference
/-- what the reference holds of the rows -/
def rowsH (s : ZS) (rs : Nat → Nat → Nat) (R : ZMem) : Prop := R.1 0 23 = zI (zrx s 24) ∧ (∀ q, q ≤ 24 → R.1 13 (zrx s q) = zI (zbg s q)) ∧ ∀ q k, q < 24 → k < zRL s q → R.1 14 (zbg s q + k) = zI (rs q k)
def pcR (pc : Nat → Nat) (n : Nat) (R : ZMem) : Prop := ∀ i, i < n → R.1 15 i = zI (pc i)
theorem zbg240 {F : Nat} {s : ZS} (hs : okS F s) {q : Nat} (hq : q < 24) : zbg s q + zRL s q ≤ 240 := by
  have h1 := zbg_le hs (q + 1)
  rw [zbg_s] at h1
  omega
theorem r_stands {M : ZMem} {F : Nat} {s : ZS} {rs : Nat → Nat → Nat} {pc : Nat → Nat} {n : Nat} (hs : okS F s) (hk : okRw (zRL s) rs) (h : rowsH s rs M) (hn : n ≤ 7) (hp : pcR pc n M) (hp2 : ∀ i, i < n → pc i < 20) {q k : Nat} (hq : q < 24) (hkk : k < zRL s q) : f_X12_stands M (zI ((zbg s q + k : Nat) : Int)) (zI ((zbg s q + zRL s q : Nat) : Int)) (zI n) = some (zI (zb (zoc (zRL s) rs pc n (10 * q + k)))) := by
  have hb := zbg240 hs hq
  have hr := hk.1 q
  have hoc : zoc (zRL s) rs pc n (10 * q + k) ↔ k + n ≤ zRL s q ∧ ∀ i, i < n → rs q (k + i) = pc i := by
    unfold zoc
    rw [show (10 * q + k) % 10 = k by omega, show (10 * q + k) / 10 = q by omega]
  unfold f_X12_stands
  rw [zI_add]
  by_cases hc : k + n ≤ zRL s q
  · rw [if_pos (by simp (disch := omega) only [zk_bind, zk_chk, zk_bnd, zk_some, zlp_l, zlp_r, zb_some, zb_bnd, zI_add, zI_sub, zI_mul, zI_neg, zI_le, zI_lt, zI_eq, zI_ix, zI_inI, Int.toNat_natCast, Int.toNat_add, Int.toNat_mul, true_and, and_true]; omega)]
    apply zOk_is
    rw [zk_bind]
    refine zOk_forQ (fun i x => x = zI i ∧ ∀ j, j < i → rs q (k + j) = pc j) n ?_ ?_ ⟨rfl, fun j hj => absurd hj (Nat.not_lt_zero j)⟩
    · rintro i x hi ⟨rfl, e1⟩ Q hQ hR
      have v1 := hk.2 q (k + i) (by omega)
      have v2 := hp2 i hi
      unfold f_X12_stands_L12
      rw [if_neg (by simp (disch := omega) only [zk_bind, zk_chk, zk_bnd, zk_some, zlp_l, zlp_r, zb_some, zb_bnd, zI_add, zI_sub, zI_mul, zI_neg, zI_le, zI_lt, zI_eq, zI_ix, zI_inI, Int.toNat_natCast, Int.toNat_add, Int.toNat_mul, true_and, and_true]; omega), zI_add, zI_inI (by omega) (by omega) (by omega), zI_inI (by omega) (by omega) (by omega), zb_chk, zb_chk, zI_ix (by omega) (by omega), zI_ix (by omega) (by omega), Int.toNat_natCast, hp i hi, show (((zbg s q + k : Nat) : Int) + i).toNat = zbg s q + (k + i) by omega, h.2.2 q _ hq (by omega)]
      by_cases he : rs q (k + i) = pc i
      · rw [if_pos (by rw [he]), zk_bnd, zk_some]
        refine hQ _ ⟨by rw [zI_add]; exact zI_inj (by omega), fun j hj => ?_⟩
        by_cases hj2 : j = i
        · rw [hj2]; exact he
        · exact e1 j (by omega)
      · rw [if_neg (by simp (disch := omega) only [zk_bind, zk_chk, zk_bnd, zk_some, zlp_l, zlp_r, zb_some, zb_bnd, zI_add, zI_sub, zI_mul, zI_neg, zI_le, zI_lt, zI_eq, zI_ix, zI_inI, Int.toNat_natCast, Int.toNat_add, Int.toNat_mul, true_and, and_true]; omega), zk_some]
        refine hR _ ?_
        show zOk (some (zI 0)) _
        rw [zk_some, zb_f (fun hz => he ((hoc.mp hz).2 i hi))]
        rfl
    · rintro x ⟨rfl, e1⟩
      refine ⟨.inl (), ?_, ?_⟩
      · unfold f_X12_stands_L12
        rw [if_pos (by simp (disch := omega) only [zk_bind, zk_chk, zk_bnd, zk_some, zlp_l, zlp_r, zb_some, zb_bnd, zI_add, zI_sub, zI_mul, zI_neg, zI_le, zI_lt, zI_eq, zI_ix, zI_inI, Int.toNat_natCast, Int.toNat_add, Int.toNat_mul, true_and, and_true]; omega)]
      · show zOk (some (zI 1)) _
        rw [zk_some, zb_t (hoc.mpr ⟨hc, e1⟩)]
        rfl
  · rw [if_neg (by simp (disch := omega) only [zk_bind, zk_chk, zk_bnd, zk_some, zlp_l, zlp_r, zb_some, zb_bnd, zI_add, zI_sub, zI_mul, zI_neg, zI_le, zI_lt, zI_eq, zI_ix, zI_inI, Int.toNat_natCast, Int.toNat_add, Int.toNat_mul, true_and, and_true]; omega), zb_f (fun hz => hc (hoc.mp hz).1)]
    rfl
theorem zrx_in {s : ZS} {q : Nat} (hq : q < 24) (he : zex s q) : zrx s q < zrx s 24 ∧ zrx s (q + 1) = zrx s q + 1 := by
  have h1 := zrx_e he
  have h2 := zrx_mono s (p := q + 1) (q := 24) (by omega)
  omega
theorem r_comesOf {M : ZMem} {F : Nat} {s : ZS} {rs : Nat → Nat → Nat} {pc : Nat → Nat} {n : Nat} (hs : okS F s) (hk : okRw (zRL s) rs) (h : rowsH s rs M) (hn1 : 1 ≤ n) (hn : n ≤ 7) (hp : pcR pc n M) (hp2 : ∀ i, i < n → pc i < 20) : f_X12_comesOf M (zI n) = some (zI (zcom (zRL s) rs pc n)) := by
  have b24 := zrx_le s 24
  have hno : ∀ q k, q < 24 → k < 10 → zRL s q ≤ k → ¬ zoc (zRL s) rs pc n (10 * q + k) := by
    rintro q k hq hk1 hk2 ⟨g1, _⟩
    rw [show (10 * q + k) % 10 = k by omega, show (10 * q + k) / 10 = q by omega] at g1
    omega
  have hend : ∀ q, q < 24 → zsum (10 * (q + 1)) (fun x => zb (zoc (zRL s) rs pc n x)) = zsum (10 * q + zRL s q) (fun x => zb (zoc (zRL s) rs pc n x)) := by
    intro q hq
    have := hk.1 q
    refine zsum_ext (by omega) (fun x h1 h2 => zb_f ?_)
    have := hno q (x - 10 * q) hq (by omega) (by omega)
    rwa [show 10 * q + (x - 10 * q) = x by omega] at this
  apply zOk_is
  unfold f_X12_comesOf
  rw [zk_bind]
  refine zOk_rows s (fun q x => x.2 = zI (zrx s q) ∧ x.1 = zI (zsum (10 * q) (fun x => zb (zoc (zRL s) rs pc n x)))) ?_ ?_ ?_ ⟨rfl, rfl⟩
  · rintro q x hq hne ⟨e1, e2⟩
    refine ⟨by rw [zrx_n hne]; exact e1, ?_⟩
    rw [e2, hend q hq, zRL_n hne]
    rfl
  · rintro q ⟨x1, x2⟩ hq hex ⟨e1, e2⟩ Q hQ _
    dsimp only at e1 e2
    obtain ⟨i1, i2⟩ := zrx_in hq hex
    have hb := zbg240 hs hq
    have hr := hk.1 q
    have hb1 : M.1 13 (zrx s q) = zI (zbg s q) := h.2.1 q (by omega)
    have hb2 : M.1 13 (zrx s q + 1) = zI ((zbg s q + zRL s q : Nat) : Int) := by rw [← i2, h.2.1 (q + 1) (by omega)]; rfl
    unfold f_X12_comesOf_L4
    dsimp only
    rw [h.1, e1, if_neg (by simp (disch := omega) only [zk_bind, zk_chk, zk_bnd, zk_some, zlp_l, zlp_r, zb_some, zb_bnd, zI_add, zI_sub, zI_mul, zI_neg, zI_le, zI_lt, zI_eq, zI_ix, zI_inI, Int.toNat_natCast, Int.toNat_add, Int.toNat_mul, true_and, and_true]; omega), zI_inI (by omega) (by omega) (by omega), zb_chk, zI_ix (by omega) (by omega), Int.toNat_natCast, hb1, zk_bnd, zk_bind]
    refine zOk_for0 (fun k x => x.2 = zI ((zbg s q + k : Nat) : Int) ∧ x.1 = zI (zsum (10 * q + k) (fun x => zb (zoc (zRL s) rs pc n x)))) (zRL s q) ?_ ?_ ⟨rfl, e2⟩
    · rintro k ⟨y1, y2⟩ hkk ⟨d1, d2⟩
      dsimp only at d1 d2
      unfold f_X12_comesOf_L20
      dsimp only
      rw [zI_add, zI_inI (by omega) (by omega) (by omega), zb_chk, zI_ix (by omega) (by omega), show ((zrx s q : Int) + 1).toNat = zrx s q + 1 by omega, hb2, d1, if_neg (by simp (disch := omega) only [zk_bind, zk_chk, zk_bnd, zk_some, zlp_l, zlp_r, zb_some, zb_bnd, zI_add, zI_sub, zI_mul, zI_neg, zI_le, zI_lt, zI_eq, zI_ix, zI_inI, Int.toNat_natCast, Int.toNat_add, Int.toNat_mul, true_and, and_true]; omega), zb_chk, r_stands hs hk h hn hp hp2 hq hkk, zb_some, r_truth, zb_some, zk_bnd, zk_bnd, zk_some, zlp_l, d2]
      refine ⟨by rw [zI_add]; exact zI_inj (by omega), ?_⟩
      rw [← Nat.add_assoc, zsum_s]
      dsimp only
      by_cases hz : zoc (zRL s) rs pc n (10 * q + k)
      · rw [zb_t hz, if_neg (by decide), zI_add]; exact zI_inj (by omega)
      · rw [zb_f hz, if_pos (by decide), zI_add]; exact zI_inj (by omega)
    · rintro ⟨y1, y2⟩ ⟨d1, d2⟩
      dsimp only at d1 d2
      unfold f_X12_comesOf_L20
      dsimp only
      rw [zI_add, zI_inI (by omega) (by omega) (by omega), zb_chk, zI_ix (by omega) (by omega), show ((zrx s q : Int) + 1).toNat = zrx s q + 1 by omega, hb2, d1, if_pos (by simp (disch := omega) only [zk_bind, zk_chk, zk_bnd, zk_some, zlp_l, zlp_r, zb_some, zb_bnd, zI_add, zI_sub, zI_mul, zI_neg, zI_le, zI_lt, zI_eq, zI_ix, zI_inI, Int.toNat_natCast, Int.toNat_add, Int.toNat_mul, true_and, and_true]; omega), zk_some, zlp_r, zk_bnd, zk_some]
      exact hQ _ ⟨by rw [i2]; exact zI_inj (by omega), by rw [hend q hq]; exact d2⟩
  · rintro ⟨x1, x2⟩ ⟨e1, e2⟩
    dsimp only at e1 e2
    refine ⟨x1, ?_, ?_⟩
    · unfold f_X12_comesOf_L4
      dsimp only
      rw [h.1, e1, if_pos (by simp (disch := omega) only [zk_bind, zk_chk, zk_bnd, zk_some, zlp_l, zlp_r, zb_some, zb_bnd, zI_add, zI_sub, zI_mul, zI_neg, zI_le, zI_lt, zI_eq, zI_ix, zI_inI, Int.toNat_natCast, Int.toNat_add, Int.toNat_mul, true_and, and_true]; omega)]
    · rw [zk_some, e2]
      rfl
