/-! ===== what follows a piece: the reference ===== deps: 97.b.wlen -/
theorem zexX (P : Nat → Prop) (X : Nat) : (∃ x, x < X + 1 ∧ P x) ↔ (∃ x, x < X ∧ P x) ∨ P X := by
  constructor
  · rintro ⟨x, h1, h2⟩
    by_cases he : x = X
    · subst he; exact Or.inr h2
    · exact Or.inl ⟨x, by omega, h2⟩
  · rintro (⟨x, h1, h2⟩ | h)
    · exact ⟨x, by omega, h2⟩
    · exact ⟨X, by omega, h⟩
theorem zexG (P : Nat → Prop) {X Y : Nat} (hXY : X ≤ Y) (h : ∀ x, X ≤ x → x < Y → ¬ P x) : (∃ x, x < X ∧ P x) ↔ ∃ x, x < Y ∧ P x := by
  constructor
  · rintro ⟨x, h1, h2⟩
    exact ⟨x, by omega, h2⟩
  · rintro ⟨x, h1, h2⟩
    by_cases he : x < X
    · exact ⟨x, he, h2⟩
    · exact absurd h2 (h x (by omega) h1)
theorem r_nextOf {M : ZMem} {F : Nat} {s : ZS} {rs : Nat → Nat → Nat} {pc : Nat → Nat} {n : Nat} (hs : okS F s) (hk : okRw (zRL s) rs) (h : rowsH s rs M) (hn1 : 1 ≤ n) (hn : n ≤ 7) (hp : pcR pc n M) (hp2 : ∀ i, i < n → pc i < 20) : f_X12_nextOf M (zI n) = some (zI (znx (zRL s) rs pc n)) := by
  have b24 := zrx_le s 24
  have hno : ∀ q x, q < 24 → 10 * q + zRL s q ≤ x → x < 10 * (q + 1) → ¬ zoc (zRL s) rs pc n x := by
    rintro q x hq hk1 hk2 ⟨g1, _⟩
    rw [show x / 10 = q by omega] at g1
    omega
  apply zOk_is
  unfold f_X12_nextOf
  rw [zk_bind]
  have hsk : ∀ q (v : Int), q < 24 → ((∃ x, x < 10 * q + zRL s q ∧ zoc (zRL s) rs pc n x ∧ zbh (zRL s) rs n x = v) ↔ ∃ x, x < 10 * (q + 1) ∧ zoc (zRL s) rs pc n x ∧ zbh (zRL s) rs n x = v) := by
    intro q v hq
    have := hk.1 q
    exact zexG (fun x => zoc (zRL s) rs pc n x ∧ zbh (zRL s) rs n x = v) (by omega) (fun x h1 h2 h3 => hno q x hq h1 h2 h3.1)
  refine zOk_rows s (fun q x => x.2.2 = zI (zrx s q) ∧ zMk x.1 20 (fun b => ∃ x, x < 10 * q ∧ zoc (zRL s) rs pc n x ∧ zbh (zRL s) rs n x = b) ∧ x.2.1 = zI (zb (∃ x, x < 10 * q ∧ zoc (zRL s) rs pc n x ∧ zbh (zRL s) rs n x = -1))) ?_ ?_ ?_ ⟨rfl, zMk_0 20 (fun b ⟨x, hx, _⟩ => by omega), by rw [zb_f (fun ⟨x, hx, _⟩ => by omega)]; rfl⟩
  · rintro q x hq hne ⟨e1, e2, e3⟩
    have hs' : ∀ v : Int, (∃ x, x < 10 * q ∧ zoc (zRL s) rs pc n x ∧ zbh (zRL s) rs n x = v) ↔ ∃ x, x < 10 * (q + 1) ∧ zoc (zRL s) rs pc n x ∧ zbh (zRL s) rs n x = v := by
      intro v
      have := hsk q v hq
      rwa [zRL_n hne] at this
    exact ⟨by rw [zrx_n hne]; exact e1, zMk_cg e2 (fun b => hs' b), by rw [e3, zb_iff (hs' (-1))]⟩
  · rintro q ⟨x1, x2, x3⟩ hq hex ⟨e1, e2, e3⟩ Q hQ _
    dsimp only at e1 e2 e3
    obtain ⟨i1, i2⟩ := zrx_in hq hex
    have hb := zbg240 hs hq
    have hr := hk.1 q
    have hb1 : M.1 13 (zrx s q) = zI (zbg s q) := h.2.1 q (by omega)
    have hb2 : M.1 13 (zrx s q + 1) = zI ((zbg s q + zRL s q : Nat) : Int) := by rw [← i2, h.2.1 (q + 1) (by omega)]; rfl
    have hix : zix (zI ((zrx s q : Int) + 1)) = zrx s q + 1 := by rw [zI_ix (by omega) (by omega)]; omega
    have hin : zin (zI ((zrx s q : Int) + 1)) 25 = true := zI_inI (by omega) (by omega) (by omega)
    unfold f_X12_nextOf_L7
    dsimp only
    rw [h.1, e1, if_neg (by simp (disch := omega) only [zk_bind, zk_chk, zk_bnd, zk_some, zlp_l, zlp_r, zb_some, zb_bnd, zI_add, zI_sub, zI_mul, zI_neg, zI_le, zI_lt, zI_eq, zI_ix, zI_inI, Int.toNat_natCast, Int.toNat_add, Int.toNat_mul, true_and, and_true]; omega), zI_inI (by omega) (by omega) (by omega), zb_chk, zI_ix (by omega) (by omega), Int.toNat_natCast, hb1, zk_bnd, zk_bind]
    refine zOk_forQ (fun k x => x.2.2 = zI ((zbg s q + k : Nat) : Int) ∧ zMk x.1 20 (fun b => ∃ x, x < 10 * q + k ∧ zoc (zRL s) rs pc n x ∧ zbh (zRL s) rs n x = b) ∧ x.2.1 = zI (zb (∃ x, x < 10 * q + k ∧ zoc (zRL s) rs pc n x ∧ zbh (zRL s) rs n x = -1))) (zRL s q) ?_ ?_ ⟨rfl, e2, e3⟩
    · rintro k ⟨y1, y2, y3⟩ hkk ⟨d1, d2, d3⟩ Q' hQ' _
      dsimp only at d1 d2 d3
      have hbh : zbh (zRL s) rs n (10 * q + k) = if k + n < zRL s q then (rs q (k + n) : Int) else -1 := by
        unfold zbh
        rw [show (10 * q + k) % 10 = k by omega, show (10 * q + k) / 10 = q by omega]
      unfold f_X12_nextOf_L25
      dsimp only
      rw [zI_add, hin, zb_chk, hix, hb2, d1, if_neg (by simp (disch := omega) only [zk_bind, zk_chk, zk_bnd, zk_some, zlp_l, zlp_r, zb_some, zb_bnd, zI_add, zI_sub, zI_mul, zI_neg, zI_le, zI_lt, zI_eq, zI_ix, zI_inI, Int.toNat_natCast, Int.toNat_add, Int.toNat_mul, true_and, and_true]; omega), zb_chk, r_stands hs hk h hn hp hp2 hq hkk, zb_some]
      by_cases hz : zoc (zRL s) rs pc n (10 * q + k)
      · have hkn : k + n ≤ zRL s q := by
          have := hz.1
          rwa [show (10 * q + k) % 10 = k by omega, show (10 * q + k) / 10 = q by omega] at this
        have hp0 : zb (zoc (zRL s) rs pc n (10 * q + k)) = 1 := zb_t hz
        rw [hp0, if_neg (by decide)]
        -- the two ends of the body
        have key : ∀ v : Nat, v = zb (∃ x, x < 10 * q + (k + 1) ∧ zoc (zRL s) rs pc n x ∧ zbh (zRL s) rs n x = -1) → zOk (f_X12_nextOf_83_L25 M (zI n) y1 (zI (zrx s q)) (zI ((zbg s q + k : Nat) : Int)) (zI v)) Q' := by
          intro v hv
          unfold f_X12_nextOf_83_L25
          rw [zI_add, hin, zb_chk, hix, hb2, zI_add]
          by_cases hl : k + n < zRL s q
          · have hv1 := hk.2 q (k + n) hl
            rw [if_neg (by simp (disch := omega) only [zk_bind, zk_chk, zk_bnd, zk_some, zlp_l, zlp_r, zb_some, zb_bnd, zI_add, zI_sub, zI_mul, zI_neg, zI_le, zI_lt, zI_eq, zI_ix, zI_inI, Int.toNat_natCast, Int.toNat_add, Int.toNat_mul, true_and, and_true]; omega), zI_inI (by omega) (by omega) (by omega), zb_chk, zI_ix (by omega) (by omega), show (((zbg s q + k : Nat) : Int) + n).toNat = zbg s q + (k + n) by omega, h.2.2 q _ hq hl, zk_bnd, zk_bnd, zk_some, zI_add]
            refine hQ' _ ⟨zI_inj (by omega), zMk_cg (zMk_or (by decide) d2 hv1) (fun b => ?_), by rw [hv]⟩
            rw [← Nat.add_assoc, zexX (fun x => zoc (zRL s) rs pc n x ∧ zbh (zRL s) rs n x = b), hbh, if_pos hl]
            exact or_congr Iff.rfl ⟨fun e => ⟨hz, by omega⟩, fun e => by omega⟩
          · rw [if_pos (by simp (disch := omega) only [zk_bind, zk_chk, zk_bnd, zk_some, zlp_l, zlp_r, zb_some, zb_bnd, zI_add, zI_sub, zI_mul, zI_neg, zI_le, zI_lt, zI_eq, zI_ix, zI_inI, Int.toNat_natCast, Int.toNat_add, Int.toNat_mul, true_and, and_true]; omega), zk_bnd, zk_bnd, zk_some, zI_add]
            refine hQ' _ ⟨zI_inj (by omega), zMk_cg (zMk_oo (by decide) d2 (zMk_0 20 (P := fun _ => False) (fun _ h => h))) (fun b => ?_), by rw [hv]⟩
            rw [← Nat.add_assoc, zexX (fun x => zoc (zRL s) rs pc n x ∧ zbh (zRL s) rs n x = b), hbh, if_neg hl]
            exact or_congr Iff.rfl ⟨False.elim, fun e => by omega⟩
        rw [d3]
        have hsx : (∃ x, x < 10 * q + (k + 1) ∧ zoc (zRL s) rs pc n x ∧ zbh (zRL s) rs n x = -1) ↔ (∃ x, x < 10 * q + k ∧ zoc (zRL s) rs pc n x ∧ zbh (zRL s) rs n x = -1) ∨ k + n = zRL s q := by
          rw [← Nat.add_assoc, zexX (fun x => zoc (zRL s) rs pc n x ∧ zbh (zRL s) rs n x = -1), hbh]
          refine or_congr Iff.rfl ⟨fun e => ?_, fun e => ⟨hz, ?_⟩⟩
          · have := e.2
            split at this <;> omega
          · rw [if_neg (by omega)]
        by_cases hE : ∃ x, x < 10 * q + k ∧ zoc (zRL s) rs pc n x ∧ zbh (zRL s) rs n x = -1
        · rw [if_neg (by rw [zb_0]; exact not_not_intro hE)]
          unfold f_X12_nextOf_78_L25
          exact key 1 (zb_t (hsx.mpr (Or.inl hE))).symm
        · rw [if_pos (by rw [zb_0]; exact hE), zb_chk, zI_add]
          unfold f_X12_nextOf_78_L25
          by_cases hc : k + n = zRL s q
          · rw [if_pos (by simp (disch := omega) only [zk_bind, zk_chk, zk_bnd, zk_some, zlp_l, zlp_r, zb_some, zb_bnd, zI_add, zI_sub, zI_mul, zI_neg, zI_le, zI_lt, zI_eq, zI_ix, zI_inI, Int.toNat_natCast, Int.toNat_add, Int.toNat_mul, true_and, and_true]; omega)]
            exact key 1 (zb_t (hsx.mpr (Or.inr hc))).symm
          · rw [if_neg (by simp (disch := omega) only [zk_bind, zk_chk, zk_bnd, zk_some, zlp_l, zlp_r, zb_some, zb_bnd, zI_add, zI_sub, zI_mul, zI_neg, zI_le, zI_lt, zI_eq, zI_ix, zI_inI, Int.toNat_natCast, Int.toNat_add, Int.toNat_mul, true_and, and_true]; omega)]
            exact key 0 (zb_f (fun hh => (hsx.mp hh).elim hE hc)).symm
      · have hp0 : zb (zoc (zRL s) rs pc n (10 * q + k)) = 0 := zb_f hz
        rw [hp0, if_pos (by decide), zk_bnd, zk_some, zI_add]
        have hsx : ∀ v : Int, (∃ x, x < 10 * q + k ∧ zoc (zRL s) rs pc n x ∧ zbh (zRL s) rs n x = v) ↔ ∃ x, x < 10 * q + (k + 1) ∧ zoc (zRL s) rs pc n x ∧ zbh (zRL s) rs n x = v := by
          intro v
          rw [← Nat.add_assoc, zexX (fun x => zoc (zRL s) rs pc n x ∧ zbh (zRL s) rs n x = v)]
          exact ⟨Or.inl, fun hh => hh.elim id (fun hh => absurd hh.1 hz)⟩
        exact hQ' _ ⟨zI_inj (by omega), zMk_cg d2 (fun b => hsx b), by rw [d3, zb_iff (hsx (-1))]⟩
    · rintro ⟨y1, y2, y3⟩ ⟨d1, d2, d3⟩
      dsimp only at d1 d2 d3
      refine ⟨(y1, y2), ?_, ?_⟩
      · unfold f_X12_nextOf_L25
        dsimp only
        rw [zI_add, hin, zb_chk, hix, hb2, d1, if_pos (by simp (disch := omega) only [zk_bind, zk_chk, zk_bnd, zk_some, zlp_l, zlp_r, zb_some, zb_bnd, zI_add, zI_sub, zI_mul, zI_neg, zI_le, zI_lt, zI_eq, zI_ix, zI_inI, Int.toNat_natCast, Int.toNat_add, Int.toNat_mul, true_and, and_true]; omega)]
      · rw [zk_bnd, zk_some, zI_add]
        exact hQ _ ⟨by rw [i2]; exact zI_inj (by omega), zMk_cg d2 (fun b => hsk q b hq), by rw [d3, zb_iff (hsk q (-1) hq)]⟩
  · rintro ⟨x1, x2, x3⟩ ⟨e1, e2, e3⟩
    dsimp only at e1 e2 e3
    refine ⟨(x1, x2), ?_, ?_⟩
    · unfold f_X12_nextOf_L7
      dsimp only
      rw [h.1, e1, if_pos (by simp (disch := omega) only [zk_bind, zk_chk, zk_bnd, zk_some, zlp_l, zlp_r, zb_some, zb_bnd, zI_add, zI_sub, zI_mul, zI_neg, zI_le, zI_lt, zI_eq, zI_ix, zI_inI, Int.toNat_natCast, Int.toNat_add, Int.toNat_mul, true_and, and_true]; omega)]
    · dsimp only
      have e2 : zMk x1 20 (fun b => ∃ x, x < 240 ∧ zoc (zRL s) rs pc n x ∧ zbh (zRL s) rs n x = b) := e2
      have e3 : x2 = zI (zb (∃ x, x < 240 ∧ zoc (zRL s) rs pc n x ∧ zbh (zRL s) rs n x = -1)) := e3
      rw [zMk_pop (by decide) e2, zb_some, r_truth, zb_some, zk_some, e3]
      have h21 : znx (zRL s) rs pc n = zb (∃ x, x < 240 ∧ zoc (zRL s) rs pc n x ∧ zbh (zRL s) rs n x = -1) + zsum 20 (fun b => zb (∃ x, x < 240 ∧ zoc (zRL s) rs pc n x ∧ zbh (zRL s) rs n x = b)) := by
        unfold znx
        rw [show 21 = 1 + 20 from rfl, zsum_app]
        congr 1
        · show 0 + _ = _
          rw [Nat.zero_add]
          exact zb_iff ⟨fun ⟨x, g1, g2, g3⟩ => ⟨x, g1, g2, by have g4 : zbh (zRL s) rs n x + 1 = 0 := g3; omega⟩, fun ⟨x, g1, g2, g3⟩ => ⟨x, g1, g2, by show zbh (zRL s) rs n x + 1 = 0; omega⟩⟩
        · exact zsum_cg (fun b _ => zb_iff ⟨fun ⟨x, g1, g2, g3⟩ => ⟨x, g1, g2, by omega⟩, fun ⟨x, g1, g2, g3⟩ => ⟨x, g1, g2, by omega⟩⟩)
      rw [h21]
      by_cases hE : ∃ x, x < 240 ∧ zoc (zRL s) rs pc n x ∧ zbh (zRL s) rs n x = -1
      · rw [zb_t hE, if_neg (by decide), zI_add]
        exact zI_inj (by omega)
      · rw [zb_f hE, if_pos (by decide), zI_add]
        exact zI_inj (by omega)
theorem r_length {M : ZMem} {F : Nat} {s : ZS} {rs : Nat → Nat → Nat} {rise : Nat} (hs : okS F s) (hk : okRw (zRL s) rs) (h : rowsH s rs M) (hr9 : rise ≤ 9) (hr : M.1 9 2 = zI rise) {q f : Nat} (hq : q < 24) (hf : f < zRL s q) : zOk (f_X12_length M (zI ((zbg s q + f : Nat) : Int)) (zI ((zbg s q + zRL s q : Nat) : Int))) (fun r => r.2 = zI (zwl (zRL s) rs rise q f) ∧ pcR (fun i => rs q (f + i)) (zwl (zRL s) rs rise q f) r.1 ∧ zP (fun a _ => a == 15) M r.1) := by
  have hrl := hk.1 q
  have hb := zbg240 hs hq
  have hm : zmost (zRL s) q f = min 7 (zRL s q - f) := rfl
  unfold f_X12_length
  rw [zk_bind]
  refine zOk_loop (fun x => zP (fun a _ => a == 15) M x.1 ∧ ∃ n on : Nat, n ≤ zmost (zRL s) q f ∧ on ≤ 1 ∧ x.2.1 = zI n ∧ x.2.2.1 = zI ((on : Nat) : Int) ∧ pcR (fun i => rs q (f + i)) n x.1 ∧ (∀ j, 2 ≤ j → j < n → ¬ zwp (zRL s) rs rise q f j) ∧ (1 ≤ n → x.2.2.2 = zI (znx (zRL s) rs (fun i => rs q (f + i)) n)) ∧ (on = 1 → n < zmost (zRL s) q f ∧ (2 ≤ n → ¬ zwp (zRL s) rs rise q f n)) ∧ (on = 0 → 1 ≤ n ∧ (n = zmost (zRL s) q f ∨ 2 ≤ n ∧ zwp (zRL s) rs rise q f n))) (fun x => 20 - x.2.1.toInt.toNat * 2 + x.2.2.1.toInt.toNat) ?_ _ _ (Nat.le_refl _) ⟨zP_rf, 0, 1, by omega, by omega, rfl, rfl, fun i hi => absurd hi (Nat.not_lt_zero i), fun j h1 h2 => by omega, fun h => by omega, fun _ => ⟨by omega, fun h => by omega⟩, fun h => by omega⟩
  rintro ⟨x1, x2, x3, x4⟩ ⟨e1, n, on, e2, e3, e4, e5, e6, e7, e8, e9, e10⟩
  dsimp only at e1 e4 e5 e6 e8
  unfold f_X12_length_L8
  dsimp only
  rw [e5]
  by_cases ho : on = 0
  · rw [if_pos (by rw [ho]; rfl), zk_some, zlp_r, zk_some, e4]
    obtain ⟨f1, f2⟩ := e10 ho
    have := zwl_of f1 e2 e7 f2
    rw [this]
    exact ⟨rfl, e6, e1⟩
  · have ho1 : on = 1 := by omega
    obtain ⟨f1, f2⟩ := e9 ho1
    subst ho1
    have hv := hk.2 q (f + n) (by omega)
    rw [if_neg (by decide), e4, zI_add, zI_inI (by omega) (by omega) (by omega), zI_inI (by omega) (by omega) (by omega), zb_chk, zb_chk, zI_ix (by omega) (by omega), zI_ix (by omega) (by omega), Int.toNat_natCast, show (((zbg s q + f : Nat) : Int) + n).toNat = zbg s q + (f + n) by omega, e1.1 14 _ rfl, h.2.2 q _ hq (by omega), zk_bnd, zk_bnd, zI_add, show ((n : Int) + 1) = ((n + 1 : Nat) : Int) by omega]
    have g1 : zP (fun a _ => a == 15) M (zstI x1 15 n (zI (rs q (f + n)))) := zP_I e1 rfl
    have g2 : pcR (fun i => rs q (f + i)) (n + 1) (zstI x1 15 n (zI (rs q (f + n)))) := by
      intro i hi
      rw [zm_I]
      split
      · next e => rw [e.2]
      · exact e6 i (by omega)
    generalize zstI x1 15 n (zI (rs q (f + n))) = M2 at g1 g2 ⊢
    have hx : rowsH s rs M2 := ⟨by rw [g1.1 0 23 rfl]; exact h.1, fun q hq => by rw [g1.1 13 _ rfl]; exact h.2.1 q hq, fun q k hq hk => by rw [g1.1 14 _ rfl]; exact h.2.2 q k hq hk⟩
    rw [r_nextOf hs hk hx (by omega) (by omega) g2 (fun i hi => hk.2 q _ (by omega)), zb_some]
    have b1 := znx_le (zRL s) rs (fun i => rs q (f + i)) n
    have b2 := znx_le (zRL s) rs (fun i => rs q (f + i)) (n + 1)
    have hzw : zwp (zRL s) rs rise q f (n + 1) ↔ znx (zRL s) rs (fun i => rs q (f + i)) n < znx (zRL s) rs (fun i => rs q (f + i)) (n + 1) ∧ rise ≤ znx (zRL s) rs (fun i => rs q (f + i)) (n + 1) := Iff.rfl
    have e7' : ∀ j, 2 ≤ j → j < n + 1 → ¬ zwp (zRL s) rs rise q f j := by
      intro j j1 j2
      by_cases he : j = n
      · rw [he]; exact f2 (by omega)
      · exact e7 j j1 (by omega)
    -- the new state
    have key : ∀ on' : Nat, on' ≤ 1 → (on' = 1 → n + 1 < zmost (zRL s) q f ∧ (2 ≤ n + 1 → ¬ zwp (zRL s) rs rise q f (n + 1))) → (on' = 0 → 1 ≤ n + 1 ∧ (n + 1 = zmost (zRL s) q f ∨ 2 ≤ n + 1 ∧ zwp (zRL s) rs rise q f (n + 1))) → zOk (some (.inl (M2, zI ((n + 1 : Nat) : Int), zI ((on' : Nat) : Int), zI (znx (zRL s) rs (fun i => rs q (f + i)) (n + 1)))) : Option ((ZMem × Int32 × Int32 × Int32) ⊕ (ZMem × Int32))) (zlp (fun s' => (zP (fun a _ => a == 15) M s'.1 ∧ ∃ n on : Nat, n ≤ zmost (zRL s) q f ∧ on ≤ 1 ∧ s'.2.1 = zI n ∧ s'.2.2.1 = zI ((on : Nat) : Int) ∧ pcR (fun i => rs q (f + i)) n s'.1 ∧ (∀ j, 2 ≤ j → j < n → ¬ zwp (zRL s) rs rise q f j) ∧ (1 ≤ n → s'.2.2.2 = zI (znx (zRL s) rs (fun i => rs q (f + i)) n)) ∧ (on = 1 → n < zmost (zRL s) q f ∧ (2 ≤ n → ¬ zwp (zRL s) rs rise q f n)) ∧ (on = 0 → 1 ≤ n ∧ (n = zmost (zRL s) q f ∨ 2 ≤ n ∧ zwp (zRL s) rs rise q f n))) ∧ 20 - s'.2.1.toInt.toNat * 2 + s'.2.2.1.toInt.toNat < 20 - (zI (n : Int)).toInt.toNat * 2 + (zI ((1 : Nat) : Int)).toInt.toNat) (fun a => zOk (some (a.1, a.2)) (fun r => r.2 = zI (zwl (zRL s) rs rise q f) ∧ pcR (fun i => rs q (f + i)) (zwl (zRL s) rs rise q f) r.1 ∧ zP (fun a _ => a == 15) M r.1))) := by
      intro on' h1 h2 h3
      rw [zk_some, zlp_l]
      refine ⟨⟨g1, n + 1, on', by omega, h1, rfl, rfl, g2, e7', fun _ => rfl, h2, h3⟩, ?_⟩
      dsimp only
      rw [zI_toInt (by omega) (by omega), zI_toInt (by omega) (by omega), zI_toInt (by omega) (by omega), zI_toInt (by omega) (by omega)]
      omega
    have hr2 : M2.1 9 (zix (zI 2)) = zI rise := (g1.1 9 2 rfl).trans hr
    rw [zI_add]
    by_cases c1 : zRL s q ≤ f + (n + 1)
    · rw [if_pos (by simp (disch := omega) only [zk_bind, zk_chk, zk_bnd, zk_some, zlp_l, zlp_r, zb_some, zb_bnd, zI_add, zI_sub, zI_mul, zI_neg, zI_le, zI_lt, zI_eq, zI_ix, zI_inI, Int.toNat_natCast, Int.toNat_add, Int.toNat_mul, true_and, and_true]; omega)]
      exact key 0 (by omega) (by omega) (fun _ => ⟨by omega, Or.inl (by omega)⟩)
    · rw [if_neg (by simp (disch := omega) only [zk_bind, zk_chk, zk_bnd, zk_some, zlp_l, zlp_r, zb_some, zb_bnd, zI_add, zI_sub, zI_mul, zI_neg, zI_le, zI_lt, zI_eq, zI_ix, zI_inI, Int.toNat_natCast, Int.toNat_add, Int.toNat_mul, true_and, and_true]; omega)]
      by_cases c2 : 7 ≤ n + 1
      · rw [if_pos (by simp (disch := omega) only [zk_bind, zk_chk, zk_bnd, zk_some, zlp_l, zlp_r, zb_some, zb_bnd, zI_add, zI_sub, zI_mul, zI_neg, zI_le, zI_lt, zI_eq, zI_ix, zI_inI, Int.toNat_natCast, Int.toNat_add, Int.toNat_mul, true_and, and_true]; omega)]
        exact key 0 (by omega) (by omega) (fun _ => ⟨by omega, Or.inl (by omega)⟩)
      · rw [if_neg (by simp (disch := omega) only [zk_bind, zk_chk, zk_bnd, zk_some, zlp_l, zlp_r, zb_some, zb_bnd, zI_add, zI_sub, zI_mul, zI_neg, zI_le, zI_lt, zI_eq, zI_ix, zI_inI, Int.toNat_natCast, Int.toNat_add, Int.toNat_mul, true_and, and_true]; omega)]
        by_cases c3 : n + 1 < 2
        · rw [if_pos (by simp (disch := omega) only [zk_bind, zk_chk, zk_bnd, zk_some, zlp_l, zlp_r, zb_some, zb_bnd, zI_add, zI_sub, zI_mul, zI_neg, zI_le, zI_lt, zI_eq, zI_ix, zI_inI, Int.toNat_natCast, Int.toNat_add, Int.toNat_mul, true_and, and_true]; omega)]
          exact key 1 (by omega) (fun _ => ⟨by omega, by omega⟩) (by omega)
        · rw [if_neg (by simp (disch := omega) only [zk_bind, zk_chk, zk_bnd, zk_some, zlp_l, zlp_r, zb_some, zb_bnd, zI_add, zI_sub, zI_mul, zI_neg, zI_le, zI_lt, zI_eq, zI_ix, zI_inI, Int.toNat_natCast, Int.toNat_add, Int.toNat_mul, true_and, and_true]; omega), e8 (by omega)]
          by_cases c4 : znx (zRL s) rs (fun i => rs q (f + i)) (n + 1) ≤ znx (zRL s) rs (fun i => rs q (f + i)) n
          · rw [if_pos (by simp (disch := omega) only [zk_bind, zk_chk, zk_bnd, zk_some, zlp_l, zlp_r, zb_some, zb_bnd, zI_add, zI_sub, zI_mul, zI_neg, zI_le, zI_lt, zI_eq, zI_ix, zI_inI, Int.toNat_natCast, Int.toNat_add, Int.toNat_mul, true_and, and_true]; omega)]
            exact key 1 (by omega) (fun _ => ⟨by omega, fun _ => by rw [hzw]; omega⟩) (by omega)
          · rw [if_neg (by simp (disch := omega) only [zk_bind, zk_chk, zk_bnd, zk_some, zlp_l, zlp_r, zb_some, zb_bnd, zI_add, zI_sub, zI_mul, zI_neg, zI_le, zI_lt, zI_eq, zI_ix, zI_inI, Int.toNat_natCast, Int.toNat_add, Int.toNat_mul, true_and, and_true]; omega), hr2]
            by_cases c5 : rise ≤ znx (zRL s) rs (fun i => rs q (f + i)) (n + 1)
            · rw [if_pos (by simp (disch := omega) only [zk_bind, zk_chk, zk_bnd, zk_some, zlp_l, zlp_r, zb_some, zb_bnd, zI_add, zI_sub, zI_mul, zI_neg, zI_le, zI_lt, zI_eq, zI_ix, zI_inI, Int.toNat_natCast, Int.toNat_add, Int.toNat_mul, true_and, and_true]; omega)]
              exact key 0 (by omega) (by omega) (fun _ => ⟨by omega, Or.inr ⟨by omega, hzw.mpr (by omega)⟩⟩)
            · rw [if_neg (by simp (disch := omega) only [zk_bind, zk_chk, zk_bnd, zk_some, zlp_l, zlp_r, zb_some, zb_bnd, zI_add, zI_sub, zI_mul, zI_neg, zI_le, zI_lt, zI_eq, zI_ix, zI_inI, Int.toNat_natCast, Int.toNat_add, Int.toNat_mul, true_and, and_true]; omega)]
              exact key 1 (by omega) (fun _ => ⟨by omega, fun _ => by rw [hzw]; omega⟩) (by omega)
