/-! ===== clues, guesses, undoing ===== deps: 97.zl.tell -/
def zct1 (h : Nat → Int) (a b f : Int) (i : Nat) : Prop := ((h (424 + 3 * i) = a ∧ h (425 + 3 * i) = b) ∨ (h (424 + 3 * i) = b ∧ h (425 + 3 * i) = a)) ∧ h (426 + 3 * i) = f
def zct (h : Nat → Int) (a b f : Int) : Prop := ∃ i : Nat, (i : Int) < h 3 ∧ zct1 h a b f i
theorem zb_sel2 {α : Type} {p q : Prop} {i1 : Decidable p} {i2 : Decidable q} (f : Int32 → α) : @ite _ p i1 (@ite _ q i2 (f (zI 1)) (f (zI 0))) (f (zI 0)) = f (zI (zb (p ∧ q) : Int)) := by
  by_cases hp : p
  · rw [if_pos hp]
    by_cases hq : q
    · rw [if_pos hq, zb_t ⟨hp, hq⟩]; rfl
    · rw [if_neg hq, zb_f (fun hh => hq hh.2)]; rfl
  · rw [if_neg hp, zb_f (fun hh => hp hh.1)]; rfl
theorem c_clueIsTold {M : ZMem} {F : Nat} {h : Nat → Int} (hF : F ≤ 20) (hk : okH F h) (hc : clueC h M) {a b f : Int} (ha : 0 ≤ a ∧ a < 20) (hb : 0 ≤ b ∧ b < 20) (hf : 0 ≤ f ∧ f ≤ 1) : f_X1_clueIsTold M (zI a) (zI b) (zI f) = some (zI (zb (zct h a b f))) := by
  obtain ⟨n, hn⟩ := Int.eq_ofNat_of_zero_le hk.2.2.2.1.1
  have hn12 : n ≤ 12 := by have := hk.2.2.2.1.2; omega
  have e9 := hc.1
  rw [hn] at e9
  have step : ∀ i : Nat, i < n → (zct1 h a b f i → f_X1_clueIsTold_L3 M (zI a) (zI b) (zI f) (zI i) = some (.inr (.inr (zI 1)))) ∧ (¬ zct1 h a b f i → f_X1_clueIsTold_L3 M (zI a) (zI b) (zI f) (zI i) = some (.inl (zI ((i + 1 : Nat) : Int)))) := by
    intro i hi
    obtain ⟨g1, g2, g3⟩ := hk.2.2.2.2.2.2 i (by omega)
    obtain ⟨c1, c2, c3⟩ := hc.2.1 i (by omega)
    have e68 : ∀ S T : Prop, ((S ∨ T) ∧ h (426 + 3 * i) = f → f_X1_clueIsTold_68_L3 M (zI a) (zI b) (zI f) (zI i) (zI (zb S)) (zI (zb T)) = some (.inr (.inr (zI 1)))) ∧ (¬ ((S ∨ T) ∧ h (426 + 3 * i) = f) → f_X1_clueIsTold_68_L3 M (zI a) (zI b) (zI f) (zI i) (zI (zb S)) (zI (zb T)) = some (.inl (zI ((i + 1 : Nat) : Int)))) := by
      intro S T
      unfold f_X1_clueIsTold_68_L3
      rw [zI_inI (by omega) (by omega) (by omega), zb_chk, zI_ix (by omega) (by omega), Int.toNat_natCast, c3, zI_add]
      refine ⟨fun hh => ?_, fun hh => ?_⟩
      · rw [if_pos (by rw [hh.2])]
        by_cases hS : S
        · rw [if_neg (fun h0 => zb_0.mp h0 hS)]
        · rw [if_pos (zb_0.mpr hS), if_neg (fun h0 => zb_0.mp h0 (hh.1.resolve_left hS))]
      · by_cases d5 : h (426 + 3 * i) = f
        · rw [if_pos (by rw [d5]), if_pos (zb_0.mpr (fun hS => hh ⟨Or.inl hS, d5⟩)), if_pos (zb_0.mpr (fun hS => hh ⟨Or.inr hS, d5⟩))]
          rfl
        · rw [if_neg (by simp (disch := omega) only [zk_bind, zk_chk, zk_bnd, zk_some, zlp_l, zlp_r, zb_some, zb_bnd, zI_add, zI_sub, zI_mul, zI_neg, zI_le, zI_lt, zI_eq, zI_ix, zI_inI, Int.toNat_natCast, Int.toNat_add, Int.toNat_mul, true_and, and_true]; omega)]
          rfl
    have key : f_X1_clueIsTold_L3 M (zI a) (zI b) (zI f) (zI i) = f_X1_clueIsTold_68_L3 M (zI a) (zI b) (zI f) (zI i) (zI (zb (h (424 + 3 * i) = a ∧ h (425 + 3 * i) = b))) (zI (zb (h (424 + 3 * i) = b ∧ h (425 + 3 * i) = a))) := by
      unfold f_X1_clueIsTold_L3 f_X1_clueIsTold_38_L3
      rw [e9, if_neg (by simp (disch := omega) only [zk_bind, zk_chk, zk_bnd, zk_some, zlp_l, zlp_r, zb_some, zb_bnd, zI_add, zI_sub, zI_mul, zI_neg, zI_le, zI_lt, zI_eq, zI_ix, zI_inI, Int.toNat_natCast, Int.toNat_add, Int.toNat_mul, true_and, and_true]; omega), zI_inI (by omega) (by omega) (by omega), zb_chk, zb_chk, zI_ix (by omega) (by omega), Int.toNat_natCast, c1, c2, zb_sel2 (fun v => f_X1_clueIsTold_39_L3 M (zI a) (zI b) (zI f) (zI i) v)]
      unfold f_X1_clueIsTold_39_L3 f_X1_clueIsTold_67_L3
      rw [zI_inI (by omega) (by omega) (by omega), zb_chk, zb_chk, zI_ix (by omega) (by omega), Int.toNat_natCast, c1, c2, zb_sel2 (fun v => f_X1_clueIsTold_68_L3 M (zI a) (zI b) (zI f) (zI i) (zI (zb (zI (h (424 + 3 * i)) = zI a ∧ zI (h (425 + 3 * i)) = zI b))) v), zI_eq (by omega) (by omega) (by omega) (by omega), zI_eq (by omega) (by omega) (by omega) (by omega), zI_eq (by omega) (by omega) (by omega) (by omega), zI_eq (by omega) (by omega) (by omega) (by omega)]
    rw [key]
    exact e68 _ _
  unfold f_X1_clueIsTold
  refine zOk_is ?_
  rw [zk_bind]
  refine zOk_forQ (fun i s => s = zI i ∧ ∀ t, t < i → ¬ zct1 h a b f t) n ?_ ?_ ⟨rfl, fun t ht => absurd ht (Nat.not_lt_zero t)⟩
  · rintro i s hi ⟨rfl, e2⟩ Q hQ hE
    by_cases hz : zct1 h a b f i
    · rw [(step i hi).1 hz, zk_some]
      refine hE _ ?_
      show zOk (some (zI 1)) _
      rw [zk_some, zb_t ⟨i, by omega, hz⟩]
      rfl
    · rw [(step i hi).2 hz, zk_some]
      refine hQ _ ⟨rfl, fun t ht => ?_⟩
      by_cases hti : t = i
      · rw [hti]; exact hz
      · exact e2 t (by omega)
  · rintro s ⟨rfl, e2⟩
    refine ⟨.inl (), ?_, ?_⟩
    · unfold f_X1_clueIsTold_L3
      rw [e9, if_pos (by simp (disch := omega) only [zk_bind, zk_chk, zk_bnd, zk_some, zlp_l, zlp_r, zb_some, zb_bnd, zI_add, zI_sub, zI_mul, zI_neg, zI_le, zI_lt, zI_eq, zI_ix, zI_inI, Int.toNat_natCast, Int.toNat_add, Int.toNat_mul, true_and, and_true]; omega)]
    · show zOk (some (zI 0)) _
      rw [zk_some, zb_f (fun ⟨t, h1, h2⟩ => e2 t (by omega) h2)]
      rfl
theorem r_isClueTold {M : ZMem} {F : Nat} {h : Nat → Int} (hF : F ≤ 20) (hk : okH F h) (hc : handR h M) {a b f : Int} (ha : 0 ≤ a ∧ a < 20) (hb : 0 ≤ b ∧ b < 20) (hf : 0 ≤ f ∧ f ≤ 1) : f_X12_isClueTold M (zI a) (zI b) (zI f) = some (zI (zb (zct h a b f))) := by
  obtain ⟨n, hn⟩ := Int.eq_ofNat_of_zero_le hk.2.2.2.1.1
  have hn12 : n ≤ 12 := by have := hk.2.2.2.1.2; omega
  have e9 : M.1 9 (zix (zI 3)) = zI n := by rw [show zix (zI 3) = 3 by decide, hc 3 (by omega), hn]
  have tr : f_X12_truth M (zI f) = some (zI f) := by
    rw [r_truth]
    by_cases h0 : f = 0
    · rw [h0]; rfl
    · rw [if_neg (by simp (disch := omega) only [zk_bind, zk_chk, zk_bnd, zk_some, zlp_l, zlp_r, zb_some, zb_bnd, zI_add, zI_sub, zI_mul, zI_neg, zI_le, zI_lt, zI_eq, zI_ix, zI_inI, Int.toNat_natCast, Int.toNat_add, Int.toNat_mul, true_and, and_true]; omega), show f = 1 by omega]
  have step : ∀ i : Nat, i < n → (zct1 h a b f i → f_X12_isClueTold_L3 M (zI a) (zI b) (zI f) (zI i) = some (.inr (.inr (zI 1)))) ∧ (¬ zct1 h a b f i → f_X12_isClueTold_L3 M (zI a) (zI b) (zI f) (zI i) = some (.inl (zI ((i + 1 : Nat) : Int)))) := by
    intro i hi
    obtain ⟨g1, g2, g3⟩ := hk.2.2.2.2.2.2 i (by omega)
    have c1 := hc (424 + 3 * i) (by omega)
    have c2 := hc (425 + 3 * i) (by omega)
    have c3 := hc (426 + 3 * i) (by omega)
    have i1 : ((424 : Int) + 3 * (i : Int)).toNat = 424 + 3 * i := by omega
    have i2 : ((424 : Int) + 3 * (i : Int) + 1).toNat = 425 + 3 * i := by omega
    have i3 : ((424 : Int) + 3 * (i : Int) + 2).toNat = 426 + 3 * i := by omega
    have e77 : ∀ S : Prop, (S ∧ h (426 + 3 * i) = f → f_X12_isClueTold_77_L3 M (zI a) (zI b) (zI f) (zI i) (zI (424 + 3 * (i : Int))) (zI (zb S)) = some (.inr (.inr (zI 1)))) ∧ (¬ (S ∧ h (426 + 3 * i) = f) → f_X12_isClueTold_77_L3 M (zI a) (zI b) (zI f) (zI i) (zI (424 + 3 * (i : Int))) (zI (zb S)) = some (.inl (zI ((i + 1 : Nat) : Int)))) := by
      intro S
      unfold f_X12_isClueTold_77_L3
      rw [zI_add, zI_add, zI_inI (by omega) (by omega) (by omega), zb_chk, zI_ix (by omega) (by omega), i3, c3, tr, zb_some]
      refine ⟨fun hh => ?_, fun hh => ?_⟩
      · rw [if_neg (fun h0 => zb_0.mp h0 hh.1), if_pos (by rw [hh.2])]
      · by_cases hS : S
        · rw [if_neg (fun h0 => zb_0.mp h0 hS), if_neg (by rw [zI_eq (by omega) (by omega) (by omega) (by omega)]; exact fun d5 => hh ⟨hS, d5⟩)]
          rfl
        · rw [if_pos (zb_0.mpr hS)]
          rfl
    have key : f_X12_isClueTold_L3 M (zI a) (zI b) (zI f) (zI i) = f_X12_isClueTold_77_L3 M (zI a) (zI b) (zI f) (zI i) (zI (424 + 3 * (i : Int))) (zI (zb ((h (424 + 3 * i) = a ∧ h (425 + 3 * i) = b) ∨ (h (424 + 3 * i) = b ∧ h (425 + 3 * i) = a)))) := by
      unfold f_X12_isClueTold_L3
      rw [e9, if_neg (by simp (disch := omega) only [zk_bind, zk_chk, zk_bnd, zk_some, zlp_l, zlp_r, zb_some, zb_bnd, zI_add, zI_sub, zI_mul, zI_neg, zI_le, zI_lt, zI_eq, zI_ix, zI_inI, Int.toNat_natCast, Int.toNat_add, Int.toNat_mul, true_and, and_true]; omega), zI_mul, zI_add, zb_bnd, zI_inI (by omega) (by omega) (by omega), zb_chk, zI_add, zI_inI (by omega) (by omega) (by omega), zb_chk, zI_ix (by omega) (by omega), zI_ix (by omega) (by omega), i1, i2, c1, c2]
      have e48 : f_X12_isClueTold_48_L3 M (zI a) (zI b) (zI f) (zI i) (zI (424 + 3 * (i : Int))) = f_X12_isClueTold_77_L3 M (zI a) (zI b) (zI f) (zI i) (zI (424 + 3 * (i : Int))) (zI (zb (h (424 + 3 * i) = b ∧ h (425 + 3 * i) = a))) := by
        unfold f_X12_isClueTold_48_L3 f_X12_isClueTold_72_L3 f_X12_isClueTold_76_L3
        rw [zI_inI (by omega) (by omega) (by omega), zb_chk, zI_add, zI_inI (by omega) (by omega) (by omega), zb_chk, zI_ix (by omega) (by omega), zI_ix (by omega) (by omega), i1, i2, c1, c2, zb_sel2 (fun v => f_X12_isClueTold_77_L3 M (zI a) (zI b) (zI f) (zI i) (zI (424 + 3 * (i : Int))) v), zI_eq (by omega) (by omega) (by omega) (by omega), zI_eq (by omega) (by omega) (by omega) (by omega)]
      rw [e48]
      by_cases d1 : h (424 + 3 * i) = a
      · rw [if_pos (by rw [d1])]
        by_cases d2 : h (425 + 3 * i) = b
        · rw [if_pos (by rw [d2]), zb_t (Or.inl ⟨d1, d2⟩)]
          rfl
        · rw [if_neg (by simp (disch := omega) only [zk_bind, zk_chk, zk_bnd, zk_some, zlp_l, zlp_r, zb_some, zb_bnd, zI_add, zI_sub, zI_mul, zI_neg, zI_le, zI_lt, zI_eq, zI_ix, zI_inI, Int.toNat_natCast, Int.toNat_add, Int.toNat_mul, true_and, and_true]; omega), zb_iff (q := (h (424 + 3 * i) = a ∧ h (425 + 3 * i) = b) ∨ (h (424 + 3 * i) = b ∧ h (425 + 3 * i) = a)) ⟨Or.inr, fun hh => hh.resolve_left (fun hh => d2 hh.2)⟩]
      · rw [if_neg (by simp (disch := omega) only [zk_bind, zk_chk, zk_bnd, zk_some, zlp_l, zlp_r, zb_some, zb_bnd, zI_add, zI_sub, zI_mul, zI_neg, zI_le, zI_lt, zI_eq, zI_ix, zI_inI, Int.toNat_natCast, Int.toNat_add, Int.toNat_mul, true_and, and_true]; omega), zb_iff (q := (h (424 + 3 * i) = a ∧ h (425 + 3 * i) = b) ∨ (h (424 + 3 * i) = b ∧ h (425 + 3 * i) = a)) ⟨Or.inr, fun hh => hh.resolve_left (fun hh => d1 hh.1)⟩]
    rw [key]
    exact e77 _
  unfold f_X12_isClueTold
  refine zOk_is ?_
  rw [zk_bind]
  refine zOk_forQ (fun i s => s = zI i ∧ ∀ t, t < i → ¬ zct1 h a b f t) n ?_ ?_ ⟨rfl, fun t ht => absurd ht (Nat.not_lt_zero t)⟩
  · rintro i s hi ⟨rfl, e2⟩ Q hQ hE
    by_cases hz : zct1 h a b f i
    · rw [(step i hi).1 hz, zk_some]
      refine hE _ ?_
      show zOk (some (zI 1)) _
      rw [zk_some, zb_t ⟨i, by omega, hz⟩]
      rfl
    · rw [(step i hi).2 hz, zk_some]
      refine hQ _ ⟨rfl, fun t ht => ?_⟩
      by_cases hti : t = i
      · rw [hti]; exact hz
      · exact e2 t (by omega)
  · rintro s ⟨rfl, e2⟩
    refine ⟨.inl (), ?_, ?_⟩
    · unfold f_X12_isClueTold_L3
      rw [e9, if_pos (by simp (disch := omega) only [zk_bind, zk_chk, zk_bnd, zk_some, zlp_l, zlp_r, zb_some, zb_bnd, zI_add, zI_sub, zI_mul, zI_neg, zI_le, zI_lt, zI_eq, zI_ix, zI_inI, Int.toNat_natCast, Int.toNat_add, Int.toNat_mul, true_and, and_true]; omega)]
    · show zOk (some (zI 0)) _
      rw [zk_some, zb_f (fun ⟨t, h1, h2⟩ => e2 t (by omega) h2)]
      rfl
/-- a clue more -/
def zhc (h : Nat → Int) (n : Nat) (a b f : Int) : Nat → Int := fun i => if i = 3 then (n : Int) + 1 else if i = 426 + 3 * n then f else if i = 425 + 3 * n then b else if i = 424 + 3 * n then a else h i
theorem zhc_o {h : Nat → Int} {n : Nat} {a b f : Int} {i : Nat} (h3 : i ≠ 3) (h4 : i ≠ 424 + 3 * n) (h5 : i ≠ 425 + 3 * n) (h6 : i ≠ 426 + 3 * n) : zhc h n a b f i = h i := by
  unfold zhc
  rw [if_neg h3, if_neg h6, if_neg h5, if_neg h4]
theorem zhc_3 {h : Nat → Int} {n : Nat} {a b f : Int} : zhc h n a b f 3 = n + 1 := if_pos rfl
theorem zhc_n {h : Nat → Int} {n : Nat} {a b f : Int} : zhc h n a b f (424 + 3 * n) = a ∧ zhc h n a b f (425 + 3 * n) = b ∧ zhc h n a b f (426 + 3 * n) = f := by
  unfold zhc
  refine ⟨?_, ?_, ?_⟩
  · rw [if_neg (by omega), if_neg (by omega), if_neg (by omega), if_pos rfl]
  · rw [if_neg (by omega), if_neg (by omega), if_pos rfl]
  · rw [if_neg (by omega), if_pos rfl]
theorem zhc_k {h : Nat → Int} {n : Nat} {a b f : Int} {k : Nat} (hk : k < n) : zhc h n a b f (424 + 3 * k) = h (424 + 3 * k) ∧ zhc h n a b f (425 + 3 * k) = h (425 + 3 * k) ∧ zhc h n a b f (426 + 3 * k) = h (426 + 3 * k) := ⟨zhc_o (by omega) (by omega) (by omega) (by omega), zhc_o (by omega) (by omega) (by omega) (by omega), zhc_o (by omega) (by omega) (by omega) (by omega)⟩
theorem okH_clue {F n : Nat} {h : Nat → Int} {a b f : Int} (hk : okH F h) (hn : h 3 = n) (hn12 : n < 12) (ha : 0 ≤ a ∧ a < F) (hb : 0 ≤ b ∧ b < F) (hf : 0 ≤ f ∧ f ≤ 1) : okH F (zhc h n a b f) := by
  obtain ⟨h0, h1, h2, h3, h4, h5, h6⟩ := hk
  refine ⟨?_, ?_, ?_, ?_, fun f hf => ?_, fun k hk => ?_, fun k hk => ?_⟩
  · rw [zhc_o (by omega) (by omega) (by omega) (by omega)]; exact h0
  · rw [zhc_o (by omega) (by omega) (by omega) (by omega)]; exact h1
  · rw [zhc_o (by omega) (by omega) (by omega) (by omega)]; exact h2
  · rw [zhc_3]; omega
  · by_cases h43 : 4 + f = 3
    · omega
    · rw [zhc_o (by omega) (by omega) (by omega) (by omega)]; exact h4 f hf
  · rw [zhc_o (by omega) (by omega) (by omega) (by omega)]; exact h5 k hk
  · rw [zhc_3] at hk
    by_cases hkn : k = n
    · rw [hkn, zhc_n.1, zhc_n.2.1, zhc_n.2.2]
      exact ⟨ha, hb, hf⟩
    · have := zhc_k (h := h) (a := a) (b := b) (f := f) (show k < n by omega)
      rw [this.1, this.2.1, this.2.2]
      exact h6 k (by omega)
def zWcl (a k : Nat) : Bool := zWnt a k || a == 23 || a == 24 || a == 25 || (a == 20 && k == 9)
theorem c_tellClue {σ : ZT} {C : ZMem} (ho : okT σ) (hc : relC σ C) {n : Nat} (hn : gh σ 3 = n) (hn12 : n < 12) {a b f : Int} (ha : 0 ≤ a ∧ a < gF σ) (hb : 0 ≤ b ∧ b < gF σ) (hf : 0 ≤ f ∧ f ≤ 1) (hnt : ¬ zct (gh σ) a b f) : zOk (f_X1_tellClue C (zI a) (zI b) (zI f)) (fun r => r.2 = zI ((n : Int) + 1) ∧ clueC (zhc (gh σ) n a b f) r.1 ∧ actsC (zPn (gP σ)) (zHn (gP σ) (gH σ) (zhc (gh σ) n a b f)) r.1 ∧ zP zWcl C r.1) := by
  have hF := ho.2.1
  have hk := okT_hk ho
  have hcl := hc.2.1.2.2.2.1
  have e9 := hcl.1
  rw [hn] at e9
  have hu : zund 4 0 0 (zhc (gh σ) n a b f) (gh σ) := Or.inr (Or.inr (Or.inl ⟨rfl, by rw [zhc_3, hn]; omega, by rw [zhc_3]; omega, fun j hj hj3 => by rw [zhc_o hj3 (by omega) (by omega) (by omega)], fun j hj => by
    have := zhc_k (h := gh σ) (a := a) (b := b) (f := f) (show j < n by omega)
    exact ⟨this.1.symm, this.2.1.symm, this.2.2.symm⟩⟩))
  unfold f_X1_tellClue
  rw [e9, if_neg (by simp (disch := omega) only [zk_bind, zk_chk, zk_bnd, zk_some, zlp_l, zlp_r, zb_some, zb_bnd, zI_add, zI_sub, zI_mul, zI_neg, zI_le, zI_lt, zI_eq, zI_ix, zI_inI, Int.toNat_natCast, Int.toNat_add, Int.toNat_mul, true_and, and_true]; omega), c_clueIsTold hF hk hcl ⟨ha.1, by omega⟩ ⟨hb.1, by omega⟩ hf, zb_some, if_pos (zb_0.mpr hnt), zk_bind]
  refine zOk_mono (c_note (P := gP σ) (H := gH σ) ho.2.2.2.2.1 hc.2.2.2.1 hu) (fun M1 k1 => ?_)
  have m9 : M1.1 20 9 = zI n := by rw [k1.2.1 20 9 rfl, e9]
  have hbl : vp_nar .boolean (zI f) = zI f := by
    rcases (show f = 0 ∨ f = 1 by omega) with rfl | rfl <;> decide
  rw [hbl]
  simp (disch := omega) only [zk_chk, zk_bnd, zk_some, zm_Iq, m9, zI_ix, zI_inI, Int.toNat_natCast, true_and, zI_add, zm_Is]
  refine ⟨⟨?_, fun k hk => ?_, fun g hg => ?_, ?_⟩, ?_, zP_I (zP_I (zP_I (zP_I (zP_mono k1.2 (fun a k ha => ?_)) rfl) rfl) rfl) rfl⟩
  · rw [zm_Is, zhc_3]
  · rw [zhc_3] at hk
    have w : ∀ q, q ≠ 20 → (zstI (zstI (zstI (zstI M1 23 n (zI a)) 24 n (zI b)) 25 n (zI f)) 20 9 (zI ((n : Int) + 1))).1 q = (zstI (zstI (zstI M1 23 n (zI a)) 24 n (zI b)) 25 n (zI f)).1 q := fun q hq => zm_Iq _ _ _ _ hq
    rw [w 23 (by decide), w 24 (by decide), w 25 (by decide)]
    by_cases hkn : k = n
    · rw [hkn, zhc_n.1, zhc_n.2.1, zhc_n.2.2]
      refine ⟨?_, ?_, zm_Is _ _ _ _⟩
      · rw [zm_Iq _ _ _ _ (by decide), zm_Iq _ _ _ _ (by decide), zm_Is]
      · rw [zm_Iq _ _ _ _ (by decide), zm_Is]
    · have := zhc_k (h := gh σ) (a := a) (b := b) (f := f) (show k < n by omega)
      have old := hcl.2.1 k (by omega)
      rw [this.1, this.2.1, this.2.2]
      refine ⟨?_, ?_, ?_⟩
      · rw [zm_Iq _ _ _ _ (by decide), zm_Iq _ _ _ _ (by decide), zm_In _ _ _ _ hkn, k1.2.1 23 k rfl]
        exact old.1
      · rw [zm_Iq _ _ _ _ (by decide), zm_In _ _ _ _ hkn, zm_Iq _ _ _ _ (by decide), k1.2.1 24 k rfl]
        exact old.2.1
      · rw [zm_In _ _ _ _ hkn, zm_Iq _ _ _ _ (by decide), zm_Iq _ _ _ _ (by decide), k1.2.1 25 k rfl]
        exact old.2.2
  · rw [zm_Iq _ _ _ _ (by decide), zm_Iq _ _ _ _ (by decide), zm_Iq _ _ _ _ (by decide), zm_Iq _ _ _ _ (by decide), k1.2.1 26 g rfl, zhc_o (by omega) (by omega) (by omega) (by omega)]
    exact hcl.2.2.1 g hg
  · rw [zm_In _ _ _ _ (by decide), zm_Iq _ _ _ _ (by decide), zm_Iq _ _ _ _ (by decide), zm_Iq _ _ _ _ (by decide), k1.2.1 20 10 rfl, hcl.2.2.2]
    unfold zguess
    rw [zsum_cg (fun g hg => by rw [← zhc_o (h := gh σ) (n := n) (a := a) (b := b) (f := f) (i := 4 + g) (by omega) (by omega) (by omega) (by omega)])]
  · exact actsC_x (by rw [zm_In _ _ _ _ (by decide), zm_Iq _ _ _ _ (by decide), zm_Iq _ _ _ _ (by decide), zm_Iq _ _ _ _ (by decide)]) (fun a k ha => by rw [zm_Iq _ _ _ _ (by omega), zm_Iq _ _ _ _ (by omega), zm_Iq _ _ _ _ (by omega), zm_Iq _ _ _ _ (by omega)]) k1.1
  · unfold zWcl at ha
    simp at ha ⊢
    exact ha.1.1.1.1
theorem zsame_clue {h : Nat → Int} {n : Nat} {a b f : Int} : zsame h (zhc h n a b f) := ⟨zhc_o (by omega) (by omega) (by omega) (by omega), zhc_o (by omega) (by omega) (by omega) (by omega), zhc_o (by omega) (by omega) (by omega) (by omega), fun k hk => zhc_o (by omega) (by omega) (by omega) (by omega)⟩
theorem zp_clue : zPr_clue zRel := by
  rintro M1 M2 a1 a2 a3 ⟨σ, ho, hc, hr⟩ h3
  obtain ⟨a, rfl, l1, u1⟩ := zI_of a1
  obtain ⟨b, rfl, l2, u2⟩ := zI_of a2
  obtain ⟨f, hf, rfl⟩ := zisB_c h3
  have hF := ho.2.1
  have hk := okT_hk ho
  obtain ⟨n, hn⟩ := Int.eq_ofNat_of_zero_le hk.2.2.2.1.1
  have hn12 : n ≤ 12 := by have := hk.2.2.2.1.2; omega
  unfold f_X11_clue f_X12_clue
  rw [zk_bind]
  refine zOk_mono (k_fs ho hc) (fun C hC => ?_)
  obtain ⟨hC, h13⟩ := hC
  have hs := (hC.2.2.2.2.2.2.1 h13).1
  rw [c_signOf hC.2.1.1.2.1 hF hs.1 l1 u1, c_signOf hC.2.1.1.2.1 hF hs.1 l2 u2, zb_some, zb_some, r_isForm hr.2.1.2.1 hF _ l1 u1, r_isForm hr.2.1.2.1 hF _ l2 u2, zb_some, zb_some]
  by_cases h1 : 0 ≤ a ∧ a < gF σ
  · by_cases h2 : 0 ≤ b ∧ b < gF σ
    · obtain ⟨a, rfl⟩ := Int.eq_ofNat_of_zero_le h1.1
      obtain ⟨b, rfl⟩ := Int.eq_ofNat_of_zero_le h2.1
      have sa := zsgl ho (show a < gF σ by omega)
      have sb := zsgl ho (show b < gF σ by omega)
      rw [if_pos h1, if_pos h2, Int.toNat_natCast, Int.toNat_natCast, if_neg (c := zI ((zsg (gF σ) (gf σ) (gh σ) a : Nat) : Int) = zI (-1)) (by simp (disch := omega) only [zk_bind, zk_chk, zk_bnd, zk_some, zlp_l, zlp_r, zb_some, zb_bnd, zI_add, zI_sub, zI_mul, zI_neg, zI_le, zI_lt, zI_eq, zI_ix, zI_inI, Int.toNat_natCast, Int.toNat_add, Int.toNat_mul, true_and, and_true]; omega), if_neg (c := zI ((zsg (gF σ) (gf σ) (gh σ) b : Nat) : Int) = zI (-1)) (by simp (disch := omega) only [zk_bind, zk_chk, zk_bnd, zk_some, zlp_l, zlp_r, zb_some, zb_bnd, zI_add, zI_sub, zI_mul, zI_neg, zI_le, zI_lt, zI_eq, zI_ix, zI_inI, Int.toNat_natCast, Int.toNat_add, Int.toNat_mul, true_and, and_true]; omega), if_neg (c := zI (zb (0 ≤ (a : Int) ∧ (a : Int) < (gF σ : Int)) : Int) = zI 0) (fun hh => zb_0.mp hh h1), if_neg (c := zI (zb (0 ≤ (b : Int) ∧ (b : Int) < (gF σ : Int)) : Int) = zI 0) (fun hh => zb_0.mp hh h2), zI_inI (n := 20) (by omega) (by omega) (by omega), zI_inI (n := 20) (by omega) (by omega) (by omega), zI_ix (by omega) (by omega), zI_ix (by omega) (by omega), Int.toNat_natCast, Int.toNat_natCast]
      have none : ∀ K : ZMem → Option (ZMem × Int32), (∀ R1, relR σ R1 → laidR (gF σ) (gf σ) (gs σ) (gh σ) R1 → K R1 = some (R1, zI (-1))) → zOk (some (C, zI (-1))) (fun r1 => zOk (zbind (f_X12_lays M2) K) (fun r2 => r1.2 = r2.2 ∧ zRel r1.1 r2.1)) := by
        intro K hK
        rw [zk_some, zk_bind]
        refine zOk_mono (k_ls ho hr) (fun R1 h' => ?_)
        rw [hK R1 h'.1 h'.2.2, zk_some]
        exact ⟨rfl, σ, ho, hC, h'.1⟩
      by_cases hss : zsg (gF σ) (gf σ) (gh σ) a = zsg (gF σ) (gf σ) (gh σ) b
      · rw [if_pos (by rw [hss])]
        refine none _ (fun R1 g1 g2 => ?_)
        rw [zb_chk, zb_chk, if_pos (by rw [g2.1.1 a (by omega), g2.1.1 b (by omega), hss])]
      · rw [if_neg (by simp (disch := omega) only [zk_bind, zk_chk, zk_bnd, zk_some, zlp_l, zlp_r, zb_some, zb_bnd, zI_add, zI_sub, zI_mul, zI_neg, zI_le, zI_lt, zI_eq, zI_ix, zI_inI, Int.toNat_natCast, Int.toNat_add, Int.toNat_mul, true_and, and_true]; omega)]
        have ref : ∀ R1, relR σ R1 → laidR (gF σ) (gf σ) (gs σ) (gh σ) R1 → ¬ (R1.1 11 a = R1.1 11 b) ∧ f_X12_isClueTold R1 (zI a) (zI b) (zI f) = some (zI (zb (zct (gh σ) a b f))) ∧ R1.1 9 (zix (zI 3)) = zI n := fun R1 g1 g2 => ⟨by rw [g2.1.1 a (by omega), g2.1.1 b (by omega)]; simp (disch := omega) only [zk_bind, zk_chk, zk_bnd, zk_some, zlp_l, zlp_r, zb_some, zb_bnd, zI_add, zI_sub, zI_mul, zI_neg, zI_le, zI_lt, zI_eq, zI_ix, zI_inI, Int.toNat_natCast, Int.toNat_add, Int.toNat_mul, true_and, and_true]; omega, r_isClueTold hF hk g1.2.2.2.2.1 ⟨by omega, by omega⟩ ⟨by omega, by omega⟩ ⟨by omega, by omega⟩, by rw [show zix (zI 3) = 3 by decide, g1.2.2.2.2.1 3 (by omega), hn]⟩
        by_cases ht : zct (gh σ) a b f
        · have e1 : f_X1_tellClue C (zI a) (zI b) (zI f) = some (C, zI (-1)) := by
            unfold f_X1_tellClue
            rw [hC.2.1.2.2.2.1.1, hn, c_clueIsTold hF hk hC.2.1.2.2.2.1 ⟨by omega, by omega⟩ ⟨by omega, by omega⟩ ⟨by omega, by omega⟩, zb_some, if_neg (c := zI (zb (zct (gh σ) a b f) : Int) = zI 0) (fun hh => zb_0.mp hh ht)]
            split <;> rfl
          rw [e1, zb_some, if_pos rfl]
          refine none _ (fun R1 g1 g2 => ?_)
          obtain ⟨q1, q2, q3⟩ := ref R1 g1 g2
          rw [zb_chk, zb_chk, if_neg q1, q2, zb_some, if_neg (fun hh => zb_0.mp hh ht)]
        · by_cases h12 : n = 12
          · have e1 : f_X1_tellClue C (zI a) (zI b) (zI f) = some (C, zI (-1)) := by
              unfold f_X1_tellClue
              rw [hC.2.1.2.2.2.1.1, hn, if_pos (by simp (disch := omega) only [zk_bind, zk_chk, zk_bnd, zk_some, zlp_l, zlp_r, zb_some, zb_bnd, zI_add, zI_sub, zI_mul, zI_neg, zI_le, zI_lt, zI_eq, zI_ix, zI_inI, Int.toNat_natCast, Int.toNat_add, Int.toNat_mul, true_and, and_true]; omega)]
            rw [e1, zb_some, if_pos rfl]
            refine none _ (fun R1 g1 g2 => ?_)
            obtain ⟨q1, q2, q3⟩ := ref R1 g1 g2
            rw [zb_chk, zb_chk, if_neg q1, q2, zb_some, if_pos (zb_0.mpr ht), q3, if_pos (by rw [h12]; rfl)]
          · rw [zk_bind]
            refine zOk_mono (c_tellClue ho hC hn (by omega) (a := a) (b := b) (f := f) ⟨by omega, by omega⟩ ⟨by omega, by omega⟩ ⟨by omega, by omega⟩ ht) (fun r k1 => ?_)
            obtain ⟨N, v⟩ := r
            obtain ⟨k1, k2, k3, k4⟩ := k1
            dsimp only at k1 k2 k3 k4 ⊢
            rw [k1, if_neg (by simp (disch := omega) only [zk_bind, zk_chk, zk_bnd, zk_some, zlp_l, zlp_r, zb_some, zb_bnd, zI_add, zI_sub, zI_mul, zI_neg, zI_le, zI_lt, zI_eq, zI_ix, zI_inI, Int.toNat_natCast, Int.toNat_add, Int.toNat_mul, true_and, and_true]; omega), zk_bnd, zk_some, zk_bind]
            refine zOk_mono (k_ls ho hr) (fun R1 h' => ?_)
            obtain ⟨q1, q2, q3⟩ := ref R1 h'.1 h'.2.2
            rw [zb_chk, zb_chk, if_neg q1, q2, zb_some, if_pos (zb_0.mpr ht), q3, if_neg (by simp (disch := omega) only [zk_bind, zk_chk, zk_bnd, zk_some, zlp_l, zlp_r, zb_some, zb_bnd, zI_add, zI_sub, zI_mul, zI_neg, zI_le, zI_lt, zI_eq, zI_ix, zI_inI, Int.toNat_natCast, Int.toNat_add, Int.toNat_mul, true_and, and_true]; omega), zk_bind]
            refine zOk_mono (r_remembers (P := gP σ) (H := gH σ) (zhc (gh σ) n a b f) ho.2.2.2.2.1 h'.1.2.2.2.2.1 h'.1.2.2.2.2.2.1) (fun R2 k5 => ?_)
            have hh2 : handR (gh σ) R2 := handR_x (fun k => k5.2.2.1 9 k rfl) h'.1.2.2.2.2.1
            have m3 : R2.1 9 (zix (zI 3)) = zI n := by rw [show zix (zI 3) = 3 by decide, hh2 3 (by omega), hn]
            have tr : ∀ M, f_X12_truth M (zI f) = some (zI f) := by
              intro M
              rw [r_truth]
              rcases (show f = 0 ∨ f = 1 by omega) with rfl | rfl <;> rfl
            rw [m3, zI_mul, zI_add, zk_bnd, zI_inI (by omega) (by omega) (by omega), zb_chk, zk_bnd, zI_add, zI_inI (by omega) (by omega) (by omega), zb_chk, zk_bnd, tr, zb_some, zI_add, zI_inI (by omega) (by omega) (by omega), zb_chk, zk_bnd, zk_bnd, zk_some, zI_ix (by omega) (by omega), zI_ix (by omega) (by omega), zI_ix (by omega) (by omega), show ((424 : Int) + 3 * (n : Int)).toNat = 424 + 3 * n by omega, show ((424 : Int) + 3 * (n : Int) + 1).toNat = 425 + 3 * n by omega, show ((424 : Int) + 3 * (n : Int) + 2).toNat = 426 + 3 * n by omega, show zix (zI 3) = 3 by decide]
            have w3 : (zstI (zstI (zstI R2 9 (424 + 3 * n) (zI a)) 9 (425 + 3 * n) (zI b)) 9 (426 + 3 * n) (zI f)).1 9 3 = zI n := by
              rw [zm_In _ _ _ _ (by omega), zm_In _ _ _ _ (by omega), zm_In _ _ _ _ (by omega)]
              exact m3
            rw [w3, zI_add]
            have hpC : zP zWact C (zstI N 0 14 (zI 1)) := zP_I (zP_mono k4 (fun a k ha => by unfold zWact at ha; unfold zWcl zWnt; simp at ha ⊢; omega)) rfl
            refine ⟨by dsimp only; rw [zm_Is], zNw σ (zhc (gh σ) n a b f), okT_n ho (okH_clue hk hn (by omega) ⟨by omega, by omega⟩ ⟨by omega, by omega⟩ ⟨by omega, by omega⟩), relC_n hpC.1 hpC.2 (setC_cg zsame_clue (setC_x (fun a k hk => ?_) hC.2.1.2.2.1)) (clueC_x (fun a k hk => ?_) k2) (actsC_x ?_ (fun a k ha => ?_) k3) (Or.inr (zm_Is _ _ _ _)) (Or.inr ⟨?_, zm_Is _ _ _ _, zsame_clue⟩) hC, relR_n (zP_I (zP_I (zP_I (zP_I (zP_mono k5.2.2 (fun a k ha => ?_)) rfl) rfl) rfl) rfl) (fun k hk => ?_) (pastR_x ?_ (fun k => ?_) k5.1) ?_ h'.1⟩
            · unfold dsetC at hk
              rw [zm_Iq _ _ _ _ (by simp at hk; omega)]
              exact k4.1 a k (by unfold zWcl zWnt; simp at hk ⊢; omega)
            · unfold dclueC at hk
              rw [zm_Iq _ _ _ _ (by simp at hk; omega)]
            · rw [zm_Iq _ _ _ _ (by decide)]
            · rw [zm_Iq _ _ _ _ (by omega)]
            · rw [zm_In _ _ _ _ (by decide)]
              exact k4.1 0 13 rfl
            · simp at ha ⊢
              exact ha.2
            · rw [zm_I]
              unfold zhc
              by_cases c3 : k = 3
              · rw [if_pos ⟨rfl, c3⟩, if_pos c3]
              · rw [if_neg (fun hh => c3 hh.2), if_neg c3, zm_I]
                by_cases c6 : k = 426 + 3 * n
                · rw [if_pos ⟨rfl, c6⟩, if_pos c6]
                · rw [if_neg (fun hh => c6 hh.2), if_neg c6, zm_I]
                  by_cases c5 : k = 425 + 3 * n
                  · rw [if_pos ⟨rfl, c5⟩, if_pos c5]
                  · rw [if_neg (fun hh => c5 hh.2), if_neg c5, zm_I]
                    by_cases c4 : k = 424 + 3 * n
                    · rw [if_pos ⟨rfl, c4⟩, if_pos c4]
                    · rw [if_neg (fun hh => c4 hh.2), if_neg c4]
                      exact hh2 k hk
            · rw [zm_Iq _ _ _ _ (by decide), zm_Iq _ _ _ _ (by decide), zm_Iq _ _ _ _ (by decide), zm_Iq _ _ _ _ (by decide)]
            · rw [zm_Iq _ _ _ _ (by decide), zm_Iq _ _ _ _ (by decide), zm_Iq _ _ _ _ (by decide), zm_Iq _ _ _ _ (by decide)]
            · rw [zm_Iq _ _ _ _ (by decide), zm_Iq _ _ _ _ (by decide), zm_Iq _ _ _ _ (by decide), zm_Iq _ _ _ _ (by decide)]
              exact k5.2.1
    · rw [if_neg h2, if_pos (c := zI (-1) = zI (-1)) rfl, if_neg (c := zI (zb (0 ≤ a ∧ a < (gF σ : Int)) : Int) = zI 0) (fun hh => zb_0.mp hh h1), if_pos (c := zI (zb (0 ≤ b ∧ b < (gF σ : Int)) : Int) = zI 0) (zb_0.mpr h2), ite_self, zk_some, zk_some]
      exact ⟨rfl, σ, ho, hC, hr⟩
  · rw [if_neg h1, if_pos (c := zI (-1) = zI (-1)) rfl, if_pos (c := zI (zb (0 ≤ a ∧ a < (gF σ : Int)) : Int) = zI 0) (zb_0.mpr h1), zk_some, zk_some]
    exact ⟨rfl, σ, ho, hC, hr⟩
