/-! ===== tests: drawing, changing about ===== deps: 97.zc.wayr2 -/
def zlcg (x : Nat) : Nat := (x * 1103515245 + 12345) % 2147483648
theorem zlcg_lt (x : Nat) : zlcg x < 2147483648 := Nat.mod_lt _ (by decide)
theorem zI64n {x : Nat} (hx : x < 2147483648) : Int32.toInt64 (zI x) = zJ x := by
  apply Int64.toInt_inj.mp
  rw [Int32.toInt_toInt64, zI_toInt (by omega) (by omega), zJ_toInt (by omega)]
theorem zJ_mul {a b : Nat} (h : a * b < 9223372036854775808) (ha : a < 9223372036854775808) (hb : b < 9223372036854775808) : zJ a * zJ b = zJ (a * b) := by
  unfold zJ
  rw [← Int64.ofInt_mul]
  congr 1
theorem zJ_add (a b : Nat) : zJ a + zJ b = zJ (a + b) := by
  unfold zJ
  rw [← Int64.ofInt_add]
  congr 1
theorem zlcg_code {x : Nat} (hx : x < 2147483648) : Int32.toInt64 (zI x) * (1103515245 : Int64) + (12345 : Int64) = zJ (x * 1103515245 + 12345) := by
  rw [zI64n hx, show (1103515245 : Int64) = zJ 1103515245 from rfl, zJ_mul (by omega) (by omega) (by omega), show (12345 : Int64) = zJ 12345 from rfl, zJ_add]
theorem zJ_32 {n : Nat} (h : n < 2147483648) : Int64.toInt32 (zJ n) = zI n := by
  apply Int32.toInt_inj.mp
  rw [Int64.toInt_toInt32, zJ_toInt (by omega), zI_toInt (by omega) (by omega)]
  exact Int.bmod_eq_of_le (by omega) (by omega)
theorem zlcg_c {x : Nat} (hx : x < 2147483648) : Int64.toInt32 ((Int32.toInt64 (zI x) * (1103515245 : Int64) + (12345 : Int64)) &&& (2147483647 : Int64)) = zI (zlcg x) := by
  have e : zJ (x * 1103515245 + 12345) &&& (2147483647 : Int64) = zJ (zlcg x) := by
    apply zv_inj
    have := zlcg_lt x
    rw [zv_and, zv_J (by omega), zv_J (by omega), show zv (2147483647 : Int64) = 2 ^ 31 - 1 from rfl, Nat.and_two_pow_sub_one_eq_mod]
    rfl
  rw [zlcg_code hx, e, zJ_32 (zlcg_lt x)]
theorem zlcg_r {x : Nat} (hx : x < 2147483648) : Int64.toInt32 ((Int32.toInt64 (zI x) * (1103515245 : Int64) + (12345 : Int64)) - (Int32.toInt64 (zI x) * (1103515245 : Int64) + (12345 : Int64)) / (2147483648 : Int64) * (2147483648 : Int64)) = zI (zlcg x) := by
  rw [zlcg_code hx]
  have e : zJ (x * 1103515245 + 12345) - zJ (x * 1103515245 + 12345) / (2147483648 : Int64) * (2147483648 : Int64) = zJ (zlcg x) := by
    apply Int64.toInt_inj.mp
    have hl := zlcg_lt x
    have hd : (zJ (x * 1103515245 + 12345) / (2147483648 : Int64)) = zJ ((x * 1103515245 + 12345) / 2147483648) := by
      apply Int64.toInt_inj.mp
      rw [Int64.toInt_div, zJ_toInt (by omega), zJ_toInt (by omega), show (2147483648 : Int64).toInt = 2147483648 from rfl]
      rw [show (((x * 1103515245 + 12345 : Nat) : Int)).tdiv 2147483648 = (((x * 1103515245 + 12345) / 2147483648 : Nat) : Int) from by
        rw [Int.tdiv_eq_ediv_of_nonneg (by omega)]; omega]
      exact Int.bmod_eq_of_le (by omega) (by omega)
    rw [hd, show (2147483648 : Int64) = zJ 2147483648 from rfl, zJ_mul (by omega) (by omega) (by omega), Int64.toInt_sub, zJ_toInt (by omega), zJ_toInt (by omega), zJ_toInt (by omega)]
    have : ((x * 1103515245 + 12345 : Nat) : Int) - (((x * 1103515245 + 12345) / 2147483648 * 2147483648 : Nat) : Int) = (zlcg x : Int) := by
      unfold zlcg
      omega
    rw [this]
    exact Int.bmod_eq_of_le (by omega) (by omega)
  rw [e, zJ_32 (zlcg_lt x)]
def zswp (π : Nat → Nat) (i d : Nat) : Nat → Nat := fun k => if k = i then π d else if k = d then π i else π k
/-- after j draws for n values: what x is, who stands where -/
def zshX (x : Nat) : Nat → Nat
  | 0 => x
  | j + 1 => zlcg (zshX x j)
def zdrw (n x j : Nat) : Nat := zshX x (j + 1) / 65536 % (n - 1 - j + 1)
def zshP (n x : Nat) : Nat → Nat → Nat
  | 0 => fun k => k
  | j + 1 => zswp (zshP n x j) (n - 1 - j) (zdrw n x j)
theorem zshX_lt {x : Nat} (hx : x < 2147483648) : ∀ j, zshX x j < 2147483648
  | 0 => hx
  | j + 1 => zlcg_lt _
theorem zdrw_le (n x j : Nat) : zdrw n x j ≤ n - 1 - j := by
  have := Nat.mod_lt (zshX x (j + 1) / 65536) (show 0 < n - 1 - j + 1 by omega)
  unfold zdrw
  omega
theorem zshP_lt {n x : Nat} : ∀ j k, j + 1 ≤ n → k < n → zshP n x j k < n
  | 0, k, _, hk => hk
  | j + 1, k, hj, hk => by
    have hd := zdrw_le n x j
    show zswp (zshP n x j) (n - 1 - j) (zdrw n x j) k < n
    unfold zswp
    split
    · exact zshP_lt j _ (by omega) (by omega)
    · split
      · exact zshP_lt j _ (by omega) (by omega)
      · exact zshP_lt j _ (by omega) hk
theorem c_draw {x i : Nat} (hx : x < 2147483648) (hi : i < 20) : zI (zlcg x) / (65536 : Int32) - zI (zlcg x) / (65536 : Int32) / (zI i + zI 1) * (zI i + zI 1) = zI ((zlcg x / 65536 % (i + 1) : Nat) : Int) := by
  have := zlcg_lt x
  rw [show (65536 : Int32) = zI 65536 from rfl, zI_add, zI_div (by omega) (by omega) (by omega) (by omega), zI_rem (by omega) (by omega) (by omega) (by omega)]
  generalize zlcg x = y
  exact zI_inj (((Int.natCast_emod (y / 65536) (i + 1)).trans (by rw [Int.natCast_ediv]; rfl)).symm)
theorem c_swap {q : Nat} {M : ZMem} {a b : Nat} (ha : a < 20) (hb : b < 20) : zOk (f_X3_swap q 20 M (zI a) (zI b)) (fun M' => (∀ k, M'.1 q k = if k = b then M.1 q a else if k = a then M.1 q b else M.1 q k) ∧ zP (fun a _ => a == q) M M') := by
  unfold f_X3_swap
  rw [zI_inI (by omega) (by omega) (by omega), zb_chk, zk_bnd, zI_inI (by omega) (by omega) (by omega), zb_chk, zb_chk, zk_bnd, zb_chk, zk_bnd, zk_some, zI_ix (by omega) (by omega), zI_ix (by omega) (by omega), Int.toNat_natCast, Int.toNat_natCast]
  refine ⟨fun k => ?_, zP_I (zP_I zP_rf (by simp)) (by simp)⟩
  by_cases c1 : k = b
  · rw [c1, zm_Is, if_pos rfl]
  · rw [zm_In _ _ _ _ c1, if_neg c1]
    by_cases c2 : k = a
    · rw [c2, zm_Is, if_pos rfl]
    · rw [zm_In _ _ _ _ c2, if_neg c2]
/-- the values changed about: class -/
def mixC (wl : List Nat) (kv : Nat → Nat → Int) (π : Nat → Nat) (C : ZMem) : Prop := (∀ k, k < wl.length → C.1 56 (wl.getD k 0) = zI (kv 0 (wl.getD (π k) 0)) ∧ C.1 57 (wl.getD k 0) = zI (kv 1 (wl.getD (π k) 0))) ∧ ∀ s, s < 20 → s ∉ wl → C.1 56 s = zI (kv 0 s) ∧ C.1 57 s = zI (kv 1 s)
theorem zfil_inj {P : Nat → Prop} {N : Nat} : ∀ i j, i < (zfil P N).length → j < (zfil P N).length → (zfil P N).getD i 0 = (zfil P N).getD j 0 → i = j := by
  have hinc : ∀ N i j, i < j → j < (zfil P N).length → (zfil P N).getD i 0 < (zfil P N).getD j 0 := by
    intro N
    induction N with
    | zero => intro i j _ hj; exact absurd hj (Nat.not_lt_zero j)
    | succ N ih =>
      intro i j hij hj
      by_cases hp : P N
      · rw [zfil_t hp] at hj ⊢
        rw [List.length_append, List.length_singleton] at hj
        by_cases he : j = (zfil P N).length
        · rw [he, zgetD_e, zgetD_l (by omega)]
          exact (zfil_mem.mp (zgetD_m (by omega))).1
        · rw [zgetD_l (by omega), zgetD_l (by omega)]
          exact ih i j hij (by omega)
      · rw [zfil_f hp] at hj ⊢
        exact ih i j hij hj
  intro i j hi hj he
  rcases Nat.lt_trichotomy i j with h | h | h
  · have := hinc N i j h hj
    omega
  · exact h
  · have := hinc N j i h hi
    omega
theorem c_changeAbout {M : ZMem} {kv : Nat → Nat → Int} {x : Nat} (hx : x < 2147483648) (hw : whlC kv M) (hm : mchC kv M) : zOk (f_X3_changeAbout M (zI x)) (fun r => mixC (zwhl kv) kv (zshP (zwhl kv).length x ((zwhl kv).length - 1)) r.1 ∧ r.2 = zI (zshX x ((zwhl kv).length - 1)) ∧ zP (fun a _ => a == 56 || a == 57) M r.1) := by
  have hlen : (zwhl kv).length ≤ 20 := zfil_le _ 20
  have hmem : ∀ k, k < (zwhl kv).length → (zwhl kv).getD k 0 < 20 := fun k hk => (zfil_mem.mp (zgetD_m hk)).1
  have hinj : ∀ i j, i < (zwhl kv).length → j < (zwhl kv).length → (zwhl kv).getD i 0 = (zwhl kv).getD j 0 → i = j := zfil_inj
  obtain ⟨w1, w2⟩ := hw
  unfold zArr at w2
  generalize zwhl kv = wl at *
  unfold f_X3_changeAbout
  rw [w1, zI_sub, zk_bnd, zk_bind]
  refine zOk_forQ (fun j s => s.2.2 = zI ((wl.length : Int) - 1 - j) ∧ s.2.1 = zI (zshX x j) ∧ zP (fun a _ => a == 56 || a == 57) M s.1 ∧ mixC wl kv (zshP wl.length x j) s.1) (wl.length - 1) ?_ ?_ ⟨zI_inj (by omega), rfl, zP_rf, fun k hk => ⟨(hm _ (hmem k hk)).1, (hm _ (hmem k hk)).2⟩, fun s hs _ => hm s hs⟩
  · rintro j ⟨s1, s2, s3⟩ hj ⟨e1, e2, e3, e4⟩ Q hQ _
    dsimp only at e1 e2 e3 e4
    have hX := zshX_lt hx j
    have hd := zdrw_le wl.length x j
    unfold f_X3_changeAbout_L9
    dsimp only
    rw [e1, if_neg (by simp (disch := omega) only [zk_bind, zk_chk, zk_bnd, zk_some, zlp_l, zlp_r, zb_some, zb_bnd, zI_add, zI_sub, zI_mul, zI_neg, zI_le, zI_lt, zI_eq, zI_ix, zI_inI, Int.toNat_natCast, Int.toNat_add, Int.toNat_mul, true_and, and_true]; omega), e2, zlcg_c hX, zk_bnd]
    have hz : zne (zI ((wl.length : Int) - 1 - j) + zI 1) = true := by
      rw [zI_add]
      unfold zne
      simp only [decide_eq_true_eq, ne_eq]
      rw [show (0 : Int32) = zI 0 from rfl, zI_eq (by omega) (by omega) (by omega) (by omega)]
      omega
    rw [hz, zb_chk, show ((wl.length : Int) - 1 - j) = ((wl.length - 1 - j : Nat) : Int) by omega, c_draw hX (by omega), zk_bnd, show zlcg (zshX x j) / 65536 % (wl.length - 1 - j + 1) = zdrw wl.length x j from rfl, if_neg (by simp (disch := omega) only [zk_bind, zk_chk, zk_bnd, zk_some, zlp_l, zlp_r, zb_some, zb_bnd, zI_add, zI_sub, zI_mul, zI_neg, zI_le, zI_lt, zI_eq, zI_ix, zI_inI, Int.toNat_natCast, Int.toNat_add, Int.toNat_mul, true_and, and_true]; omega)]
    by_cases hdi : wl.length - 1 - j ≤ zdrw wl.length x j
    · have hd2 : zdrw wl.length x j = wl.length - 1 - j := by omega
      rw [if_pos (by simp (disch := omega) only [zk_bind, zk_chk, zk_bnd, zk_some, zlp_l, zlp_r, zb_some, zb_bnd, zI_add, zI_sub, zI_mul, zI_neg, zI_le, zI_lt, zI_eq, zI_ix, zI_inI, Int.toNat_natCast, Int.toNat_add, Int.toNat_mul, true_and, and_true]; omega), zk_bnd, zk_some, zI_add]
      refine hQ _ ⟨zI_inj (by omega), rfl, e3, ?_⟩
      have : zshP wl.length x (j + 1) = zshP wl.length x j := by
        show zswp _ _ _ = _
        funext k
        unfold zswp
        rw [hd2]
        split
        · next h => rw [h]
        · rfl
      rw [this]
      exact e4
    · rw [if_neg (by simp (disch := omega) only [zk_bind, zk_chk, zk_bnd, zk_some, zlp_l, zlp_r, zb_some, zb_bnd, zI_add, zI_sub, zI_mul, zI_neg, zI_le, zI_lt, zI_eq, zI_ix, zI_inI, Int.toNat_natCast, Int.toNat_add, Int.toNat_mul, true_and, and_true]; omega), zI_inI (by omega) (by omega) (by omega), zb_chk, zI_inI (by omega) (by omega) (by omega), zb_chk, zI_ix (by omega) (by omega), zI_ix (by omega) (by omega), Int.toNat_natCast, Int.toNat_natCast, e3.1 58 _ rfl, e3.1 58 _ rfl, w2 _ (by omega), w2 _ (by omega), zk_bind]
      have ma := hmem (wl.length - 1 - j) (by omega)
      have mb := hmem (zdrw wl.length x j) (by omega)
      refine zOk_mono (c_swap (q := 56) ma mb) (fun M2 h2 => ?_)
      obtain ⟨g1, g2⟩ := h2
      rw [zb_chk, zb_chk, g2.1 58 _ rfl, g2.1 58 _ rfl, e3.1 58 _ rfl, e3.1 58 _ rfl, w2 _ (by omega), w2 _ (by omega), zk_bind]
      refine zOk_mono (c_swap (q := 57) ma mb) (fun M3 h3 => ?_)
      obtain ⟨g3, g4⟩ := h3
      rw [zk_bnd, zk_some, zI_add]
      have f56 : ∀ k, M3.1 56 k = if k = wl.getD (zdrw wl.length x j) 0 then s1.1 56 (wl.getD (wl.length - 1 - j) 0) else if k = wl.getD (wl.length - 1 - j) 0 then s1.1 56 (wl.getD (zdrw wl.length x j) 0) else s1.1 56 k := fun k => by rw [g4.1 56 k rfl]; exact g1 k
      have f57 : ∀ k, M3.1 57 k = if k = wl.getD (zdrw wl.length x j) 0 then s1.1 57 (wl.getD (wl.length - 1 - j) 0) else if k = wl.getD (wl.length - 1 - j) 0 then s1.1 57 (wl.getD (zdrw wl.length x j) 0) else s1.1 57 k := fun k => by rw [g3 k, g2.1 57 _ rfl, g2.1 57 _ rfl, g2.1 57 _ rfl]
      refine hQ _ ⟨zI_inj (by omega), rfl, zP_tr e3 (zP_tr (zP_mono g2 (fun a k ha => by simp at ha ⊢; exact ha.1)) (zP_mono g4 (fun a k ha => by simp at ha ⊢; exact ha.2))), fun k hk => ?_, fun s hs hns => ?_⟩
      · show _ = zI (kv 0 (wl.getD (zswp (zshP wl.length x j) (wl.length - 1 - j) (zdrw wl.length x j) k) 0)) ∧ _ = zI (kv 1 (wl.getD (zswp (zshP wl.length x j) (wl.length - 1 - j) (zdrw wl.length x j) k) 0))
        unfold zswp
        rw [f56, f57]
        by_cases c1 : k = zdrw wl.length x j
        · have h0 : wl.getD k 0 = wl.getD (zdrw wl.length x j) 0 := by rw [c1]
          have h1 := e4.1 (wl.length - 1 - j) (by omega)
          rw [if_neg (show ¬ k = wl.length - 1 - j by omega), if_pos c1]
          exact ⟨by rw [if_pos h0]; exact h1.1, by rw [if_pos h0]; exact h1.2⟩
        · have h1 : wl.getD k 0 ≠ wl.getD (zdrw wl.length x j) 0 := fun h => c1 (hinj k _ hk (by omega) h)
          by_cases c2 : k = wl.length - 1 - j
          · have h0 : wl.getD k 0 = wl.getD (wl.length - 1 - j) 0 := by rw [c2]
            have h3 := e4.1 (zdrw wl.length x j) (by omega)
            rw [if_pos c2]
            exact ⟨by rw [if_neg h1, if_pos h0]; exact h3.1, by rw [if_neg h1, if_pos h0]; exact h3.2⟩
          · have h2 : wl.getD k 0 ≠ wl.getD (wl.length - 1 - j) 0 := fun h => c2 (hinj k _ hk (by omega) h)
            rw [if_neg c2, if_neg c1]
            exact ⟨by rw [if_neg h1, if_neg h2]; exact (e4.1 k hk).1, by rw [if_neg h1, if_neg h2]; exact (e4.1 k hk).2⟩
      · have n1 : s ≠ wl.getD (zdrw wl.length x j) 0 := fun h => hns (by rw [h]; exact zgetD_m (by omega))
        have n2 : s ≠ wl.getD (wl.length - 1 - j) 0 := fun h => hns (by rw [h]; exact zgetD_m (by omega))
        exact ⟨by rw [f56, if_neg n1, if_neg n2]; exact (e4.2 s hs hns).1, by rw [f57, if_neg n1, if_neg n2]; exact (e4.2 s hs hns).2⟩
  · rintro ⟨s1, s2, s3⟩ ⟨e1, e2, e3, e4⟩
    dsimp only at e1 e2 e3 e4
    refine ⟨(s1, s2), ?_, ?_⟩
    · unfold f_X3_changeAbout_L9
      dsimp only
      rw [e1, if_pos (by simp (disch := omega) only [zk_bind, zk_chk, zk_bnd, zk_some, zlp_l, zlp_r, zb_some, zb_bnd, zI_add, zI_sub, zI_mul, zI_neg, zI_le, zI_lt, zI_eq, zI_ix, zI_inI, Int.toNat_natCast, Int.toNat_add, Int.toNat_mul, true_and, and_true]; omega)]
    · rw [zk_some]
      exact ⟨e4, e2, e3⟩
