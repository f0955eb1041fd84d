/-! ===== the reference lays its rows ===== deps: 95.readr -/
def zWrowsR (a k : Nat) : Bool := (a == 0 && k == 23) || a == 13 || a == 14
def zRws (s : ZS) (sg : Nat → Nat) (w : Int) (Q : Nat) (x : ZMem) : Prop := x.1 0 23 = zI (zrx s Q) ∧ (∀ q, q ≤ Q → x.1 13 (zrx s q) = zI (zbg s q)) ∧ ∀ q k, q < Q → k < zRL s q → x.1 14 (zbg s q + k) = zI (zRS s sg w q k)
theorem zRws_n {s : ZS} {sg : Nat → Nat} {w : Int} {Q : Nat} {x : ZMem} (hq : ¬ zex s Q) (h : zRws s sg w Q x) : zRws s sg w (Q + 1) x := by
  obtain ⟨h1, h2, h3⟩ := h
  refine ⟨by rw [zrx_n hq]; exact h1, fun q hqQ => ?_, fun q k hqQ hk => ?_⟩
  · by_cases he : q = Q + 1
    · rw [he, zrx_n hq, zbg_n hq]
      exact h2 Q (Nat.le_refl Q)
    · exact h2 q (by omega)
  · by_cases he : q = Q
    · rw [he, zRL_n hq] at hk
      omega
    · exact h3 q k (by omega) hk
theorem r_laysRows {M : ZMem} {F : Nat} {s : ZS} {sg : Nat → Nat} {w : Int} (hF : F ≤ 20) (hsg : ∀ f, f < F → M.1 11 f = zI (sg f)) (hsl : ∀ f, f < F → sg f < 20) (hs : okS F s) (h : stonesR s M) (hw : 0 ≤ w ∧ w ≤ 3) (hw1 : M.1 9 1 = zI w) : zOk (f_X12_laysRows M) (fun M' => rowsR s sg w M' ∧ zP zWrowsR M M') := by
  have hS := hs.1
  have hj := zjud_le s sg
  have main : zOk (f_X12_laysRows_23 M (zI (zby s sg w))) (fun M' => rowsR s sg w M' ∧ zP zWrowsR M M') := by
    have hby : 0 ≤ zby s sg w ∧ zby s sg w ≤ 2 := by
      unfold zby
      split <;> omega
    unfold f_X12_laysRows_23
    rw [zk_bnd, zk_bnd, zk_bind]
    refine zOk_forQ (fun t x => x.2 = zI t ∧ zP zWrowsR M x.1 ∧ zRws s sg w (4 * t) x.1) (sS s) ?_ ?_ ⟨rfl, zP_I (zP_I zP_rf rfl) rfl, by rw [zm_Iq _ _ _ _ (by decide), zm_Is]; rfl, fun q hq => ?_, fun q k hq => by omega⟩
    · rintro t ⟨x1, x2⟩ ht ⟨e1, e2, e3⟩ Q hQ _
      dsimp only at e1 e2 e3
      have hm := hs.2.1 t ht
      unfold f_X12_laysRows_L38
      dsimp only
      rw [e2.1 0 8 rfl, h.1, e1, if_neg (by simp (disch := omega) only [zk_bind, zk_chk, zk_bnd, zk_some, zlp_l, zlp_r, zb_some, zb_bnd, zI_add, zI_sub, zI_mul, zI_neg, zI_le, zI_lt, zI_eq, zI_ix, zI_inI, Int.toNat_natCast, Int.toNat_add, Int.toNat_mul, true_and, and_true]; omega), zk_bind]
      refine zOk_forQ (fun r x => x.2 = zI r ∧ zP zWrowsR M x.1 ∧ zRws s sg w (4 * t + r) x.1) (sm s t) ?_ ?_ ⟨rfl, e2, e3⟩
      · rintro r ⟨y1, y2⟩ hr ⟨d1, d2, d3⟩ Q' hQ' _
        dsimp only at d1 d2 d3
        have hq := zex_of ht hr (by omega)
        have g1 : stonesR s y1 := stonesR_x (fun a k ha => d2.1 a k (by unfold dstonesR at ha; unfold zWrowsR; simp at ha ⊢; omega)) h
        have key : ∀ v : Nat, v = zb (zturn s sg w (4 * t + r)) → zOk (f_X12_laysRows_80_L48 y1 (zI (zby s sg w)) (zI t) (zI r) (zI v)) Q' := by
          intro v hv
          unfold f_X12_laysRows_80_L48
          rw [zI_mul, zI_add, show (4 * (t : Int) + r) = ((4 * t + r : Nat) : Int) by omega, zk_bind, hv]
          refine zOk_mono (r_laysRow (w := w) hF (fun f hf => by rw [d2.1 11 f rfl]; exact hsg f hf) hs g1 hq d3.1 (d3.2.1 _ (Nat.le_refl _))) (fun M3 h3 => ?_)
          obtain ⟨a1, a2, a3, a4⟩ := h3
          rw [zk_bnd, zk_some, zI_add]
          refine hQ' _ ⟨zI_inj (by omega), zP_tr d2 (zP_mono a4 (fun a k ha => by unfold zWrowsR at ha; simp at ha ⊢; omega)), a1, fun q hq' => ?_, fun q k hq' hk => ?_⟩
          · by_cases he : q = 4 * t + r + 1
            · rw [he]; exact a2
            · rw [a4.1 13 _ (by have := zrx_mono s (p := q) (q := 4 * t + r) (by omega); have := zrx_e hq; simp; omega)]
              exact d3.2.1 q (by omega)
          · by_cases he : q = 4 * t + r
            · rw [he] at hk ⊢
              exact a3 k hk
            · rw [a4.1 14 _ (by have := zbg_mono s (p := q + 1) (q := 4 * t + r) (by omega); have := zbg_s s q; simp; omega)]
              exact d3.2.2 q k (by omega) hk
        unfold f_X12_laysRows_L48 f_X12_laysRows_75_L48 f_X12_laysRows_79_L48
        dsimp only
        have er : (4 * t + r) % 4 % 2 = r % 2 := by omega
        rw [zI_inI (by omega) (by omega) (by omega), zb_chk, zI_ix (by omega) (by omega), Int.toNat_natCast, g1.2.1 t ht, d1, if_neg (by simp (disch := omega) only [zk_bind, zk_chk, zk_bnd, zk_some, zlp_l, zlp_r, zb_some, zb_bnd, zI_add, zI_sub, zI_mul, zI_neg, zI_le, zI_lt, zI_eq, zI_ix, zI_inI, Int.toNat_natCast, Int.toNat_add, Int.toNat_mul, true_and, and_true]; omega)]
        by_cases c1 : zby s sg w = 1
        · rw [if_pos (by rw [c1])]
          exact key 1 (zb_t (Or.inl c1)).symm
        · rw [if_neg (by simp (disch := omega) only [zk_bind, zk_chk, zk_bnd, zk_some, zlp_l, zlp_r, zb_some, zb_bnd, zI_add, zI_sub, zI_mul, zI_neg, zI_le, zI_lt, zI_eq, zI_ix, zI_inI, Int.toNat_natCast, Int.toNat_add, Int.toNat_mul, true_and, and_true]; omega)]
          by_cases c2 : zby s sg w = 2
          · rw [if_pos (by rw [c2]), zI_rem (by omega) (by omega) (by omega) (by omega)]
            by_cases c3 : r % 2 = 1
            · rw [if_pos (by simp (disch := omega) only [zk_bind, zk_chk, zk_bnd, zk_some, zlp_l, zlp_r, zb_some, zb_bnd, zI_add, zI_sub, zI_mul, zI_neg, zI_le, zI_lt, zI_eq, zI_ix, zI_inI, Int.toNat_natCast, Int.toNat_add, Int.toNat_mul, true_and, and_true]; omega)]
              exact key 1 (zb_t (Or.inr ⟨c2, by omega⟩)).symm
            · rw [if_neg (by simp (disch := omega) only [zk_bind, zk_chk, zk_bnd, zk_some, zlp_l, zlp_r, zb_some, zb_bnd, zI_add, zI_sub, zI_mul, zI_neg, zI_le, zI_lt, zI_eq, zI_ix, zI_inI, Int.toNat_natCast, Int.toNat_add, Int.toNat_mul, true_and, and_true]; omega)]
              exact key 0 (zb_f (fun hz => by unfold zturn at hz; omega)).symm
          · rw [if_neg (by simp (disch := omega) only [zk_bind, zk_chk, zk_bnd, zk_some, zlp_l, zlp_r, zb_some, zb_bnd, zI_add, zI_sub, zI_mul, zI_neg, zI_le, zI_lt, zI_eq, zI_ix, zI_inI, Int.toNat_natCast, Int.toNat_add, Int.toNat_mul, true_and, and_true]; omega)]
            exact key 0 (zb_f (fun hz => by unfold zturn at hz; omega)).symm
      · rintro ⟨y1, y2⟩ ⟨d1, d2, d3⟩
        dsimp only at d1 d2 d3
        have g1 : stonesR s y1 := stonesR_x (fun a k ha => d2.1 a k (by unfold dstonesR at ha; unfold zWrowsR; simp at ha ⊢; omega)) h
        refine ⟨y1, ?_, ?_⟩
        · unfold f_X12_laysRows_L48
          dsimp only
          rw [zI_inI (by omega) (by omega) (by omega), zb_chk, zI_ix (by omega) (by omega), Int.toNat_natCast, g1.2.1 t ht, d1, if_pos (by simp (disch := omega) only [zk_bind, zk_chk, zk_bnd, zk_some, zlp_l, zlp_r, zb_some, zb_bnd, zI_add, zI_sub, zI_mul, zI_neg, zI_le, zI_lt, zI_eq, zI_ix, zI_inI, Int.toNat_natCast, Int.toNat_add, Int.toNat_mul, true_and, and_true]; omega)]
        · rw [zk_bnd, zk_some, zI_add]
          exact hQ _ ⟨zI_inj (by omega), d2, zskip (fun Q => zRws s sg w Q y1) (fun Q hn hh => zRws_n hn hh) hm.2 d3⟩
    · rintro ⟨x1, x2⟩ ⟨e1, e2, e3⟩
      dsimp only at e1 e2 e3
      refine ⟨x1, ?_, ?_⟩
      · unfold f_X12_laysRows_L38
        dsimp only
        rw [e2.1 0 8 rfl, h.1, e1, if_pos (by simp (disch := omega) only [zk_bind, zk_chk, zk_bnd, zk_some, zlp_l, zlp_r, zb_some, zb_bnd, zI_add, zI_sub, zI_mul, zI_neg, zI_le, zI_lt, zI_eq, zI_ix, zI_inI, Int.toNat_natCast, Int.toNat_add, Int.toNat_mul, true_and, and_true]; omega)]
      · rw [zk_some]
        have := zskipTo (fun Q => zRws s sg w Q x1) (fun Q hn hh => zRws_n hn hh) (m := 24) (by omega) e3
        exact ⟨this, e2⟩
    · rw [show q = 0 by omega]
      show (zstI _ 13 0 (zI 0)).1 13 0 = zI 0
      rw [zm_Is]
  unfold f_X12_laysRows
  rw [show M.1 9 (zix (zI 1)) = zI w from hw1]
  by_cases c : w = 3
  · rw [if_pos (by rw [c]), r_judgedWay hF hsg hsl hs h, zb_some]
    have : zby s sg w = zjud s sg := by unfold zby; rw [if_pos c]
    rw [this] at main
    exact main
  · rw [if_neg (by simp (disch := omega) only [zk_bind, zk_chk, zk_bnd, zk_some, zlp_l, zlp_r, zb_some, zb_bnd, zI_add, zI_sub, zI_mul, zI_neg, zI_le, zI_lt, zI_eq, zI_ix, zI_inI, Int.toNat_natCast, Int.toNat_add, Int.toNat_mul, true_and, and_true]; omega)]
    have : zby s sg w = w := by unfold zby; rw [if_neg c]
    rw [this] at main
    exact main
