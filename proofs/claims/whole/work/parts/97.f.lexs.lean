/-! ===== the class cuts the rows ===== deps: 97.e.lexc -/
theorem zkey_s {pc : Nat → Nat} {k : Nat} (hk : k < 7) : zkey pc (k + 1) = zkey pc k + (pc k + 1) * 2 ^ (5 * (6 - k)) ∧ ∃ A, zkey pc k = 2 ^ (5 * (7 - k)) * A := by
  have h1 : ∀ j, j ≠ k → (if j < k + 1 then pc j + 1 else 0) = if j < k then pc j + 1 else 0 := by
    intro j hj
    by_cases hc : j < k
    · rw [if_pos hc, if_pos (by omega)]
    · rw [if_neg hc, if_neg (by omega)]
  have h2 : (if k < k + 1 then pc k + 1 else 0) = pc k + 1 := if_pos (by omega)
  have h3 : ∀ j, k ≤ j → (if j < k then pc j + 1 else 0) = 0 := fun j hj => if_neg (by omega)
  unfold zkey
  generalize hd : (fun j => if j < k then pc j + 1 else 0) = d
  generalize hd' : (fun j => if j < k + 1 then pc j + 1 else 0) = d'
  have g1 : ∀ j, j ≠ k → d' j = d j := fun j hj => by rw [← hd, ← hd']; exact h1 j hj
  have g2 : d' k = pc k + 1 := by rw [← hd']; exact h2
  have g3 : ∀ j, k ≤ j → d j = 0 := fun j hj => by rw [← hd]; exact h3 j hj
  clear hd hd' h1 h2 h3
  unfold zkD
  have h7 : k = 0 ∨ k = 1 ∨ k = 2 ∨ k = 3 ∨ k = 4 ∨ k = 5 ∨ k = 6 := by omega
  rcases h7 with rfl | rfl | rfl | rfl | rfl | rfl | rfl
  · have p1 : 2 ^ (5 * (6 - 0)) = 1073741824 := rfl
    have p2 : 2 ^ (5 * (7 - 0)) = 34359738368 := rfl
    have b0 := g3 0 (by decide)
    have a1 := g1 1 (by decide)
    have b1 := g3 1 (by decide)
    have a2 := g1 2 (by decide)
    have b2 := g3 2 (by decide)
    have a3 := g1 3 (by decide)
    have b3 := g3 3 (by decide)
    have a4 := g1 4 (by decide)
    have b4 := g3 4 (by decide)
    have a5 := g1 5 (by decide)
    have b5 := g3 5 (by decide)
    have a6 := g1 6 (by decide)
    have b6 := g3 6 (by decide)
    rw [p1, p2]
    refine ⟨by omega, (d 0 * 1073741824 + d 1 * 33554432 + d 2 * 1048576 + d 3 * 32768 + d 4 * 1024 + d 5 * 32 + d 6) / 34359738368, by omega⟩
  · have p1 : 2 ^ (5 * (6 - 1)) = 33554432 := rfl
    have p2 : 2 ^ (5 * (7 - 1)) = 1073741824 := rfl
    have a0 := g1 0 (by decide)
    have b1 := g3 1 (by decide)
    have a2 := g1 2 (by decide)
    have b2 := g3 2 (by decide)
    have a3 := g1 3 (by decide)
    have b3 := g3 3 (by decide)
    have a4 := g1 4 (by decide)
    have b4 := g3 4 (by decide)
    have a5 := g1 5 (by decide)
    have b5 := g3 5 (by decide)
    have a6 := g1 6 (by decide)
    have b6 := g3 6 (by decide)
    rw [p1, p2]
    refine ⟨by omega, (d 0 * 1073741824 + d 1 * 33554432 + d 2 * 1048576 + d 3 * 32768 + d 4 * 1024 + d 5 * 32 + d 6) / 1073741824, by omega⟩
  · have p1 : 2 ^ (5 * (6 - 2)) = 1048576 := rfl
    have p2 : 2 ^ (5 * (7 - 2)) = 33554432 := rfl
    have a0 := g1 0 (by decide)
    have a1 := g1 1 (by decide)
    have b2 := g3 2 (by decide)
    have a3 := g1 3 (by decide)
    have b3 := g3 3 (by decide)
    have a4 := g1 4 (by decide)
    have b4 := g3 4 (by decide)
    have a5 := g1 5 (by decide)
    have b5 := g3 5 (by decide)
    have a6 := g1 6 (by decide)
    have b6 := g3 6 (by decide)
    rw [p1, p2]
    refine ⟨by omega, (d 0 * 1073741824 + d 1 * 33554432 + d 2 * 1048576 + d 3 * 32768 + d 4 * 1024 + d 5 * 32 + d 6) / 33554432, by omega⟩
  · have p1 : 2 ^ (5 * (6 - 3)) = 32768 := rfl
    have p2 : 2 ^ (5 * (7 - 3)) = 1048576 := rfl
    have a0 := g1 0 (by decide)
    have a1 := g1 1 (by decide)
    have a2 := g1 2 (by decide)
    have b3 := g3 3 (by decide)
    have a4 := g1 4 (by decide)
    have b4 := g3 4 (by decide)
    have a5 := g1 5 (by decide)
    have b5 := g3 5 (by decide)
    have a6 := g1 6 (by decide)
    have b6 := g3 6 (by decide)
    rw [p1, p2]
    refine ⟨by omega, (d 0 * 1073741824 + d 1 * 33554432 + d 2 * 1048576 + d 3 * 32768 + d 4 * 1024 + d 5 * 32 + d 6) / 1048576, by omega⟩
  · have p1 : 2 ^ (5 * (6 - 4)) = 1024 := rfl
    have p2 : 2 ^ (5 * (7 - 4)) = 32768 := rfl
    have a0 := g1 0 (by decide)
    have a1 := g1 1 (by decide)
    have a2 := g1 2 (by decide)
    have a3 := g1 3 (by decide)
    have b4 := g3 4 (by decide)
    have a5 := g1 5 (by decide)
    have b5 := g3 5 (by decide)
    have a6 := g1 6 (by decide)
    have b6 := g3 6 (by decide)
    rw [p1, p2]
    refine ⟨by omega, (d 0 * 1073741824 + d 1 * 33554432 + d 2 * 1048576 + d 3 * 32768 + d 4 * 1024 + d 5 * 32 + d 6) / 32768, by omega⟩
  · have p1 : 2 ^ (5 * (6 - 5)) = 32 := rfl
    have p2 : 2 ^ (5 * (7 - 5)) = 1024 := rfl
    have a0 := g1 0 (by decide)
    have a1 := g1 1 (by decide)
    have a2 := g1 2 (by decide)
    have a3 := g1 3 (by decide)
    have a4 := g1 4 (by decide)
    have b5 := g3 5 (by decide)
    have a6 := g1 6 (by decide)
    have b6 := g3 6 (by decide)
    rw [p1, p2]
    refine ⟨by omega, (d 0 * 1073741824 + d 1 * 33554432 + d 2 * 1048576 + d 3 * 32768 + d 4 * 1024 + d 5 * 32 + d 6) / 1024, by omega⟩
  · have p1 : 2 ^ (5 * (6 - 6)) = 1 := rfl
    have p2 : 2 ^ (5 * (7 - 6)) = 32 := rfl
    have a0 := g1 0 (by decide)
    have a1 := g1 1 (by decide)
    have a2 := g1 2 (by decide)
    have a3 := g1 3 (by decide)
    have a4 := g1 4 (by decide)
    have a5 := g1 5 (by decide)
    have b6 := g3 6 (by decide)
    rw [p1, p2]
    refine ⟨by omega, (d 0 * 1073741824 + d 1 * 33554432 + d 2 * 1048576 + d 3 * 32768 + d 4 * 1024 + d 5 * 32 + d 6) / 32, by omega⟩
theorem zkey_0 (pc : Nat → Nat) : zJ (zkey pc 0) = 0 := by
  have : zkey pc 0 = 0 := by
    unfold zkey zkD
    simp only [Nat.not_lt_zero, if_false, Nat.zero_mul]
  rw [this]
  rfl
theorem zpow5_le {k : Nat} : 2 ^ (5 * (6 - k)) ≤ 2 ^ 30 := Nat.pow_le_pow_right (by decide) (by omega)
theorem zI64 {v : Nat} (hv : v < 20) : Int32.toInt64 (zI v) + 1 = zJ (v + 1) := by
  have h : ∀ v, v < 20 → Int32.toInt64 (zI (v : Nat)) + 1 = zJ (v + 1) := by decide +kernel
  exact h v hv
theorem zkey_or {pc : Nat → Nat} {k : Nat} (hk : k < 7) (hp : ∀ i, i ≤ k → pc i < 20) : zJ (zkey pc k) ||| ((Int32.toInt64 (zI (pc k)) + 1) <<< (Int32.toInt64 (zI ((5 * (6 - k) : Nat) : Int)) &&& 63)) = zJ (zkey pc (k + 1)) := by
  obtain ⟨e1, A, e2⟩ := zkey_s (pc := pc) hk
  have w1 := (zkey_isW (pc := pc) (n := k) (by omega) (fun i hi => hp i (by omega))).1
  have w2 := (zkey_isW (pc := pc) (n := k + 1) (by omega) (fun i hi => hp i (by omega))).1
  have hv := hp k (Nat.le_refl k)
  have hpw : 2 ^ (5 * (6 - k)) ≤ 1073741824 := zpow5_le (k := k)
  apply zv_inj
  rw [zv_or, zv_J (by omega), zI64 hv, zv_shl _ _ (by omega), zv_J (by omega), zv_J (by omega)]
  have hm : (pc k + 1) * 2 ^ (5 * (6 - k)) < 18446744073709551616 := by
    have : (pc k + 1) * 2 ^ (5 * (6 - k)) ≤ 20 * 1073741824 := Nat.mul_le_mul (by omega) hpw
    omega
  rw [Nat.mod_eq_of_lt hm, e1, e2]
  refine (Nat.two_pow_add_eq_or_of_lt ?_ A).symm
  rw [show 5 * (7 - k) = 5 + 5 * (6 - k) by omega, Nat.pow_add]
  refine Nat.mul_lt_mul_of_pos_right (by omega) (Nat.two_pow_pos _)
/-- how far the cutting is -/
def zcutI (rl : Nat → Nat) (rs : Nat → Nat → Nat) (rise : Nat) (rem : List Nat) (C : ZMem) : Prop := ∃ l, lexC l C ∧ zsrt l ∧ zwords l ∧ zfold l rem = zlex rl rs rise ∧ l.length + rem.length ≤ (zrest rl rs rise 24).length ∧ ∃ c, C.1 34 7 = zI ((c : Nat) : Int) ∧ c + rem.length = (zrest rl rs rise 24).length
def zWcut (a k : Nat) : Bool := zWent a k || zWfnd a k
theorem c_cutRow {M : ZMem} {rl : Nat → Nat} {rs : Nat → Nat → Nat} {rise : Nat} (hk : okRw rl rs) (h : rowsG rl rs M) (hr : rise ≤ 9) {q : Nat} (hq : q < 24) (hI : zcutI rl rs rise (zrest rl rs rise (24 - q)) M) : zOk (f_X2_cutRow M (zI q) (zI rise)) (fun M' => zcutI rl rs rise (zrest rl rs rise (24 - (q + 1))) M' ∧ zP2 zWcut (fun a => a == 35) M M') := by
  have hall := zrest_len hk rise 24
  have hrl := hk.1 q
  unfold f_X2_cutRow
  rw [zk_bind]
  refine zOk_loop (fun x => zP2 zWcut (fun a => a == 35) M x.1 ∧ ∃ f : Nat, f ≤ rl q ∧ x.2 = zI f ∧ zcutI rl rs rise (zcut rl rs rise q f ++ zrest rl rs rise (24 - (q + 1))) x.1) (fun x => 10 - x.2.toInt.toNat) ?_ _ _ (Nat.le_refl _) ⟨zP2_rf, 0, by omega, rfl, by rw [← zrest_s hq]; exact hI⟩
  rintro ⟨x1, x2⟩ ⟨e1, f, e2, e3, e4⟩
  dsimp only at e1 e3 e4
  have hx : ∀ {M' : ZMem}, zP2 zWcut (fun a => a == 35) M M' → rowsG rl rs M' := fun hp => rowsG_x (fun k => hp.1 31 k rfl) (fun k => hp.1 32 k rfl) h
  unfold f_X2_cutRow_L3
  dsimp only
  rw [c_lengthOf6 (hx e1) hq, zb_some, e3]
  by_cases hf : f < rl q
  · obtain ⟨w1, w2, w3, w4⟩ := zwl_rng (rs := rs) (rise := rise) hf
    rw [if_neg (by simp (disch := omega) only [zk_bind, zk_chk, zk_bnd, zk_some, zlp_l, zlp_r, zb_some, zb_bnd, zI_add, zI_sub, zI_mul, zI_neg, zI_le, zI_lt, zI_eq, zI_ix, zI_inI, Int.toNat_natCast, Int.toNat_add, Int.toNat_mul, true_and, and_true]; omega), zk_bind]
    refine zOk_mono (c_wordLength hk (hx e1) hq hf hr) (fun r hr' => ?_)
    obtain ⟨r1, r2⟩ := hr'
    have r3 : zP2 zWcut (fun a => a == 35) M r.1 := zP2_tr e1 (zP2_of r2 (fun a k ha => by unfold zWcut at ha; simp at ha; exact ha.2))
    rw [zk_bnd, r1]
    have e0 : (if zI 1 < zI (zwl rl rs rise q f) then zI (zwl rl rs rise q f) else zI 1) = zI (zwl rl rs rise q f) := by
      by_cases hc : 1 < zwl rl rs rise q f
      · rw [if_pos (by simp (disch := omega) only [zk_bind, zk_chk, zk_bnd, zk_some, zlp_l, zlp_r, zb_some, zb_bnd, zI_add, zI_sub, zI_mul, zI_neg, zI_le, zI_lt, zI_eq, zI_ix, zI_inI, Int.toNat_natCast, Int.toNat_add, Int.toNat_mul, true_and, and_true]; omega)]
      · rw [if_neg (by simp (disch := omega) only [zk_bind, zk_chk, zk_bnd, zk_some, zlp_l, zlp_r, zb_some, zb_bnd, zI_add, zI_sub, zI_mul, zI_neg, zI_le, zI_lt, zI_eq, zI_ix, zI_inI, Int.toNat_natCast, Int.toNat_add, Int.toNat_mul, true_and, and_true]; omega)]; exact zI_inj (by omega)
    rw [e0, zk_bind]
    have hpc : ∀ i, i < zwl rl rs rise q f → rs q (f + i) < 20 := fun i hi => hk.2 q _ (by omega)
    refine zOk_for0 (fun k x => x = (zJ (zkey (fun i => rs q (f + i)) k), zI k)) (zwl rl rs rise q f) ?_ ?_ (Prod.ext (zkey_0 _).symm rfl)
    · rintro k x hkw rfl
      unfold f_X2_cutRow_L33 f_X2_shiftOf
      dsimp only
      rw [if_neg (by simp (disch := omega) only [zk_bind, zk_chk, zk_bnd, zk_some, zlp_l, zlp_r, zb_some, zb_bnd, zI_add, zI_sub, zI_mul, zI_neg, zI_le, zI_lt, zI_eq, zI_ix, zI_inI, Int.toNat_natCast, Int.toNat_add, Int.toNat_mul, true_and, and_true]; omega), if_neg (by simp (disch := omega) only [zk_bind, zk_chk, zk_bnd, zk_some, zlp_l, zlp_r, zb_some, zb_bnd, zI_add, zI_sub, zI_mul, zI_neg, zI_le, zI_lt, zI_eq, zI_ix, zI_inI, Int.toNat_natCast, Int.toNat_add, Int.toNat_mul, true_and, and_true]; omega), zI_add, show ((f : Int) + k) = ((f + k : Nat) : Int) by omega, c_signAtN hk (hx r3) hq (by omega), zb_some, zb_some, zI_sub, zI_mul, show (5 * (6 - (k : Int))) = ((5 * (6 - k) : Nat) : Int) by omega]
      rw [zkey_or (pc := fun i => rs q (f + i)) (k := k) (by omega) (fun i hi => hpc i (by omega)), zk_bnd, zk_bnd, zk_some, zlp_l, zI_add]
      exact Prod.ext rfl (zI_inj (by omega))
    · rintro x rfl
      unfold f_X2_cutRow_L33
      dsimp only
      rw [if_pos (by simp (disch := omega) only [zk_bind, zk_chk, zk_bnd, zk_some, zlp_l, zlp_r, zb_some, zb_bnd, zI_add, zI_sub, zI_mul, zI_neg, zI_le, zI_lt, zI_eq, zI_ix, zI_inI, Int.toNat_natCast, Int.toNat_add, Int.toNat_mul, true_and, and_true]; omega), zk_some, zlp_r, zk_bind]
      obtain ⟨l, l1, l2, l3, l4, l5, c, l6, l7⟩ := e4
      have hW := zkey_isW (pc := fun i => rs q (f + i)) (n := zwl rl rs rise q f) (by omega) hpc
      rw [zcut_c hf] at l4 l5 l7
      rw [List.cons_append, List.length_cons] at l5 l7
      rw [List.cons_append, zfold_c] at l4
      have l1' : lexC l r.1 := lexC_x (r2.1 34 6 rfl) (fun k => r2.1 36 k rfl) (by rw [r2.2]) l1
      refine zOk_mono (c_enter l2 l3 (by omega) l1' (by rw [r2.1 34 7 rfl]; exact l6) hW.1) (fun M2 h2 => ?_)
      obtain ⟨a1, a2, a3⟩ := h2
      rw [zk_bnd, zk_some, zlp_l, zI_add]
      refine ⟨⟨zP2_tr r3 (zP2_mono a3 (fun a k ha => by unfold zWcut at ha; simp at ha; exact ha.1) (fun _ h => h)), f + zwl rl rs rise q f, by omega, zI_inj (by omega), zins (zkey (fun i => rs q (f + i)) (zwl rl rs rise q f)) l, a1, zins_srt l2 _, zins_words l2 l3 w1 hW, l4, ?_, c + 1, a2, by omega⟩, ?_⟩
      · have := zins_len (zkey (fun i => rs q (f + i)) (zwl rl rs rise q f)) l
        omega
      · dsimp only
        rw [zI_toInt (by omega) (by omega), zI_toInt (by omega) (by omega)]
        omega
  · rw [if_pos (by simp (disch := omega) only [zk_bind, zk_chk, zk_bnd, zk_some, zlp_l, zlp_r, zb_some, zb_bnd, zI_add, zI_sub, zI_mul, zI_neg, zI_le, zI_lt, zI_eq, zI_ix, zI_inI, Int.toNat_natCast, Int.toNat_add, Int.toNat_mul, true_and, and_true]; omega), zk_some, zlp_r, zk_some]
    rw [zcut_e (by omega), List.nil_append] at e4
    exact ⟨e4, e1⟩
theorem zsig {key k : Nat} (hkey : key < 34359738368) (hk : k < 7) (M : ZMem) : f_X2_signOfKey M (zJ key) (zI k) = some (zI (zks key k)) := by
  unfold f_X2_signOfKey f_X2_signOfKey_15
  rw [if_neg (by simp (disch := omega) only [zk_bind, zk_chk, zk_bnd, zk_some, zlp_l, zlp_r, zb_some, zb_bnd, zI_add, zI_sub, zI_mul, zI_neg, zI_le, zI_lt, zI_eq, zI_ix, zI_inI, Int.toNat_natCast, Int.toNat_add, Int.toNat_mul, true_and, and_true]; omega), if_neg (by simp (disch := omega) only [zk_bind, zk_chk, zk_bnd, zk_some, zlp_l, zlp_r, zb_some, zb_bnd, zI_add, zI_sub, zI_mul, zI_neg, zI_le, zI_lt, zI_eq, zI_ix, zI_inI, Int.toNat_natCast, Int.toNat_add, Int.toNat_mul, true_and, and_true]; omega), if_neg (by decide), zI_sub, zI_mul, show (5 * (6 - (k : Int))) = ((5 * (6 - k) : Nat) : Int) by omega]
  have e : zlushr (zJ key) (zI ((5 * (6 - k) : Nat) : Int)) &&& 31 = zJ (zdg key k) := by
    apply zv_inj
    have hd := zdg_lt key k
    rw [zv_and, zv_ushr _ _ (by omega), zv_J (by omega), zv_J (by omega), show zv (31 : Int64) = 2 ^ 5 - 1 from rfl, Nat.and_two_pow_sub_one_eq_mod]
    unfold zdg
    rw [show (32 : Nat) = 2 ^ 5 from rfl, ← Nat.pow_mul]
  rw [e]
  have h : ∀ d, d < 32 → Int64.toInt32 (zJ d) - zI 1 = zI ((d : Int) - 1) := by decide +kernel
  rw [h _ (zdg_lt key k)]
  unfold zks
  rw [if_pos hk]
theorem zsigO (x : Int64) (M : ZMem) {k : Int} (h1 : -2147483648 ≤ k) (h2 : k ≤ 2147483647) (hk : k < 0 ∨ 7 ≤ k) : f_X2_signOfKey M x (zI k) = some (zI (-1)) := by
  unfold f_X2_signOfKey f_X2_signOfKey_14 f_X2_signOfKey_15
  by_cases c : k < 0
  · rw [if_pos (by simp (disch := omega) only [zk_bind, zk_chk, zk_bnd, zk_some, zlp_l, zlp_r, zb_some, zb_bnd, zI_add, zI_sub, zI_mul, zI_neg, zI_le, zI_lt, zI_eq, zI_ix, zI_inI, Int.toNat_natCast, Int.toNat_add, Int.toNat_mul, true_and, and_true]; omega)]; rfl
  · rw [if_neg (by simp (disch := omega) only [zk_bind, zk_chk, zk_bnd, zk_some, zlp_l, zlp_r, zb_some, zb_bnd, zI_add, zI_sub, zI_mul, zI_neg, zI_le, zI_lt, zI_eq, zI_ix, zI_inI, Int.toNat_natCast, Int.toNat_add, Int.toNat_mul, true_and, and_true]; omega), if_pos (by simp (disch := omega) only [zk_bind, zk_chk, zk_bnd, zk_some, zlp_l, zlp_r, zb_some, zb_bnd, zI_add, zI_sub, zI_mul, zI_neg, zI_le, zI_lt, zI_eq, zI_ix, zI_inI, Int.toNat_natCast, Int.toNat_add, Int.toNat_mul, true_and, and_true]; omega)]; rfl
theorem zks_lt {key k : Nat} (hk : k < 7) : zks key k = (zdg key k : Int) - 1 := by unfold zks; rw [if_pos hk]
theorem zlenk {key n : Nat} (h : zisW key n) (M : ZMem) : f_X2_lengthOfKey M (zJ key) = some (zI n) := by
  obtain ⟨h1, h2, h3, h4⟩ := h
  apply zOk_is
  unfold f_X2_lengthOfKey
  rw [zk_bind]
  refine zOk_for0 (fun i x => x = zI i) n ?_ ?_ rfl
  · rintro i x hi rfl
    unfold f_X2_lengthOfKey_L2
    have := h3 i hi
    rw [if_neg (by simp (disch := omega) only [zk_bind, zk_chk, zk_bnd, zk_some, zlp_l, zlp_r, zb_some, zb_bnd, zI_add, zI_sub, zI_mul, zI_neg, zI_le, zI_lt, zI_eq, zI_ix, zI_inI, Int.toNat_natCast, Int.toNat_add, Int.toNat_mul, true_and, and_true]; omega), zsig h1 (by omega), zb_some, zks_lt (by omega), if_neg (by simp (disch := omega) only [zk_bind, zk_chk, zk_bnd, zk_some, zlp_l, zlp_r, zb_some, zb_bnd, zI_add, zI_sub, zI_mul, zI_neg, zI_le, zI_lt, zI_eq, zI_ix, zI_inI, Int.toNat_natCast, Int.toNat_add, Int.toNat_mul, true_and, and_true]; omega)]
    simp (disch := omega) only [zk_bind, zk_chk, zk_bnd, zk_some, zlp_l, zlp_r, zb_some, zb_bnd, zI_add, zI_sub, zI_mul, zI_neg, zI_le, zI_lt, zI_eq, zI_ix, zI_inI, Int.toNat_natCast, Int.toNat_add, Int.toNat_mul, true_and, and_true]
    exact (by first | omega | exact zI_inj (by omega))
  · rintro x rfl
    unfold f_X2_lengthOfKey_L2
    by_cases hn : n = 7
    · rw [if_pos (by simp (disch := omega) only [zk_bind, zk_chk, zk_bnd, zk_some, zlp_l, zlp_r, zb_some, zb_bnd, zI_add, zI_sub, zI_mul, zI_neg, zI_le, zI_lt, zI_eq, zI_ix, zI_inI, Int.toNat_natCast, Int.toNat_add, Int.toNat_mul, true_and, and_true]; omega)]
      simp (disch := omega) only [zk_bind, zk_chk, zk_bnd, zk_some, zlp_l, zlp_r, zb_some, zb_bnd, zI_add, zI_sub, zI_mul, zI_neg, zI_le, zI_lt, zI_eq, zI_ix, zI_inI, Int.toNat_natCast, Int.toNat_add, Int.toNat_mul, true_and, and_true]
    · rw [if_neg (by simp (disch := omega) only [zk_bind, zk_chk, zk_bnd, zk_some, zlp_l, zlp_r, zb_some, zb_bnd, zI_add, zI_sub, zI_mul, zI_neg, zI_le, zI_lt, zI_eq, zI_ix, zI_inI, Int.toNat_natCast, Int.toNat_add, Int.toNat_mul, true_and, and_true]; omega), zsig h1 (by omega), zb_some, zks_lt (by omega), h4 n (Nat.le_refl n) (by omega), if_pos (by decide)]
      simp (disch := omega) only [zk_bind, zk_chk, zk_bnd, zk_some, zlp_l, zlp_r, zb_some, zb_bnd, zI_add, zI_sub, zI_mul, zI_neg, zI_le, zI_lt, zI_eq, zI_ix, zI_inI, Int.toNat_natCast, Int.toNat_add, Int.toNat_mul, true_and, and_true]
