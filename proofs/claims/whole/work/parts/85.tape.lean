/-! ===== the tape ===== -/
def zbyte (v : Int32) (k : Nat) : Nat := v.toBitVec.toNat / 2 ^ k % 256
def zbytes (v : Int32) : List Nat := [zbyte v 24, zbyte v 16, zbyte v 8, zbyte v 0]
theorem zbyte_lt (v : Int32) (k : Nat) : zbyte v k < 256 := Nat.mod_lt _ (by decide)
theorem zlow (w : Int32) : ((w.toBitVec.toNat % 256 : Nat) : Int) = w.toInt % 256 := by
  have h : w.toInt = if 2 * w.toBitVec.toNat < 2 ^ 32 then (w.toBitVec.toNat : Int) else (w.toBitVec.toNat : Int) - (2 ^ 32 : Nat) := by
    rw [← Int32.toInt_toBitVec]
    exact BitVec.toInt_eq_toNat_cond _
  rw [h]
  split <;> omega
theorem zand255 (x : Int32) : x &&& zI 255 = zI (x.toInt % 256) := by
  rw [pk_and x 8 (by decide), zI_n, ← zlow]
theorem zbyte_c (v : Int32) : ∀ i, i < 4 → zushr v (zI (24 - 8 * (i : Nat))) &&& zI 255 = zI (zbyte v (24 - 8 * i)) := by
  intro i hi
  unfold zushr zbyte
  rw [pk_and _ 8 (by decide), zI_n]
  match i, hi with
  | 0, _ => rw [pk_ushr v (zI (24 - 8 * ((0 : Nat) : Int))) 24 (by decide)]
  | 1, _ => rw [pk_ushr v (zI (24 - 8 * ((1 : Nat) : Int))) 16 (by decide)]
  | 2, _ => rw [pk_ushr v (zI (24 - 8 * ((2 : Nat) : Int))) 8 (by decide)]
  | 3, _ => rw [pk_ushr v (zI (24 - 8 * ((3 : Nat) : Int))) 0 (by decide)]
theorem zi8 (x : Int32) : x.toInt8.toInt32 &&& zI 255 = x &&& zI 255 := by
  rw [zand255, zand255]
  congr 1
  rw [Int8.toInt_toInt32, Int32.toInt_toInt8]
  exact Int.bmod_emod
theorem zsh_toInt (v s : Int32) (k : Nat) (hs : (s.toBitVec.smod 32).toNat = k) : (v >>> s).toInt = v.toInt / (2 ^ k : Nat) := by
  rw [pk_shr v s k hs, Int.shiftRight_eq_div_pow]
theorem zbyte_toInt (v : Int32) (k : Nat) : (zbyte v k : Int) = v.toBitVec.toNat / (2 ^ k : Nat) % 256 := by
  unfold zbyte
  omega
theorem zvint (w : Int32) : w.toInt = w.toBitVec.toNat ∨ w.toInt = (w.toBitVec.toNat : Int) - 4294967296 := by
  have h : w.toInt = if 2 * w.toBitVec.toNat < 2 ^ 32 then (w.toBitVec.toNat : Int) else (w.toBitVec.toNat : Int) - (2 ^ 32 : Nat) := by
    rw [← Int32.toInt_toBitVec]
    exact BitVec.toInt_eq_toNat_cond _
  rw [h]
  split <;> omega
theorem zbyte_r (v : Int32) : ∀ i, i < 4 → (v >>> (zI (24 - 8 * (i : Nat)) &&& 31)).toInt8.toInt32 &&& zI 255 = zI (zbyte v (24 - 8 * i)) := by
  intro i hi
  rw [zi8, zand255]
  congr 1
  have hv := zvint v
  match i, hi with
  | 0, _ =>
    rw [zsh_toInt v _ 24 (by decide), zbyte_toInt]
    rcases hv with hv | hv <;> rw [hv] <;> omega
  | 1, _ =>
    rw [zsh_toInt v _ 16 (by decide), zbyte_toInt]
    rcases hv with hv | hv <;> rw [hv] <;> omega
  | 2, _ =>
    rw [zsh_toInt v _ 8 (by decide), zbyte_toInt]
    rcases hv with hv | hv <;> rw [hv] <;> omega
  | 3, _ =>
    rw [zsh_toInt v _ 0 (by decide), zbyte_toInt]
    rcases hv with hv | hv <;> rw [hv] <;> omega
def tapeC (t : List Nat) (C : ZMem) : Prop := C.1 1 1 = zI t.length ∧ ∀ i, i < t.length → C.1 2 i = zI (t.getD i 0)
def tapeR (t : List Nat) (R : ZMem) : Prop := R.1 0 1 = zI t.length ∧ ∀ i, i < t.length → R.1 1 i &&& zI 255 = zI (t.getD i 0)
theorem tapeC_snoc {t : List Nat} {b : Nat} {M M' : ZMem} (h : tapeC t M) (h1 : M'.1 1 1 = zI (t.length + 1)) (h2 : M'.1 2 t.length = zI b) (h3 : ∀ j, j < t.length → M'.1 2 j = M.1 2 j) : tapeC (t ++ [b]) M' := by
  refine ⟨by rw [h1, List.length_append]; rfl, fun i hi => ?_⟩
  rw [List.length_append, List.length_singleton] at hi
  by_cases hj : i < t.length
  · rw [h3 i hj, h.2 i hj, List.getD_eq_getElem?_getD, List.getD_eq_getElem?_getD, List.getElem?_append_left hj]
  · have e : i = t.length := by omega
    subst e
    rw [h2]
    simp
theorem tapeR_snoc {t : List Nat} {b : Nat} {M M' : ZMem} (h : tapeR t M) (h1 : M'.1 0 1 = zI (t.length + 1)) (h2 : M'.1 1 t.length &&& zI 255 = zI b) (h3 : ∀ j, j < t.length → M'.1 1 j = M.1 1 j) : tapeR (t ++ [b]) M' := by
  refine ⟨by rw [h1, List.length_append]; rfl, fun i hi => ?_⟩
  rw [List.length_append, List.length_singleton] at hi
  by_cases hj : i < t.length
  · rw [h3 i hj, h.2 i hj, List.getD_eq_getElem?_getD, List.getD_eq_getElem?_getD, List.getElem?_append_left hj]
  · have e : i = t.length := by omega
    subst e
    rw [h2]
    simp
theorem zbytes_take (v : Int32) : ∀ i, i < 4 → (zbytes v).take (i + 1) = (zbytes v).take i ++ [zbyte v (24 - 8 * i)] := by
  intro i hi
  match i, hi with
  | 0, _ => rfl
  | 1, _ => rfl
  | 2, _ => rfl
  | 3, _ => rfl
theorem zp_put (M : ZMem) (t : List Nat) (v : Int32) (h : tapeC t M) (hl : t.length + 4 ≤ 300) : zOk (f_X8_put M v) (fun M' => tapeC (t ++ zbytes v) M') := by
  unfold f_X8_put
  rw [zk_bind]
  refine zOk_for0 (fun i s => s.2 = zI (24 - 8 * (i : Nat)) ∧ tapeC (t ++ (zbytes v).take i) s.1) 4 ?_ ?_ ?_
  · intro i s hi ⟨h1, h2⟩
    unfold f_X8_put_L3
    have hlen : (t ++ (zbytes v).take i).length = t.length + i := by simp [zbytes]; omega
    have h3 := h2.1
    rw [hlen] at h3
    rw [h1, h3]
    rw [if_neg (by rw [zI_lt (by omega) (by omega) (by omega) (by omega)]; omega)]
    rw [if_neg (by rw [zI_le (by omega) (by omega) (by omega) (by omega)]; omega)]
    rw [zk_chk, zk_bnd, zk_bnd, zk_bnd, zk_some]
    refine ⟨zI_inI (by omega) (by omega) (by omega), ?_, ?_⟩
    · rw [zI_add]
      exact congrArg zI (by omega)
    · rw [zI_ix (by omega) (by omega), zbyte_c v i hi, show ((t.length + i : Nat) : Int).toNat = t.length + i by omega, zbytes_take v i hi, ← List.append_assoc]
      refine tapeC_snoc h2 ?_ ?_ ?_
      · rw [zm_Is, zm_Iq _ _ _ _ (by decide), h3, hlen, zI_add]
        (try rfl)
      · rw [zm_Iq _ _ _ _ (by decide), hlen, zm_Is]
      · intro j hj
        rw [zm_Iq _ _ _ _ (by decide), zm_In _ _ _ _ (by omega)]
  · intro s ⟨h1, h2⟩
    unfold f_X8_put_L3
    rw [h1, if_pos (by decide), zk_some]
    exact zk_some.mpr h2
  · refine ⟨rfl, ?_⟩
    rw [List.take_zero, List.append_nil]
    exact h
theorem zp_puts (M : ZMem) (t : List Nat) (v : Int32) (h : tapeR t M) (hl : t.length + 4 ≤ 300) : zOk (f_X12_puts M v) (fun M' => tapeR (t ++ zbytes v) M') := by
  unfold f_X12_puts
  rw [zk_bind]
  refine zOk_for0 (fun i s => s.2 = zI (24 - 8 * (i : Nat)) ∧ tapeR (t ++ (zbytes v).take i) s.1) 4 ?_ ?_ ?_
  · intro i s hi ⟨h1, h2⟩
    unfold f_X12_puts_L3
    have hlen : (t ++ (zbytes v).take i).length = t.length + i := by simp [zbytes]; omega
    have h3 := h2.1
    rw [hlen] at h3
    rw [h1, h3]
    rw [if_neg (by rw [zI_lt (by omega) (by omega) (by omega) (by omega)]; omega)]
    rw [zk_chk, zk_bnd, zk_bnd, zk_bnd, zk_some]
    refine ⟨zI_inI (by omega) (by omega) (by omega), ?_, ?_⟩
    · rw [zI_add]
      exact congrArg zI (by omega)
    · rw [zI_ix (by omega) (by omega), pk_vb, show ((t.length + i : Nat) : Int).toNat = t.length + i by omega, zbytes_take v i hi, ← List.append_assoc]
      refine tapeR_snoc h2 ?_ ?_ ?_
      · rw [zm_Is, zm_Iq _ _ _ _ (by decide), h3, hlen, zI_add]
        (try rfl)
      · rw [zm_Iq _ _ _ _ (by decide), hlen, zm_Is]
        exact zbyte_r v i hi
      · intro j hj
        rw [zm_Iq _ _ _ _ (by decide), zm_In _ _ _ _ (by omega)]
  · intro s ⟨h1, h2⟩
    unfold f_X12_puts_L3
    rw [h1, if_pos (by decide), zk_some]
    exact zk_some.mpr h2
  · refine ⟨rfl, ?_⟩
    rw [List.take_zero, List.append_nil]
    exact h
